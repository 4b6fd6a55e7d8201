theorem dX0_init_0 : decode cX0_init 0 = .ok (.aload_n 0, 1) := by decide +kernel
theorem dX0_init_1 : decode cX0_init 1 = .ok (.invokespecial 1, 3) := by decide +kernel
theorem dX0_init_4 : decode cX0_init 4 = .ok (.aload_n 0, 1) := by decide +kernel
theorem dX0_init_5 : decode cX0_init 5 = .ok (.iload_n 1, 1) := by decide +kernel
theorem dX0_init_6 : decode cX0_init 6 = .ok (.ifCond .ge 7, 3) := by decide +kernel
theorem dX0_init_9 : decode cX0_init 9 = .ok (.iconst 0, 1) := by decide +kernel
theorem dX0_init_10 : decode cX0_init 10 = .ok (.goto 4, 3) := by decide +kernel
theorem dX0_init_13 : decode cX0_init 13 = .ok (.iload_n 1, 1) := by decide +kernel
theorem dX0_init_14 : decode cX0_init 14 = .ok (.newarray .int, 2) := by decide +kernel
theorem dX0_init_16 : decode cX0_init 16 = .ok (.putfield 7, 3) := by decide +kernel
theorem dX0_init_19 : decode cX0_init 19 = .ok (.return_, 1) := by decide +kernel
theorem dX0_at_0 : decode cX0_at 0 = .ok (.iload_n 1, 1) := by decide +kernel
theorem dX0_at_1 : decode cX0_at 1 = .ok (.ifCond .lt 21, 3) := by decide +kernel
theorem dX0_at_4 : decode cX0_at 4 = .ok (.iload_n 1, 1) := by decide +kernel
theorem dX0_at_5 : decode cX0_at 5 = .ok (.aload_n 0, 1) := by decide +kernel
theorem dX0_at_6 : decode cX0_at 6 = .ok (.getfield 7, 3) := by decide +kernel
theorem dX0_at_9 : decode cX0_at 9 = .ok (.arraylength, 1) := by decide +kernel
theorem dX0_at_10 : decode cX0_at 10 = .ok (.if_icmp .ge 12, 3) := by decide +kernel
theorem dX0_at_13 : decode cX0_at 13 = .ok (.aload_n 0, 1) := by decide +kernel
theorem dX0_at_14 : decode cX0_at 14 = .ok (.getfield 7, 3) := by decide +kernel
theorem dX0_at_17 : decode cX0_at 17 = .ok (.iload_n 1, 1) := by decide +kernel
theorem dX0_at_18 : decode cX0_at 18 = .ok (.iaload, 1) := by decide +kernel
theorem dX0_at_19 : decode cX0_at 19 = .ok (.goto 4, 3) := by decide +kernel
theorem dX0_at_22 : decode cX0_at 22 = .ok (.iconst 0, 1) := by decide +kernel
theorem dX0_at_23 : decode cX0_at 23 = .ok (.ireturn, 1) := by decide +kernel
theorem dX0_write_0 : decode cX0_write 0 = .ok (.iload_n 1, 1) := by decide +kernel
theorem dX0_write_1 : decode cX0_write 1 = .ok (.ifCond .lt 19, 3) := by decide +kernel
theorem dX0_write_4 : decode cX0_write 4 = .ok (.iload_n 1, 1) := by decide +kernel
theorem dX0_write_5 : decode cX0_write 5 = .ok (.aload_n 0, 1) := by decide +kernel
theorem dX0_write_6 : decode cX0_write 6 = .ok (.getfield 7, 3) := by decide +kernel
theorem dX0_write_9 : decode cX0_write 9 = .ok (.arraylength, 1) := by decide +kernel
theorem dX0_write_10 : decode cX0_write 10 = .ok (.if_icmp .ge 10, 3) := by decide +kernel
theorem dX0_write_13 : decode cX0_write 13 = .ok (.aload_n 0, 1) := by decide +kernel
theorem dX0_write_14 : decode cX0_write 14 = .ok (.getfield 7, 3) := by decide +kernel
theorem dX0_write_17 : decode cX0_write 17 = .ok (.iload_n 1, 1) := by decide +kernel
theorem dX0_write_18 : decode cX0_write 18 = .ok (.iload_n 2, 1) := by decide +kernel
theorem dX0_write_19 : decode cX0_write 19 = .ok (.iastore, 1) := by decide +kernel
theorem dX0_write_20 : decode cX0_write 20 = .ok (.return_, 1) := by decide +kernel
theorem dX0_clear_0 : decode cX0_clear 0 = .ok (.iconst 0, 1) := by decide +kernel
theorem dX0_clear_1 : decode cX0_clear 1 = .ok (.istore_n 1, 1) := by decide +kernel
theorem dX0_clear_2 : decode cX0_clear 2 = .ok (.iload_n 1, 1) := by decide +kernel
theorem dX0_clear_3 : decode cX0_clear 3 = .ok (.aload_n 0, 1) := by decide +kernel
theorem dX0_clear_4 : decode cX0_clear 4 = .ok (.getfield 7, 3) := by decide +kernel
theorem dX0_clear_7 : decode cX0_clear 7 = .ok (.arraylength, 1) := by decide +kernel
theorem dX0_clear_8 : decode cX0_clear 8 = .ok (.if_icmp .ge 16, 3) := by decide +kernel
theorem dX0_clear_11 : decode cX0_clear 11 = .ok (.aload_n 0, 1) := by decide +kernel
theorem dX0_clear_12 : decode cX0_clear 12 = .ok (.getfield 7, 3) := by decide +kernel
theorem dX0_clear_15 : decode cX0_clear 15 = .ok (.iload_n 1, 1) := by decide +kernel
theorem dX0_clear_16 : decode cX0_clear 16 = .ok (.iconst 0, 1) := by decide +kernel
theorem dX0_clear_17 : decode cX0_clear 17 = .ok (.iastore, 1) := by decide +kernel
theorem dX0_clear_18 : decode cX0_clear 18 = .ok (.iinc 1 1, 3) := by decide +kernel
theorem dX0_clear_21 : decode cX0_clear 21 = .ok (.goto (-19), 3) := by decide +kernel
theorem dX0_clear_24 : decode cX0_clear 24 = .ok (.return_, 1) := by decide +kernel
theorem dX0_copyFrom_0 : decode cX0_copyFrom 0 = .ok (.aload_n 1, 1) := by decide +kernel
theorem dX0_copyFrom_1 : decode cX0_copyFrom 1 = .ok (.getfield 7, 3) := by decide +kernel
theorem dX0_copyFrom_4 : decode cX0_copyFrom 4 = .ok (.iconst 0, 1) := by decide +kernel
theorem dX0_copyFrom_5 : decode cX0_copyFrom 5 = .ok (.aload_n 0, 1) := by decide +kernel
theorem dX0_copyFrom_6 : decode cX0_copyFrom 6 = .ok (.getfield 7, 3) := by decide +kernel
theorem dX0_copyFrom_9 : decode cX0_copyFrom 9 = .ok (.iconst 0, 1) := by decide +kernel
theorem dX0_copyFrom_10 : decode cX0_copyFrom 10 = .ok (.aload_n 0, 1) := by decide +kernel
theorem dX0_copyFrom_11 : decode cX0_copyFrom 11 = .ok (.getfield 7, 3) := by decide +kernel
theorem dX0_copyFrom_14 : decode cX0_copyFrom 14 = .ok (.arraylength, 1) := by decide +kernel
theorem dX0_copyFrom_15 : decode cX0_copyFrom 15 = .ok (.aload_n 1, 1) := by decide +kernel
theorem dX0_copyFrom_16 : decode cX0_copyFrom 16 = .ok (.getfield 7, 3) := by decide +kernel
theorem dX0_copyFrom_19 : decode cX0_copyFrom 19 = .ok (.arraylength, 1) := by decide +kernel
theorem dX0_copyFrom_20 : decode cX0_copyFrom 20 = .ok (.invokestatic 13, 3) := by decide +kernel
theorem dX0_copyFrom_23 : decode cX0_copyFrom 23 = .ok (.invokestatic 19, 3) := by decide +kernel
theorem dX0_copyFrom_26 : decode cX0_copyFrom 26 = .ok (.return_, 1) := by decide +kernel
theorem dX1_init_0 : decode cX1_init 0 = .ok (.aload_n 0, 1) := by decide +kernel
theorem dX1_init_1 : decode cX1_init 1 = .ok (.invokespecial 3, 3) := by decide +kernel
theorem dX1_init_4 : decode cX1_init 4 = .ok (.aload_n 0, 1) := by decide +kernel
theorem dX1_init_5 : decode cX1_init 5 = .ok (.iconst 4, 1) := by decide +kernel
theorem dX1_init_6 : decode cX1_init 6 = .ok (.anewarray 9, 3) := by decide +kernel
theorem dX1_init_9 : decode cX1_init 9 = .ok (.putfield 11, 3) := by decide +kernel
theorem dX1_init_12 : decode cX1_init 12 = .ok (.aload_n 0, 1) := by decide +kernel
theorem dX1_init_13 : decode cX1_init 13 = .ok (.new 9, 3) := by decide +kernel
theorem dX1_init_16 : decode cX1_init 16 = .ok (.dup, 1) := by decide +kernel
theorem dX1_init_17 : decode cX1_init 17 = .ok (.invokespecial 17, 3) := by decide +kernel
theorem dX1_init_20 : decode cX1_init 20 = .ok (.putfield 18, 3) := by decide +kernel
theorem dX1_init_23 : decode cX1_init 23 = .ok (.iconst 0, 1) := by decide +kernel
theorem dX1_init_24 : decode cX1_init 24 = .ok (.istore_n 1, 1) := by decide +kernel
theorem dX1_init_25 : decode cX1_init 25 = .ok (.iload_n 1, 1) := by decide +kernel
theorem dX1_init_26 : decode cX1_init 26 = .ok (.aload_n 0, 1) := by decide +kernel
theorem dX1_init_27 : decode cX1_init 27 = .ok (.getfield 11, 3) := by decide +kernel
theorem dX1_init_30 : decode cX1_init 30 = .ok (.arraylength, 1) := by decide +kernel
theorem dX1_init_31 : decode cX1_init 31 = .ok (.if_icmp .ge 22, 3) := by decide +kernel
theorem dX1_init_34 : decode cX1_init 34 = .ok (.aload_n 0, 1) := by decide +kernel
theorem dX1_init_35 : decode cX1_init 35 = .ok (.getfield 11, 3) := by decide +kernel
theorem dX1_init_38 : decode cX1_init 38 = .ok (.iload_n 1, 1) := by decide +kernel
theorem dX1_init_39 : decode cX1_init 39 = .ok (.new 9, 3) := by decide +kernel
theorem dX1_init_42 : decode cX1_init 42 = .ok (.dup, 1) := by decide +kernel
theorem dX1_init_43 : decode cX1_init 43 = .ok (.invokespecial 17, 3) := by decide +kernel
theorem dX1_init_46 : decode cX1_init 46 = .ok (.aastore, 1) := by decide +kernel
theorem dX1_init_47 : decode cX1_init 47 = .ok (.iinc 1 1, 3) := by decide +kernel
theorem dX1_init_50 : decode cX1_init 50 = .ok (.goto (-25), 3) := by decide +kernel
theorem dX1_init_53 : decode cX1_init 53 = .ok (.return_, 1) := by decide +kernel
theorem dX1_record_0 : decode cX1_record 0 = .ok (.aload_n 0, 1) := by decide +kernel
theorem dX1_record_1 : decode cX1_record 1 = .ok (.getfield 22, 3) := by decide +kernel
theorem dX1_record_4 : decode cX1_record 4 = .ok (.aload_n 0, 1) := by decide +kernel
theorem dX1_record_5 : decode cX1_record 5 = .ok (.getfield 11, 3) := by decide +kernel
theorem dX1_record_8 : decode cX1_record 8 = .ok (.arraylength, 1) := by decide +kernel
theorem dX1_record_9 : decode cX1_record 9 = .ok (.if_icmp .lt 18, 3) := by decide +kernel
theorem dX1_record_12 : decode cX1_record 12 = .ok (.aload_n 0, 1) := by decide +kernel
theorem dX1_record_13 : decode cX1_record 13 = .ok (.invokevirtual 26, 3) := by decide +kernel
theorem dX1_record_16 : decode cX1_record 16 = .ok (.aload_n 0, 1) := by decide +kernel
theorem dX1_record_17 : decode cX1_record 17 = .ok (.aload_n 0, 1) := by decide +kernel
theorem dX1_record_18 : decode cX1_record 18 = .ok (.getfield 11, 3) := by decide +kernel
theorem dX1_record_21 : decode cX1_record 21 = .ok (.arraylength, 1) := by decide +kernel
theorem dX1_record_22 : decode cX1_record 22 = .ok (.iconst 1, 1) := by decide +kernel
theorem dX1_record_23 : decode cX1_record 23 = .ok (.isub, 1) := by decide +kernel
theorem dX1_record_24 : decode cX1_record 24 = .ok (.putfield 22, 3) := by decide +kernel
theorem dX1_record_27 : decode cX1_record 27 = .ok (.aload_n 0, 1) := by decide +kernel
theorem dX1_record_28 : decode cX1_record 28 = .ok (.aload_n 0, 1) := by decide +kernel
theorem dX1_record_29 : decode cX1_record 29 = .ok (.getfield 22, 3) := by decide +kernel
theorem dX1_record_32 : decode cX1_record 32 = .ok (.invokevirtual 29, 3) := by decide +kernel
theorem dX1_record_35 : decode cX1_record 35 = .ok (.astore_n 2, 1) := by decide +kernel
theorem dX1_record_36 : decode cX1_record 36 = .ok (.aload_n 2, 1) := by decide +kernel
theorem dX1_record_37 : decode cX1_record 37 = .ok (.ifnull 18, 3) := by decide +kernel
theorem dX1_record_40 : decode cX1_record 40 = .ok (.aload_n 2, 1) := by decide +kernel
theorem dX1_record_41 : decode cX1_record 41 = .ok (.aload_n 1, 1) := by decide +kernel
theorem dX1_record_42 : decode cX1_record 42 = .ok (.invokevirtual 33, 3) := by decide +kernel
theorem dX1_record_45 : decode cX1_record 45 = .ok (.aload_n 0, 1) := by decide +kernel
theorem dX1_record_46 : decode cX1_record 46 = .ok (.dup, 1) := by decide +kernel
theorem dX1_record_47 : decode cX1_record 47 = .ok (.getfield 22, 3) := by decide +kernel
theorem dX1_record_50 : decode cX1_record 50 = .ok (.iconst 1, 1) := by decide +kernel
theorem dX1_record_51 : decode cX1_record 51 = .ok (.iadd, 1) := by decide +kernel
theorem dX1_record_52 : decode cX1_record 52 = .ok (.putfield 22, 3) := by decide +kernel
theorem dX1_record_55 : decode cX1_record 55 = .ok (.return_, 1) := by decide +kernel
theorem dX1_putOldestLast_0 : decode cX1_putOldestLast 0 = .ok (.iconst 1, 1) := by decide +kernel
theorem dX1_putOldestLast_1 : decode cX1_putOldestLast 1 = .ok (.istore_n 1, 1) := by decide +kernel
theorem dX1_putOldestLast_2 : decode cX1_putOldestLast 2 = .ok (.iload_n 1, 1) := by decide +kernel
theorem dX1_putOldestLast_3 : decode cX1_putOldestLast 3 = .ok (.aload_n 0, 1) := by decide +kernel
theorem dX1_putOldestLast_4 : decode cX1_putOldestLast 4 = .ok (.getfield 11, 3) := by decide +kernel
theorem dX1_putOldestLast_7 : decode cX1_putOldestLast 7 = .ok (.arraylength, 1) := by decide +kernel
theorem dX1_putOldestLast_8 : decode cX1_putOldestLast 8 = .ok (.if_icmp .ge 39, 3) := by decide +kernel
theorem dX1_putOldestLast_11 : decode cX1_putOldestLast 11 = .ok (.aload_n 0, 1) := by decide +kernel
theorem dX1_putOldestLast_12 : decode cX1_putOldestLast 12 = .ok (.getfield 11, 3) := by decide +kernel
theorem dX1_putOldestLast_15 : decode cX1_putOldestLast 15 = .ok (.iload_n 1, 1) := by decide +kernel
theorem dX1_putOldestLast_16 : decode cX1_putOldestLast 16 = .ok (.iconst 1, 1) := by decide +kernel
theorem dX1_putOldestLast_17 : decode cX1_putOldestLast 17 = .ok (.isub, 1) := by decide +kernel
theorem dX1_putOldestLast_18 : decode cX1_putOldestLast 18 = .ok (.aaload, 1) := by decide +kernel
theorem dX1_putOldestLast_19 : decode cX1_putOldestLast 19 = .ok (.astore_n 2, 1) := by decide +kernel
theorem dX1_putOldestLast_20 : decode cX1_putOldestLast 20 = .ok (.aload_n 0, 1) := by decide +kernel
theorem dX1_putOldestLast_21 : decode cX1_putOldestLast 21 = .ok (.getfield 11, 3) := by decide +kernel
theorem dX1_putOldestLast_24 : decode cX1_putOldestLast 24 = .ok (.iload_n 1, 1) := by decide +kernel
theorem dX1_putOldestLast_25 : decode cX1_putOldestLast 25 = .ok (.iconst 1, 1) := by decide +kernel
theorem dX1_putOldestLast_26 : decode cX1_putOldestLast 26 = .ok (.isub, 1) := by decide +kernel
theorem dX1_putOldestLast_27 : decode cX1_putOldestLast 27 = .ok (.aload_n 0, 1) := by decide +kernel
theorem dX1_putOldestLast_28 : decode cX1_putOldestLast 28 = .ok (.getfield 11, 3) := by decide +kernel
theorem dX1_putOldestLast_31 : decode cX1_putOldestLast 31 = .ok (.iload_n 1, 1) := by decide +kernel
theorem dX1_putOldestLast_32 : decode cX1_putOldestLast 32 = .ok (.aaload, 1) := by decide +kernel
theorem dX1_putOldestLast_33 : decode cX1_putOldestLast 33 = .ok (.aastore, 1) := by decide +kernel
theorem dX1_putOldestLast_34 : decode cX1_putOldestLast 34 = .ok (.aload_n 0, 1) := by decide +kernel
theorem dX1_putOldestLast_35 : decode cX1_putOldestLast 35 = .ok (.getfield 11, 3) := by decide +kernel
theorem dX1_putOldestLast_38 : decode cX1_putOldestLast 38 = .ok (.iload_n 1, 1) := by decide +kernel
theorem dX1_putOldestLast_39 : decode cX1_putOldestLast 39 = .ok (.aload_n 2, 1) := by decide +kernel
theorem dX1_putOldestLast_40 : decode cX1_putOldestLast 40 = .ok (.aastore, 1) := by decide +kernel
theorem dX1_putOldestLast_41 : decode cX1_putOldestLast 41 = .ok (.iinc 1 1, 3) := by decide +kernel
theorem dX1_putOldestLast_44 : decode cX1_putOldestLast 44 = .ok (.goto (-42), 3) := by decide +kernel
theorem dX1_putOldestLast_47 : decode cX1_putOldestLast 47 = .ok (.return_, 1) := by decide +kernel
theorem dX1_giveBack_0 : decode cX1_giveBack 0 = .ok (.aload_n 0, 1) := by decide +kernel
theorem dX1_giveBack_1 : decode cX1_giveBack 1 = .ok (.aload_n 0, 1) := by decide +kernel
theorem dX1_giveBack_2 : decode cX1_giveBack 2 = .ok (.getfield 22, 3) := by decide +kernel
theorem dX1_giveBack_5 : decode cX1_giveBack 5 = .ok (.iconst 1, 1) := by decide +kernel
theorem dX1_giveBack_6 : decode cX1_giveBack 6 = .ok (.isub, 1) := by decide +kernel
theorem dX1_giveBack_7 : decode cX1_giveBack 7 = .ok (.invokevirtual 29, 3) := by decide +kernel
theorem dX1_giveBack_10 : decode cX1_giveBack 10 = .ok (.astore_n 2, 1) := by decide +kernel
theorem dX1_giveBack_11 : decode cX1_giveBack 11 = .ok (.aload_n 2, 1) := by decide +kernel
theorem dX1_giveBack_12 : decode cX1_giveBack 12 = .ok (.ifnull 18, 3) := by decide +kernel
theorem dX1_giveBack_15 : decode cX1_giveBack 15 = .ok (.aload_n 1, 1) := by decide +kernel
theorem dX1_giveBack_16 : decode cX1_giveBack 16 = .ok (.aload_n 2, 1) := by decide +kernel
theorem dX1_giveBack_17 : decode cX1_giveBack 17 = .ok (.invokevirtual 33, 3) := by decide +kernel
theorem dX1_giveBack_20 : decode cX1_giveBack 20 = .ok (.aload_n 0, 1) := by decide +kernel
theorem dX1_giveBack_21 : decode cX1_giveBack 21 = .ok (.dup, 1) := by decide +kernel
theorem dX1_giveBack_22 : decode cX1_giveBack 22 = .ok (.getfield 22, 3) := by decide +kernel
theorem dX1_giveBack_25 : decode cX1_giveBack 25 = .ok (.iconst 1, 1) := by decide +kernel
theorem dX1_giveBack_26 : decode cX1_giveBack 26 = .ok (.isub, 1) := by decide +kernel
theorem dX1_giveBack_27 : decode cX1_giveBack 27 = .ok (.putfield 22, 3) := by decide +kernel
theorem dX1_giveBack_30 : decode cX1_giveBack 30 = .ok (.return_, 1) := by decide +kernel
theorem dX1_stateAt_0 : decode cX1_stateAt 0 = .ok (.iload_n 1, 1) := by decide +kernel
theorem dX1_stateAt_1 : decode cX1_stateAt 1 = .ok (.ifCond .lt 21, 3) := by decide +kernel
theorem dX1_stateAt_4 : decode cX1_stateAt 4 = .ok (.iload_n 1, 1) := by decide +kernel
theorem dX1_stateAt_5 : decode cX1_stateAt 5 = .ok (.aload_n 0, 1) := by decide +kernel
theorem dX1_stateAt_6 : decode cX1_stateAt 6 = .ok (.getfield 11, 3) := by decide +kernel
theorem dX1_stateAt_9 : decode cX1_stateAt 9 = .ok (.arraylength, 1) := by decide +kernel
theorem dX1_stateAt_10 : decode cX1_stateAt 10 = .ok (.if_icmp .ge 12, 3) := by decide +kernel
theorem dX1_stateAt_13 : decode cX1_stateAt 13 = .ok (.aload_n 0, 1) := by decide +kernel
theorem dX1_stateAt_14 : decode cX1_stateAt 14 = .ok (.getfield 11, 3) := by decide +kernel
theorem dX1_stateAt_17 : decode cX1_stateAt 17 = .ok (.iload_n 1, 1) := by decide +kernel
theorem dX1_stateAt_18 : decode cX1_stateAt 18 = .ok (.aaload, 1) := by decide +kernel
theorem dX1_stateAt_19 : decode cX1_stateAt 19 = .ok (.goto 4, 3) := by decide +kernel
theorem dX1_stateAt_22 : decode cX1_stateAt 22 = .ok (.aconst_null, 1) := by decide +kernel
theorem dX1_stateAt_23 : decode cX1_stateAt 23 = .ok (.areturn, 1) := by decide +kernel
theorem dX2_init_0 : decode cX2_init 0 = .ok (.aload_n 0, 1) := by decide +kernel
theorem dX2_init_1 : decode cX2_init 1 = .ok (.invokespecial 3, 3) := by decide +kernel
theorem dX2_init_4 : decode cX2_init 4 = .ok (.aload_n 0, 1) := by decide +kernel
theorem dX2_init_5 : decode cX2_init 5 = .ok (.sipush (-1005), 3) := by decide +kernel
theorem dX2_init_8 : decode cX2_init 8 = .ok (.putfield 9, 3) := by decide +kernel
theorem dX2_init_11 : decode cX2_init 11 = .ok (.aload_n 0, 1) := by decide +kernel
theorem dX2_init_12 : decode cX2_init 12 = .ok (.iconst 0, 1) := by decide +kernel
theorem dX2_init_13 : decode cX2_init 13 = .ok (.putfield 15, 3) := by decide +kernel
theorem dX2_init_16 : decode cX2_init 16 = .ok (.aload_n 0, 1) := by decide +kernel
theorem dX2_init_17 : decode cX2_init 17 = .ok (.new 18, 3) := by decide +kernel
theorem dX2_init_20 : decode cX2_init 20 = .ok (.dup, 1) := by decide +kernel
theorem dX2_init_21 : decode cX2_init 21 = .ok (.bipush 60, 2) := by decide +kernel
theorem dX2_init_23 : decode cX2_init 23 = .ok (.invokespecial 20, 3) := by decide +kernel
theorem dX2_init_26 : decode cX2_init 26 = .ok (.putfield 23, 3) := by decide +kernel
theorem dX2_init_29 : decode cX2_init 29 = .ok (.aload_n 0, 1) := by decide +kernel
theorem dX2_init_30 : decode cX2_init 30 = .ok (.new 18, 3) := by decide +kernel
theorem dX2_init_33 : decode cX2_init 33 = .ok (.dup, 1) := by decide +kernel
theorem dX2_init_34 : decode cX2_init 34 = .ok (.bipush 60, 2) := by decide +kernel
theorem dX2_init_36 : decode cX2_init 36 = .ok (.invokespecial 20, 3) := by decide +kernel
theorem dX2_init_39 : decode cX2_init 39 = .ok (.putfield 27, 3) := by decide +kernel
theorem dX2_init_42 : decode cX2_init 42 = .ok (.aload_n 0, 1) := by decide +kernel
theorem dX2_init_43 : decode cX2_init 43 = .ok (.new 18, 3) := by decide +kernel
theorem dX2_init_46 : decode cX2_init 46 = .ok (.dup, 1) := by decide +kernel
theorem dX2_init_47 : decode cX2_init 47 = .ok (.bipush 60, 2) := by decide +kernel
theorem dX2_init_49 : decode cX2_init 49 = .ok (.invokespecial 20, 3) := by decide +kernel
theorem dX2_init_52 : decode cX2_init 52 = .ok (.putfield 30, 3) := by decide +kernel
theorem dX2_init_55 : decode cX2_init 55 = .ok (.aload_n 0, 1) := by decide +kernel
theorem dX2_init_56 : decode cX2_init 56 = .ok (.new 18, 3) := by decide +kernel
theorem dX2_init_59 : decode cX2_init 59 = .ok (.dup, 1) := by decide +kernel
theorem dX2_init_60 : decode cX2_init 60 = .ok (.bipush 6, 2) := by decide +kernel
theorem dX2_init_62 : decode cX2_init 62 = .ok (.invokespecial 20, 3) := by decide +kernel
theorem dX2_init_65 : decode cX2_init 65 = .ok (.putfield 33, 3) := by decide +kernel
theorem dX2_init_68 : decode cX2_init 68 = .ok (.aload_n 0, 1) := by decide +kernel
theorem dX2_init_69 : decode cX2_init 69 = .ok (.new 18, 3) := by decide +kernel
theorem dX2_init_72 : decode cX2_init 72 = .ok (.dup, 1) := by decide +kernel
theorem dX2_init_73 : decode cX2_init 73 = .ok (.bipush 6, 2) := by decide +kernel
theorem dX2_init_75 : decode cX2_init 75 = .ok (.invokespecial 20, 3) := by decide +kernel
theorem dX2_init_78 : decode cX2_init 78 = .ok (.putfield 36, 3) := by decide +kernel
theorem dX2_init_81 : decode cX2_init 81 = .ok (.aload_n 0, 1) := by decide +kernel
theorem dX2_init_82 : decode cX2_init 82 = .ok (.new 18, 3) := by decide +kernel
theorem dX2_init_85 : decode cX2_init 85 = .ok (.dup, 1) := by decide +kernel
theorem dX2_init_86 : decode cX2_init 86 = .ok (.bipush 6, 2) := by decide +kernel
theorem dX2_init_88 : decode cX2_init 88 = .ok (.invokespecial 20, 3) := by decide +kernel
theorem dX2_init_91 : decode cX2_init 91 = .ok (.putfield 39, 3) := by decide +kernel
theorem dX2_init_94 : decode cX2_init 94 = .ok (.return_, 1) := by decide +kernel
theorem dX2_forget_0 : decode cX2_forget 0 = .ok (.aload_n 0, 1) := by decide +kernel
theorem dX2_forget_1 : decode cX2_forget 1 = .ok (.iconst 0, 1) := by decide +kernel
theorem dX2_forget_2 : decode cX2_forget 2 = .ok (.putfield 42, 3) := by decide +kernel
theorem dX2_forget_5 : decode cX2_forget 5 = .ok (.aload_n 0, 1) := by decide +kernel
theorem dX2_forget_6 : decode cX2_forget 6 = .ok (.sipush (-1005), 3) := by decide +kernel
theorem dX2_forget_9 : decode cX2_forget 9 = .ok (.putfield 9, 3) := by decide +kernel
theorem dX2_forget_12 : decode cX2_forget 12 = .ok (.aload_n 0, 1) := by decide +kernel
theorem dX2_forget_13 : decode cX2_forget 13 = .ok (.iconst 0, 1) := by decide +kernel
theorem dX2_forget_14 : decode cX2_forget 14 = .ok (.putfield 15, 3) := by decide +kernel
theorem dX2_forget_17 : decode cX2_forget 17 = .ok (.aload_n 0, 1) := by decide +kernel
theorem dX2_forget_18 : decode cX2_forget 18 = .ok (.iconst 0, 1) := by decide +kernel
theorem dX2_forget_19 : decode cX2_forget 19 = .ok (.putfield 45, 3) := by decide +kernel
theorem dX2_forget_22 : decode cX2_forget 22 = .ok (.aload_n 0, 1) := by decide +kernel
theorem dX2_forget_23 : decode cX2_forget 23 = .ok (.iconst 0, 1) := by decide +kernel
theorem dX2_forget_24 : decode cX2_forget 24 = .ok (.putfield 48, 3) := by decide +kernel
theorem dX2_forget_27 : decode cX2_forget 27 = .ok (.aload_n 0, 1) := by decide +kernel
theorem dX2_forget_28 : decode cX2_forget 28 = .ok (.iconst 0, 1) := by decide +kernel
theorem dX2_forget_29 : decode cX2_forget 29 = .ok (.putfield 51, 3) := by decide +kernel
theorem dX2_forget_32 : decode cX2_forget 32 = .ok (.return_, 1) := by decide +kernel
theorem dX2_read_0 : decode cX2_read 0 = .ok (.aload_n 0, 1) := by decide +kernel
theorem dX2_read_1 : decode cX2_read 1 = .ok (.getfield 9, 3) := by decide +kernel
theorem dX2_read_4 : decode cX2_read 4 = .ok (.sipush (-1005), 3) := by decide +kernel
theorem dX2_read_7 : decode cX2_read 7 = .ok (.if_icmp .ne 19, 3) := by decide +kernel
theorem dX2_read_10 : decode cX2_read 10 = .ok (.aload_n 0, 1) := by decide +kernel
theorem dX2_read_11 : decode cX2_read 11 = .ok (.iload_n 1, 1) := by decide +kernel
theorem dX2_read_12 : decode cX2_read 12 = .ok (.invokevirtual 54, 3) := by decide +kernel
theorem dX2_read_15 : decode cX2_read 15 = .ok (.ifCond .ne 11, 3) := by decide +kernel
theorem dX2_read_18 : decode cX2_read 18 = .ok (.aload_n 0, 1) := by decide +kernel
theorem dX2_read_19 : decode cX2_read 19 = .ok (.aload_n 0, 1) := by decide +kernel
theorem dX2_read_20 : decode cX2_read 20 = .ok (.getfield 42, 3) := by decide +kernel
theorem dX2_read_23 : decode cX2_read 23 = .ok (.putfield 9, 3) := by decide +kernel
theorem dX2_read_26 : decode cX2_read 26 = .ok (.aload_n 0, 1) := by decide +kernel
theorem dX2_read_27 : decode cX2_read 27 = .ok (.dup, 1) := by decide +kernel
theorem dX2_read_28 : decode cX2_read 28 = .ok (.getfield 42, 3) := by decide +kernel
theorem dX2_read_31 : decode cX2_read 31 = .ok (.iconst 1, 1) := by decide +kernel
theorem dX2_read_32 : decode cX2_read 32 = .ok (.iadd, 1) := by decide +kernel
theorem dX2_read_33 : decode cX2_read 33 = .ok (.putfield 42, 3) := by decide +kernel
theorem dX2_read_36 : decode cX2_read 36 = .ok (.return_, 1) := by decide +kernel
theorem dX2_isFaulty_0 : decode cX2_isFaulty 0 = .ok (.aload_n 0, 1) := by decide +kernel
theorem dX2_isFaulty_1 : decode cX2_isFaulty 1 = .ok (.invokevirtual 58, 3) := by decide +kernel
theorem dX2_isFaulty_4 : decode cX2_isFaulty 4 = .ok (.sipush (-1005), 3) := by decide +kernel
theorem dX2_isFaulty_7 : decode cX2_isFaulty 7 = .ok (.if_icmp .eq 7, 3) := by decide +kernel
theorem dX2_isFaulty_10 : decode cX2_isFaulty 10 = .ok (.iconst 1, 1) := by decide +kernel
theorem dX2_isFaulty_11 : decode cX2_isFaulty 11 = .ok (.goto 4, 3) := by decide +kernel
theorem dX2_isFaulty_14 : decode cX2_isFaulty 14 = .ok (.iconst 0, 1) := by decide +kernel
theorem dX2_isFaulty_15 : decode cX2_isFaulty 15 = .ok (.ireturn, 1) := by decide +kernel
theorem dX2_firstFault_0 : decode cX2_firstFault 0 = .ok (.aload_n 0, 1) := by decide +kernel
theorem dX2_firstFault_1 : decode cX2_firstFault 1 = .ok (.getfield 9, 3) := by decide +kernel
theorem dX2_firstFault_4 : decode cX2_firstFault 4 = .ok (.sipush (-1005), 3) := by decide +kernel
theorem dX2_firstFault_7 : decode cX2_firstFault 7 = .ok (.if_icmp .eq 8, 3) := by decide +kernel
theorem dX2_firstFault_10 : decode cX2_firstFault 10 = .ok (.aload_n 0, 1) := by decide +kernel
theorem dX2_firstFault_11 : decode cX2_firstFault 11 = .ok (.getfield 9, 3) := by decide +kernel
theorem dX2_firstFault_14 : decode cX2_firstFault 14 = .ok (.ireturn, 1) := by decide +kernel
theorem dX2_firstFault_15 : decode cX2_firstFault 15 = .ok (.aload_n 0, 1) := by decide +kernel
theorem dX2_firstFault_16 : decode cX2_firstFault 16 = .ok (.getfield 15, 3) := by decide +kernel
theorem dX2_firstFault_19 : decode cX2_firstFault 19 = .ok (.iconst 4, 1) := by decide +kernel
theorem dX2_firstFault_20 : decode cX2_firstFault 20 = .ok (.if_icmp .eq 11, 3) := by decide +kernel
theorem dX2_firstFault_23 : decode cX2_firstFault 23 = .ok (.aload_n 0, 1) := by decide +kernel
theorem dX2_firstFault_24 : decode cX2_firstFault 24 = .ok (.getfield 15, 3) := by decide +kernel
theorem dX2_firstFault_27 : decode cX2_firstFault 27 = .ok (.iconst 5, 1) := by decide +kernel
theorem dX2_firstFault_28 : decode cX2_firstFault 28 = .ok (.if_icmp .ne 7, 3) := by decide +kernel
theorem dX2_firstFault_31 : decode cX2_firstFault 31 = .ok (.iconst 1, 1) := by decide +kernel
theorem dX2_firstFault_32 : decode cX2_firstFault 32 = .ok (.goto 4, 3) := by decide +kernel
theorem dX2_firstFault_35 : decode cX2_firstFault 35 = .ok (.iconst 0, 1) := by decide +kernel
theorem dX2_firstFault_36 : decode cX2_firstFault 36 = .ok (.istore_n 1, 1) := by decide +kernel
theorem dX2_firstFault_37 : decode cX2_firstFault 37 = .ok (.iload_n 1, 1) := by decide +kernel
theorem dX2_firstFault_38 : decode cX2_firstFault 38 = .ok (.ifCond .eq 16, 3) := by decide +kernel
theorem dX2_firstFault_41 : decode cX2_firstFault 41 = .ok (.aload_n 0, 1) := by decide +kernel
theorem dX2_firstFault_42 : decode cX2_firstFault 42 = .ok (.getfield 45, 3) := by decide +kernel
theorem dX2_firstFault_45 : decode cX2_firstFault 45 = .ok (.ifCond .ne 9, 3) := by decide +kernel
theorem dX2_firstFault_48 : decode cX2_firstFault 48 = .ok (.sipush (-1005), 3) := by decide +kernel
theorem dX2_firstFault_51 : decode cX2_firstFault 51 = .ok (.goto 7, 3) := by decide +kernel
theorem dX2_firstFault_54 : decode cX2_firstFault 54 = .ok (.aload_n 0, 1) := by decide +kernel
theorem dX2_firstFault_55 : decode cX2_firstFault 55 = .ok (.getfield 42, 3) := by decide +kernel
theorem dX2_firstFault_58 : decode cX2_firstFault 58 = .ok (.ireturn, 1) := by decide +kernel
theorem dX2_isAllowed_0 : decode cX2_isAllowed 0 = .ok (.aload_n 0, 1) := by decide +kernel
theorem dX2_isAllowed_1 : decode cX2_isAllowed 1 = .ok (.getfield 15, 3) := by decide +kernel
theorem dX2_isAllowed_4 : decode cX2_isAllowed 4 = .ok (.tableswitch 98 0 4 #[36, 42, 48, 70, 76], 36) := by decide +kernel
theorem dX2_isAllowed_40 : decode cX2_isAllowed 40 = .ok (.aload_n 0, 1) := by decide +kernel
theorem dX2_isAllowed_41 : decode cX2_isAllowed 41 = .ok (.iload_n 1, 1) := by decide +kernel
theorem dX2_isAllowed_42 : decode cX2_isAllowed 42 = .ok (.invokevirtual 62, 3) := by decide +kernel
theorem dX2_isAllowed_45 : decode cX2_isAllowed 45 = .ok (.ireturn, 1) := by decide +kernel
theorem dX2_isAllowed_46 : decode cX2_isAllowed 46 = .ok (.aload_n 0, 1) := by decide +kernel
theorem dX2_isAllowed_47 : decode cX2_isAllowed 47 = .ok (.iload_n 1, 1) := by decide +kernel
theorem dX2_isAllowed_48 : decode cX2_isAllowed 48 = .ok (.invokevirtual 65, 3) := by decide +kernel
theorem dX2_isAllowed_51 : decode cX2_isAllowed 51 = .ok (.ireturn, 1) := by decide +kernel
theorem dX2_isAllowed_52 : decode cX2_isAllowed 52 = .ok (.aload_n 0, 1) := by decide +kernel
theorem dX2_isAllowed_53 : decode cX2_isAllowed 53 = .ok (.iload_n 1, 1) := by decide +kernel
theorem dX2_isAllowed_54 : decode cX2_isAllowed 54 = .ok (.invokevirtual 68, 3) := by decide +kernel
theorem dX2_isAllowed_57 : decode cX2_isAllowed 57 = .ok (.ifCond .ne 11, 3) := by decide +kernel
theorem dX2_isAllowed_60 : decode cX2_isAllowed 60 = .ok (.aload_n 0, 1) := by decide +kernel
theorem dX2_isAllowed_61 : decode cX2_isAllowed 61 = .ok (.iload_n 1, 1) := by decide +kernel
theorem dX2_isAllowed_62 : decode cX2_isAllowed 62 = .ok (.invokevirtual 71, 3) := by decide +kernel
theorem dX2_isAllowed_65 : decode cX2_isAllowed 65 = .ok (.ifCond .eq 7, 3) := by decide +kernel
theorem dX2_isAllowed_68 : decode cX2_isAllowed 68 = .ok (.iconst 1, 1) := by decide +kernel
theorem dX2_isAllowed_69 : decode cX2_isAllowed 69 = .ok (.goto 4, 3) := by decide +kernel
theorem dX2_isAllowed_72 : decode cX2_isAllowed 72 = .ok (.iconst 0, 1) := by decide +kernel
theorem dX2_isAllowed_73 : decode cX2_isAllowed 73 = .ok (.ireturn, 1) := by decide +kernel
theorem dX2_isAllowed_74 : decode cX2_isAllowed 74 = .ok (.aload_n 0, 1) := by decide +kernel
theorem dX2_isAllowed_75 : decode cX2_isAllowed 75 = .ok (.iload_n 1, 1) := by decide +kernel
theorem dX2_isAllowed_76 : decode cX2_isAllowed 76 = .ok (.invokevirtual 71, 3) := by decide +kernel
theorem dX2_isAllowed_79 : decode cX2_isAllowed 79 = .ok (.ireturn, 1) := by decide +kernel
theorem dX2_isAllowed_80 : decode cX2_isAllowed 80 = .ok (.aload_n 0, 1) := by decide +kernel
theorem dX2_isAllowed_81 : decode cX2_isAllowed 81 = .ok (.iload_n 1, 1) := by decide +kernel
theorem dX2_isAllowed_82 : decode cX2_isAllowed 82 = .ok (.invokevirtual 74, 3) := by decide +kernel
theorem dX2_isAllowed_85 : decode cX2_isAllowed 85 = .ok (.ifCond .ne 11, 3) := by decide +kernel
theorem dX2_isAllowed_88 : decode cX2_isAllowed 88 = .ok (.aload_n 0, 1) := by decide +kernel
theorem dX2_isAllowed_89 : decode cX2_isAllowed 89 = .ok (.iload_n 1, 1) := by decide +kernel
theorem dX2_isAllowed_90 : decode cX2_isAllowed 90 = .ok (.invokevirtual 77, 3) := by decide +kernel
theorem dX2_isAllowed_93 : decode cX2_isAllowed 93 = .ok (.ifCond .eq 7, 3) := by decide +kernel
theorem dX2_isAllowed_96 : decode cX2_isAllowed 96 = .ok (.iconst 1, 1) := by decide +kernel
theorem dX2_isAllowed_97 : decode cX2_isAllowed 97 = .ok (.goto 4, 3) := by decide +kernel
theorem dX2_isAllowed_100 : decode cX2_isAllowed 100 = .ok (.iconst 0, 1) := by decide +kernel
theorem dX2_isAllowed_101 : decode cX2_isAllowed 101 = .ok (.ireturn, 1) := by decide +kernel
theorem dX2_isAllowed_102 : decode cX2_isAllowed 102 = .ok (.aload_n 0, 1) := by decide +kernel
theorem dX2_isAllowed_103 : decode cX2_isAllowed 103 = .ok (.iload_n 1, 1) := by decide +kernel
theorem dX2_isAllowed_104 : decode cX2_isAllowed 104 = .ok (.invokevirtual 77, 3) := by decide +kernel
theorem dX2_isAllowed_107 : decode cX2_isAllowed 107 = .ok (.ireturn, 1) := by decide +kernel
theorem dX2_startsTest_0 : decode cX2_startsTest 0 = .ok (.iload_n 1, 1) := by decide +kernel
theorem dX2_startsTest_1 : decode cX2_startsTest 1 = .ok (.lookupswitch 117 #[(33, 56), (40, 84), (107, 43), (118, 43)], 43) := by decide +kernel
theorem dX2_startsTest_44 : decode cX2_startsTest 44 = .ok (.aload_n 0, 1) := by decide +kernel
theorem dX2_startsTest_45 : decode cX2_startsTest 45 = .ok (.iconst 0, 1) := by decide +kernel
theorem dX2_startsTest_46 : decode cX2_startsTest 46 = .ok (.putfield 48, 3) := by decide +kernel
theorem dX2_startsTest_49 : decode cX2_startsTest 49 = .ok (.aload_n 0, 1) := by decide +kernel
theorem dX2_startsTest_50 : decode cX2_startsTest 50 = .ok (.iload_n 1, 1) := by decide +kernel
theorem dX2_startsTest_51 : decode cX2_startsTest 51 = .ok (.iconst 1, 1) := by decide +kernel
theorem dX2_startsTest_52 : decode cX2_startsTest 52 = .ok (.invokevirtual 80, 3) := by decide +kernel
theorem dX2_startsTest_55 : decode cX2_startsTest 55 = .ok (.iconst 1, 1) := by decide +kernel
theorem dX2_startsTest_56 : decode cX2_startsTest 56 = .ok (.ireturn, 1) := by decide +kernel
theorem dX2_startsTest_57 : decode cX2_startsTest 57 = .ok (.aload_n 0, 1) := by decide +kernel
theorem dX2_startsTest_58 : decode cX2_startsTest 58 = .ok (.getfield 48, 3) := by decide +kernel
theorem dX2_startsTest_61 : decode cX2_startsTest 61 = .ok (.iconst 5, 1) := by decide +kernel
theorem dX2_startsTest_62 : decode cX2_startsTest 62 = .ok (.if_icmp .lt 5, 3) := by decide +kernel
theorem dX2_startsTest_65 : decode cX2_startsTest 65 = .ok (.iconst 0, 1) := by decide +kernel
theorem dX2_startsTest_66 : decode cX2_startsTest 66 = .ok (.ireturn, 1) := by decide +kernel
theorem dX2_startsTest_67 : decode cX2_startsTest 67 = .ok (.aload_n 0, 1) := by decide +kernel
theorem dX2_startsTest_68 : decode cX2_startsTest 68 = .ok (.dup, 1) := by decide +kernel
theorem dX2_startsTest_69 : decode cX2_startsTest 69 = .ok (.getfield 48, 3) := by decide +kernel
theorem dX2_startsTest_72 : decode cX2_startsTest 72 = .ok (.iconst 1, 1) := by decide +kernel
theorem dX2_startsTest_73 : decode cX2_startsTest 73 = .ok (.iadd, 1) := by decide +kernel
theorem dX2_startsTest_74 : decode cX2_startsTest 74 = .ok (.putfield 48, 3) := by decide +kernel
theorem dX2_startsTest_77 : decode cX2_startsTest 77 = .ok (.aload_n 0, 1) := by decide +kernel
theorem dX2_startsTest_78 : decode cX2_startsTest 78 = .ok (.iload_n 1, 1) := by decide +kernel
theorem dX2_startsTest_79 : decode cX2_startsTest 79 = .ok (.iconst 0, 1) := by decide +kernel
theorem dX2_startsTest_80 : decode cX2_startsTest 80 = .ok (.invokevirtual 80, 3) := by decide +kernel
theorem dX2_startsTest_83 : decode cX2_startsTest 83 = .ok (.iconst 1, 1) := by decide +kernel
theorem dX2_startsTest_84 : decode cX2_startsTest 84 = .ok (.ireturn, 1) := by decide +kernel
theorem dX2_startsTest_85 : decode cX2_startsTest 85 = .ok (.aload_n 0, 1) := by decide +kernel
theorem dX2_startsTest_86 : decode cX2_startsTest 86 = .ok (.getfield 45, 3) := by decide +kernel
theorem dX2_startsTest_89 : decode cX2_startsTest 89 = .ok (.iconst 5, 1) := by decide +kernel
theorem dX2_startsTest_90 : decode cX2_startsTest 90 = .ok (.if_icmp .lt 5, 3) := by decide +kernel
theorem dX2_startsTest_93 : decode cX2_startsTest 93 = .ok (.iconst 0, 1) := by decide +kernel
theorem dX2_startsTest_94 : decode cX2_startsTest 94 = .ok (.ireturn, 1) := by decide +kernel
theorem dX2_startsTest_95 : decode cX2_startsTest 95 = .ok (.aload_n 0, 1) := by decide +kernel
theorem dX2_startsTest_96 : decode cX2_startsTest 96 = .ok (.dup, 1) := by decide +kernel
theorem dX2_startsTest_97 : decode cX2_startsTest 97 = .ok (.getfield 45, 3) := by decide +kernel
theorem dX2_startsTest_100 : decode cX2_startsTest 100 = .ok (.iconst 1, 1) := by decide +kernel
theorem dX2_startsTest_101 : decode cX2_startsTest 101 = .ok (.iadd, 1) := by decide +kernel
theorem dX2_startsTest_102 : decode cX2_startsTest 102 = .ok (.putfield 45, 3) := by decide +kernel
theorem dX2_startsTest_105 : decode cX2_startsTest 105 = .ok (.aload_n 0, 1) := by decide +kernel
theorem dX2_startsTest_106 : decode cX2_startsTest 106 = .ok (.iconst 0, 1) := by decide +kernel
theorem dX2_startsTest_107 : decode cX2_startsTest 107 = .ok (.putfield 48, 3) := by decide +kernel
theorem dX2_startsTest_110 : decode cX2_startsTest 110 = .ok (.aload_n 0, 1) := by decide +kernel
theorem dX2_startsTest_111 : decode cX2_startsTest 111 = .ok (.iload_n 1, 1) := by decide +kernel
theorem dX2_startsTest_112 : decode cX2_startsTest 112 = .ok (.iconst 0, 1) := by decide +kernel
theorem dX2_startsTest_113 : decode cX2_startsTest 113 = .ok (.invokevirtual 80, 3) := by decide +kernel
theorem dX2_startsTest_116 : decode cX2_startsTest 116 = .ok (.iconst 1, 1) := by decide +kernel
theorem dX2_startsTest_117 : decode cX2_startsTest 117 = .ok (.ireturn, 1) := by decide +kernel
theorem dX2_startsTest_118 : decode cX2_startsTest 118 = .ok (.iconst 0, 1) := by decide +kernel
theorem dX2_startsTest_119 : decode cX2_startsTest 119 = .ok (.ireturn, 1) := by decide +kernel
theorem dX2_isSign_0 : decode cX2_isSign 0 = .ok (.iload_n 1, 1) := by decide +kernel
theorem dX2_isSign_1 : decode cX2_isSign 1 = .ok (.bipush 60, 2) := by decide +kernel
theorem dX2_isSign_3 : decode cX2_isSign 3 = .ok (.if_icmp .eq 23, 3) := by decide +kernel
theorem dX2_isSign_6 : decode cX2_isSign 6 = .ok (.iload_n 1, 1) := by decide +kernel
theorem dX2_isSign_7 : decode cX2_isSign 7 = .ok (.bipush 62, 2) := by decide +kernel
theorem dX2_isSign_9 : decode cX2_isSign 9 = .ok (.if_icmp .eq 17, 3) := by decide +kernel
theorem dX2_isSign_12 : decode cX2_isSign 12 = .ok (.iload_n 1, 1) := by decide +kernel
theorem dX2_isSign_13 : decode cX2_isSign 13 = .ok (.bipush 61, 2) := by decide +kernel
theorem dX2_isSign_15 : decode cX2_isSign 15 = .ok (.if_icmp .eq 11, 3) := by decide +kernel
theorem dX2_isSign_18 : decode cX2_isSign 18 = .ok (.iload_n 1, 1) := by decide +kernel
theorem dX2_isSign_19 : decode cX2_isSign 19 = .ok (.bipush 35, 2) := by decide +kernel
theorem dX2_isSign_21 : decode cX2_isSign 21 = .ok (.if_icmp .eq 5, 3) := by decide +kernel
theorem dX2_isSign_24 : decode cX2_isSign 24 = .ok (.iconst 0, 1) := by decide +kernel
theorem dX2_isSign_25 : decode cX2_isSign 25 = .ok (.ireturn, 1) := by decide +kernel
theorem dX2_isSign_26 : decode cX2_isSign 26 = .ok (.aload_n 0, 1) := by decide +kernel
theorem dX2_isSign_27 : decode cX2_isSign 27 = .ok (.getfield 27, 3) := by decide +kernel
theorem dX2_isSign_30 : decode cX2_isSign 30 = .ok (.aload_n 0, 1) := by decide +kernel
theorem dX2_isSign_31 : decode cX2_isSign 31 = .ok (.getfield 51, 3) := by decide +kernel
theorem dX2_isSign_34 : decode cX2_isSign 34 = .ok (.iconst 1, 1) := by decide +kernel
theorem dX2_isSign_35 : decode cX2_isSign 35 = .ok (.isub, 1) := by decide +kernel
theorem dX2_isSign_36 : decode cX2_isSign 36 = .ok (.iload_n 1, 1) := by decide +kernel
theorem dX2_isSign_37 : decode cX2_isSign 37 = .ok (.invokevirtual 84, 3) := by decide +kernel
theorem dX2_isSign_40 : decode cX2_isSign 40 = .ok (.aload_n 0, 1) := by decide +kernel
theorem dX2_isSign_41 : decode cX2_isSign 41 = .ok (.iconst 0, 1) := by decide +kernel
theorem dX2_isSign_42 : decode cX2_isSign 42 = .ok (.putfield 88, 3) := by decide +kernel
theorem dX2_isSign_45 : decode cX2_isSign 45 = .ok (.aload_n 0, 1) := by decide +kernel
theorem dX2_isSign_46 : decode cX2_isSign 46 = .ok (.iconst 2, 1) := by decide +kernel
theorem dX2_isSign_47 : decode cX2_isSign 47 = .ok (.putfield 15, 3) := by decide +kernel
theorem dX2_isSign_50 : decode cX2_isSign 50 = .ok (.iconst 1, 1) := by decide +kernel
theorem dX2_isSign_51 : decode cX2_isSign 51 = .ok (.ireturn, 1) := by decide +kernel
theorem dX2_isMinus_0 : decode cX2_isMinus 0 = .ok (.iload_n 1, 1) := by decide +kernel
theorem dX2_isMinus_1 : decode cX2_isMinus 1 = .ok (.bipush 45, 2) := by decide +kernel
theorem dX2_isMinus_3 : decode cX2_isMinus 3 = .ok (.if_icmp .eq 5, 3) := by decide +kernel
theorem dX2_isMinus_6 : decode cX2_isMinus 6 = .ok (.iconst 0, 1) := by decide +kernel
theorem dX2_isMinus_7 : decode cX2_isMinus 7 = .ok (.ireturn, 1) := by decide +kernel
theorem dX2_isMinus_8 : decode cX2_isMinus 8 = .ok (.aload_n 0, 1) := by decide +kernel
theorem dX2_isMinus_9 : decode cX2_isMinus 9 = .ok (.iconst 1, 1) := by decide +kernel
theorem dX2_isMinus_10 : decode cX2_isMinus 10 = .ok (.putfield 88, 3) := by decide +kernel
theorem dX2_isMinus_13 : decode cX2_isMinus 13 = .ok (.aload_n 0, 1) := by decide +kernel
theorem dX2_isMinus_14 : decode cX2_isMinus 14 = .ok (.iconst 3, 1) := by decide +kernel
theorem dX2_isMinus_15 : decode cX2_isMinus 15 = .ok (.putfield 15, 3) := by decide +kernel
theorem dX2_isMinus_18 : decode cX2_isMinus 18 = .ok (.iconst 1, 1) := by decide +kernel
theorem dX2_isMinus_19 : decode cX2_isMinus 19 = .ok (.ireturn, 1) := by decide +kernel
theorem dX2_isFirstDigit_0 : decode cX2_isFirstDigit 0 = .ok (.iload_n 1, 1) := by decide +kernel
theorem dX2_isFirstDigit_1 : decode cX2_isFirstDigit 1 = .ok (.bipush 48, 2) := by decide +kernel
theorem dX2_isFirstDigit_3 : decode cX2_isFirstDigit 3 = .ok (.if_icmp .lt 9, 3) := by decide +kernel
theorem dX2_isFirstDigit_6 : decode cX2_isFirstDigit 6 = .ok (.iload_n 1, 1) := by decide +kernel
theorem dX2_isFirstDigit_7 : decode cX2_isFirstDigit 7 = .ok (.bipush 57, 2) := by decide +kernel
theorem dX2_isFirstDigit_9 : decode cX2_isFirstDigit 9 = .ok (.if_icmp .le 5, 3) := by decide +kernel
theorem dX2_isFirstDigit_12 : decode cX2_isFirstDigit 12 = .ok (.iconst 0, 1) := by decide +kernel
theorem dX2_isFirstDigit_13 : decode cX2_isFirstDigit 13 = .ok (.ireturn, 1) := by decide +kernel
theorem dX2_isFirstDigit_14 : decode cX2_isFirstDigit 14 = .ok (.aload_n 0, 1) := by decide +kernel
theorem dX2_isFirstDigit_15 : decode cX2_isFirstDigit 15 = .ok (.iload_n 1, 1) := by decide +kernel
theorem dX2_isFirstDigit_16 : decode cX2_isFirstDigit 16 = .ok (.bipush 48, 2) := by decide +kernel
theorem dX2_isFirstDigit_18 : decode cX2_isFirstDigit 18 = .ok (.isub, 1) := by decide +kernel
theorem dX2_isFirstDigit_19 : decode cX2_isFirstDigit 19 = .ok (.invokevirtual 92, 3) := by decide +kernel
theorem dX2_isFirstDigit_22 : decode cX2_isFirstDigit 22 = .ok (.aload_n 0, 1) := by decide +kernel
theorem dX2_isFirstDigit_23 : decode cX2_isFirstDigit 23 = .ok (.iconst 4, 1) := by decide +kernel
theorem dX2_isFirstDigit_24 : decode cX2_isFirstDigit 24 = .ok (.putfield 15, 3) := by decide +kernel
theorem dX2_isFirstDigit_27 : decode cX2_isFirstDigit 27 = .ok (.iconst 1, 1) := by decide +kernel
theorem dX2_isFirstDigit_28 : decode cX2_isFirstDigit 28 = .ok (.ireturn, 1) := by decide +kernel
theorem dX2_isNextDigit_0 : decode cX2_isNextDigit 0 = .ok (.iload_n 1, 1) := by decide +kernel
theorem dX2_isNextDigit_1 : decode cX2_isNextDigit 1 = .ok (.bipush 48, 2) := by decide +kernel
theorem dX2_isNextDigit_3 : decode cX2_isNextDigit 3 = .ok (.if_icmp .lt 16, 3) := by decide +kernel
theorem dX2_isNextDigit_6 : decode cX2_isNextDigit 6 = .ok (.iload_n 1, 1) := by decide +kernel
theorem dX2_isNextDigit_7 : decode cX2_isNextDigit 7 = .ok (.bipush 57, 2) := by decide +kernel
theorem dX2_isNextDigit_9 : decode cX2_isNextDigit 9 = .ok (.if_icmp .gt 10, 3) := by decide +kernel
theorem dX2_isNextDigit_12 : decode cX2_isNextDigit 12 = .ok (.aload_n 0, 1) := by decide +kernel
theorem dX2_isNextDigit_13 : decode cX2_isNextDigit 13 = .ok (.getfield 95, 3) := by decide +kernel
theorem dX2_isNextDigit_16 : decode cX2_isNextDigit 16 = .ok (.ifCond .ne 5, 3) := by decide +kernel
theorem dX2_isNextDigit_19 : decode cX2_isNextDigit 19 = .ok (.iconst 0, 1) := by decide +kernel
theorem dX2_isNextDigit_20 : decode cX2_isNextDigit 20 = .ok (.ireturn, 1) := by decide +kernel
theorem dX2_isNextDigit_21 : decode cX2_isNextDigit 21 = .ok (.aload_n 0, 1) := by decide +kernel
theorem dX2_isNextDigit_22 : decode cX2_isNextDigit 22 = .ok (.getfield 95, 3) := by decide +kernel
theorem dX2_isNextDigit_25 : decode cX2_isNextDigit 25 = .ok (.bipush 10, 2) := by decide +kernel
theorem dX2_isNextDigit_27 : decode cX2_isNextDigit 27 = .ok (.imul, 1) := by decide +kernel
theorem dX2_isNextDigit_28 : decode cX2_isNextDigit 28 = .ok (.iload_n 1, 1) := by decide +kernel
theorem dX2_isNextDigit_29 : decode cX2_isNextDigit 29 = .ok (.bipush 48, 2) := by decide +kernel
theorem dX2_isNextDigit_31 : decode cX2_isNextDigit 31 = .ok (.isub, 1) := by decide +kernel
theorem dX2_isNextDigit_32 : decode cX2_isNextDigit 32 = .ok (.iadd, 1) := by decide +kernel
theorem dX2_isNextDigit_33 : decode cX2_isNextDigit 33 = .ok (.istore_n 2, 1) := by decide +kernel
theorem dX2_isNextDigit_34 : decode cX2_isNextDigit 34 = .ok (.iload_n 2, 1) := by decide +kernel
theorem dX2_isNextDigit_35 : decode cX2_isNextDigit 35 = .ok (.sipush 999, 3) := by decide +kernel
theorem dX2_isNextDigit_38 : decode cX2_isNextDigit 38 = .ok (.if_icmp .le 5, 3) := by decide +kernel
theorem dX2_isNextDigit_41 : decode cX2_isNextDigit 41 = .ok (.iconst 0, 1) := by decide +kernel
theorem dX2_isNextDigit_42 : decode cX2_isNextDigit 42 = .ok (.ireturn, 1) := by decide +kernel
theorem dX2_isNextDigit_43 : decode cX2_isNextDigit 43 = .ok (.aload_n 0, 1) := by decide +kernel
theorem dX2_isNextDigit_44 : decode cX2_isNextDigit 44 = .ok (.iload_n 2, 1) := by decide +kernel
theorem dX2_isNextDigit_45 : decode cX2_isNextDigit 45 = .ok (.invokevirtual 92, 3) := by decide +kernel
theorem dX2_isNextDigit_48 : decode cX2_isNextDigit 48 = .ok (.iconst 1, 1) := by decide +kernel
theorem dX2_isNextDigit_49 : decode cX2_isNextDigit 49 = .ok (.ireturn, 1) := by decide +kernel
theorem dX2_setDigits_0 : decode cX2_setDigits 0 = .ok (.aload_n 0, 1) := by decide +kernel
theorem dX2_setDigits_1 : decode cX2_setDigits 1 = .ok (.iload_n 1, 1) := by decide +kernel
theorem dX2_setDigits_2 : decode cX2_setDigits 2 = .ok (.putfield 95, 3) := by decide +kernel
theorem dX2_setDigits_5 : decode cX2_setDigits 5 = .ok (.aload_n 0, 1) := by decide +kernel
theorem dX2_setDigits_6 : decode cX2_setDigits 6 = .ok (.getfield 30, 3) := by decide +kernel
theorem dX2_setDigits_9 : decode cX2_setDigits 9 = .ok (.aload_n 0, 1) := by decide +kernel
theorem dX2_setDigits_10 : decode cX2_setDigits 10 = .ok (.getfield 51, 3) := by decide +kernel
theorem dX2_setDigits_13 : decode cX2_setDigits 13 = .ok (.iconst 1, 1) := by decide +kernel
theorem dX2_setDigits_14 : decode cX2_setDigits 14 = .ok (.isub, 1) := by decide +kernel
theorem dX2_setDigits_15 : decode cX2_setDigits 15 = .ok (.aload_n 0, 1) := by decide +kernel
theorem dX2_setDigits_16 : decode cX2_setDigits 16 = .ok (.getfield 88, 3) := by decide +kernel
theorem dX2_setDigits_19 : decode cX2_setDigits 19 = .ok (.ifCond .eq 8, 3) := by decide +kernel
theorem dX2_setDigits_22 : decode cX2_setDigits 22 = .ok (.iload_n 1, 1) := by decide +kernel
theorem dX2_setDigits_23 : decode cX2_setDigits 23 = .ok (.ineg, 1) := by decide +kernel
theorem dX2_setDigits_24 : decode cX2_setDigits 24 = .ok (.goto 4, 3) := by decide +kernel
theorem dX2_setDigits_27 : decode cX2_setDigits 27 = .ok (.iload_n 1, 1) := by decide +kernel
theorem dX2_setDigits_28 : decode cX2_setDigits 28 = .ok (.invokevirtual 84, 3) := by decide +kernel
theorem dX2_setDigits_31 : decode cX2_setDigits 31 = .ok (.return_, 1) := by decide +kernel
theorem dX2_followsTest_0 : decode cX2_followsTest 0 = .ok (.iload_n 1, 1) := by decide +kernel
theorem dX2_followsTest_1 : decode cX2_followsTest 1 = .ok (.lookupswitch 70 #[(38, 35), (41, 43), (124, 35)], 35) := by decide +kernel
theorem dX2_followsTest_36 : decode cX2_followsTest 36 = .ok (.aload_n 0, 1) := by decide +kernel
theorem dX2_followsTest_37 : decode cX2_followsTest 37 = .ok (.iload_n 1, 1) := by decide +kernel
theorem dX2_followsTest_38 : decode cX2_followsTest 38 = .ok (.iconst 0, 1) := by decide +kernel
theorem dX2_followsTest_39 : decode cX2_followsTest 39 = .ok (.invokevirtual 80, 3) := by decide +kernel
theorem dX2_followsTest_42 : decode cX2_followsTest 42 = .ok (.iconst 1, 1) := by decide +kernel
theorem dX2_followsTest_43 : decode cX2_followsTest 43 = .ok (.ireturn, 1) := by decide +kernel
theorem dX2_followsTest_44 : decode cX2_followsTest 44 = .ok (.aload_n 0, 1) := by decide +kernel
theorem dX2_followsTest_45 : decode cX2_followsTest 45 = .ok (.getfield 45, 3) := by decide +kernel
theorem dX2_followsTest_48 : decode cX2_followsTest 48 = .ok (.ifCond .ne 5, 3) := by decide +kernel
theorem dX2_followsTest_51 : decode cX2_followsTest 51 = .ok (.iconst 0, 1) := by decide +kernel
theorem dX2_followsTest_52 : decode cX2_followsTest 52 = .ok (.ireturn, 1) := by decide +kernel
theorem dX2_followsTest_53 : decode cX2_followsTest 53 = .ok (.aload_n 0, 1) := by decide +kernel
theorem dX2_followsTest_54 : decode cX2_followsTest 54 = .ok (.dup, 1) := by decide +kernel
theorem dX2_followsTest_55 : decode cX2_followsTest 55 = .ok (.getfield 45, 3) := by decide +kernel
theorem dX2_followsTest_58 : decode cX2_followsTest 58 = .ok (.iconst 1, 1) := by decide +kernel
theorem dX2_followsTest_59 : decode cX2_followsTest 59 = .ok (.isub, 1) := by decide +kernel
theorem dX2_followsTest_60 : decode cX2_followsTest 60 = .ok (.putfield 45, 3) := by decide +kernel
theorem dX2_followsTest_63 : decode cX2_followsTest 63 = .ok (.aload_n 0, 1) := by decide +kernel
theorem dX2_followsTest_64 : decode cX2_followsTest 64 = .ok (.iload_n 1, 1) := by decide +kernel
theorem dX2_followsTest_65 : decode cX2_followsTest 65 = .ok (.iconst 5, 1) := by decide +kernel
theorem dX2_followsTest_66 : decode cX2_followsTest 66 = .ok (.invokevirtual 80, 3) := by decide +kernel
theorem dX2_followsTest_69 : decode cX2_followsTest 69 = .ok (.iconst 1, 1) := by decide +kernel
theorem dX2_followsTest_70 : decode cX2_followsTest 70 = .ok (.ireturn, 1) := by decide +kernel
theorem dX2_followsTest_71 : decode cX2_followsTest 71 = .ok (.iconst 0, 1) := by decide +kernel
theorem dX2_followsTest_72 : decode cX2_followsTest 72 = .ok (.ireturn, 1) := by decide +kernel
theorem dX2_addToken_0 : decode cX2_addToken 0 = .ok (.aload_n 0, 1) := by decide +kernel
theorem dX2_addToken_1 : decode cX2_addToken 1 = .ok (.getfield 23, 3) := by decide +kernel
theorem dX2_addToken_4 : decode cX2_addToken 4 = .ok (.aload_n 0, 1) := by decide +kernel
theorem dX2_addToken_5 : decode cX2_addToken 5 = .ok (.getfield 51, 3) := by decide +kernel
theorem dX2_addToken_8 : decode cX2_addToken 8 = .ok (.iload_n 1, 1) := by decide +kernel
theorem dX2_addToken_9 : decode cX2_addToken 9 = .ok (.invokevirtual 84, 3) := by decide +kernel
theorem dX2_addToken_12 : decode cX2_addToken 12 = .ok (.aload_n 0, 1) := by decide +kernel
theorem dX2_addToken_13 : decode cX2_addToken 13 = .ok (.dup, 1) := by decide +kernel
theorem dX2_addToken_14 : decode cX2_addToken 14 = .ok (.getfield 51, 3) := by decide +kernel
theorem dX2_addToken_17 : decode cX2_addToken 17 = .ok (.iconst 1, 1) := by decide +kernel
theorem dX2_addToken_18 : decode cX2_addToken 18 = .ok (.iadd, 1) := by decide +kernel
theorem dX2_addToken_19 : decode cX2_addToken 19 = .ok (.putfield 51, 3) := by decide +kernel
theorem dX2_addToken_22 : decode cX2_addToken 22 = .ok (.aload_n 0, 1) := by decide +kernel
theorem dX2_addToken_23 : decode cX2_addToken 23 = .ok (.iload_n 2, 1) := by decide +kernel
theorem dX2_addToken_24 : decode cX2_addToken 24 = .ok (.putfield 15, 3) := by decide +kernel
theorem dX2_addToken_27 : decode cX2_addToken 27 = .ok (.return_, 1) := by decide +kernel
theorem dX2_someKeyMayHold_0 : decode cX2_someKeyMayHold 0 = .ok (.aload_n 0, 1) := by decide +kernel
theorem dX2_someKeyMayHold_1 : decode cX2_someKeyMayHold 1 = .ok (.iload_n 1, 1) := by decide +kernel
theorem dX2_someKeyMayHold_2 : decode cX2_someKeyMayHold 2 = .ok (.iload_n 1, 1) := by decide +kernel
theorem dX2_someKeyMayHold_3 : decode cX2_someKeyMayHold 3 = .ok (.iload_n 2, 1) := by decide +kernel
theorem dX2_someKeyMayHold_4 : decode cX2_someKeyMayHold 4 = .ok (.invokevirtual 98, 3) := by decide +kernel
theorem dX2_someKeyMayHold_7 : decode cX2_someKeyMayHold 7 = .ok (.ifCond .eq 5, 3) := by decide +kernel
theorem dX2_someKeyMayHold_10 : decode cX2_someKeyMayHold 10 = .ok (.iconst 1, 1) := by decide +kernel
theorem dX2_someKeyMayHold_11 : decode cX2_someKeyMayHold 11 = .ok (.ireturn, 1) := by decide +kernel
theorem dX2_someKeyMayHold_12 : decode cX2_someKeyMayHold 12 = .ok (.iconst 0, 1) := by decide +kernel
theorem dX2_someKeyMayHold_13 : decode cX2_someKeyMayHold 13 = .ok (.istore_n 3, 1) := by decide +kernel
theorem dX2_someKeyMayHold_14 : decode cX2_someKeyMayHold 14 = .ok (.iload_n 3, 1) := by decide +kernel
theorem dX2_someKeyMayHold_15 : decode cX2_someKeyMayHold 15 = .ok (.aload_n 0, 1) := by decide +kernel
theorem dX2_someKeyMayHold_16 : decode cX2_someKeyMayHold 16 = .ok (.getfield 51, 3) := by decide +kernel
theorem dX2_someKeyMayHold_19 : decode cX2_someKeyMayHold 19 = .ok (.if_icmp .ge 58, 3) := by decide +kernel
theorem dX2_someKeyMayHold_22 : decode cX2_someKeyMayHold 22 = .ok (.aload_n 0, 1) := by decide +kernel
theorem dX2_someKeyMayHold_23 : decode cX2_someKeyMayHold 23 = .ok (.getfield 30, 3) := by decide +kernel
theorem dX2_someKeyMayHold_26 : decode cX2_someKeyMayHold 26 = .ok (.iload_n 3, 1) := by decide +kernel
theorem dX2_someKeyMayHold_27 : decode cX2_someKeyMayHold 27 = .ok (.invokevirtual 102, 3) := by decide +kernel
theorem dX2_someKeyMayHold_30 : decode cX2_someKeyMayHold 30 = .ok (.istore 4, 2) := by decide +kernel
theorem dX2_someKeyMayHold_32 : decode cX2_someKeyMayHold 32 = .ok (.aload_n 0, 1) := by decide +kernel
theorem dX2_someKeyMayHold_33 : decode cX2_someKeyMayHold 33 = .ok (.getfield 23, 3) := by decide +kernel
theorem dX2_someKeyMayHold_36 : decode cX2_someKeyMayHold 36 = .ok (.iload_n 3, 1) := by decide +kernel
theorem dX2_someKeyMayHold_37 : decode cX2_someKeyMayHold 37 = .ok (.invokevirtual 102, 3) := by decide +kernel
theorem dX2_someKeyMayHold_40 : decode cX2_someKeyMayHold 40 = .ok (.bipush 107, 2) := by decide +kernel
theorem dX2_someKeyMayHold_42 : decode cX2_someKeyMayHold 42 = .ok (.if_icmp .ne 29, 3) := by decide +kernel
theorem dX2_someKeyMayHold_45 : decode cX2_someKeyMayHold 45 = .ok (.aload_n 0, 1) := by decide +kernel
theorem dX2_someKeyMayHold_46 : decode cX2_someKeyMayHold 46 = .ok (.iload 4, 2) := by decide +kernel
theorem dX2_someKeyMayHold_48 : decode cX2_someKeyMayHold 48 = .ok (.iload_n 1, 1) := by decide +kernel
theorem dX2_someKeyMayHold_49 : decode cX2_someKeyMayHold 49 = .ok (.iload_n 2, 1) := by decide +kernel
theorem dX2_someKeyMayHold_50 : decode cX2_someKeyMayHold 50 = .ok (.invokevirtual 98, 3) := by decide +kernel
theorem dX2_someKeyMayHold_53 : decode cX2_someKeyMayHold 53 = .ok (.ifCond .ne 16, 3) := by decide +kernel
theorem dX2_someKeyMayHold_56 : decode cX2_someKeyMayHold 56 = .ok (.aload_n 0, 1) := by decide +kernel
theorem dX2_someKeyMayHold_57 : decode cX2_someKeyMayHold 57 = .ok (.iload 4, 2) := by decide +kernel
theorem dX2_someKeyMayHold_59 : decode cX2_someKeyMayHold 59 = .ok (.iconst 1, 1) := by decide +kernel
theorem dX2_someKeyMayHold_60 : decode cX2_someKeyMayHold 60 = .ok (.iadd, 1) := by decide +kernel
theorem dX2_someKeyMayHold_61 : decode cX2_someKeyMayHold 61 = .ok (.iload_n 1, 1) := by decide +kernel
theorem dX2_someKeyMayHold_62 : decode cX2_someKeyMayHold 62 = .ok (.iload_n 2, 1) := by decide +kernel
theorem dX2_someKeyMayHold_63 : decode cX2_someKeyMayHold 63 = .ok (.invokevirtual 98, 3) := by decide +kernel
theorem dX2_someKeyMayHold_66 : decode cX2_someKeyMayHold 66 = .ok (.ifCond .eq 5, 3) := by decide +kernel
theorem dX2_someKeyMayHold_69 : decode cX2_someKeyMayHold 69 = .ok (.iconst 1, 1) := by decide +kernel
theorem dX2_someKeyMayHold_70 : decode cX2_someKeyMayHold 70 = .ok (.ireturn, 1) := by decide +kernel
theorem dX2_someKeyMayHold_71 : decode cX2_someKeyMayHold 71 = .ok (.iinc 3 1, 3) := by decide +kernel
theorem dX2_someKeyMayHold_74 : decode cX2_someKeyMayHold 74 = .ok (.goto (-60), 3) := by decide +kernel
theorem dX2_someKeyMayHold_77 : decode cX2_someKeyMayHold 77 = .ok (.iconst 0, 1) := by decide +kernel
theorem dX2_someKeyMayHold_78 : decode cX2_someKeyMayHold 78 = .ok (.ireturn, 1) := by decide +kernel
theorem dX2_keyMayHold_0 : decode cX2_keyMayHold 0 = .ok (.iload_n 1, 1) := by decide +kernel
theorem dX2_keyMayHold_1 : decode cX2_keyMayHold 1 = .ok (.iload_n 2, 1) := by decide +kernel
theorem dX2_keyMayHold_2 : decode cX2_keyMayHold 2 = .ok (.if_icmp .lt 23, 3) := by decide +kernel
theorem dX2_keyMayHold_5 : decode cX2_keyMayHold 5 = .ok (.iload_n 1, 1) := by decide +kernel
theorem dX2_keyMayHold_6 : decode cX2_keyMayHold 6 = .ok (.iload_n 3, 1) := by decide +kernel
theorem dX2_keyMayHold_7 : decode cX2_keyMayHold 7 = .ok (.if_icmp .gt 18, 3) := by decide +kernel
theorem dX2_keyMayHold_10 : decode cX2_keyMayHold 10 = .ok (.aload_n 0, 1) := by decide +kernel
theorem dX2_keyMayHold_11 : decode cX2_keyMayHold 11 = .ok (.iload_n 1, 1) := by decide +kernel
theorem dX2_keyMayHold_12 : decode cX2_keyMayHold 12 = .ok (.iload_n 1, 1) := by decide +kernel
theorem dX2_keyMayHold_13 : decode cX2_keyMayHold 13 = .ok (.iconst 0, 1) := by decide +kernel
theorem dX2_keyMayHold_14 : decode cX2_keyMayHold 14 = .ok (.iconst 0, 1) := by decide +kernel
theorem dX2_keyMayHold_15 : decode cX2_keyMayHold 15 = .ok (.invokevirtual 106, 3) := by decide +kernel
theorem dX2_keyMayHold_18 : decode cX2_keyMayHold 18 = .ok (.ifCond .eq 7, 3) := by decide +kernel
theorem dX2_keyMayHold_21 : decode cX2_keyMayHold 21 = .ok (.iconst 1, 1) := by decide +kernel
theorem dX2_keyMayHold_22 : decode cX2_keyMayHold 22 = .ok (.goto 4, 3) := by decide +kernel
theorem dX2_keyMayHold_25 : decode cX2_keyMayHold 25 = .ok (.iconst 0, 1) := by decide +kernel
theorem dX2_keyMayHold_26 : decode cX2_keyMayHold 26 = .ok (.ireturn, 1) := by decide +kernel
theorem dX2_truth_0 : decode cX2_truth 0 = .ok (.iconst 0, 1) := by decide +kernel
theorem dX2_truth_1 : decode cX2_truth 1 = .ok (.istore 5, 2) := by decide +kernel
theorem dX2_truth_3 : decode cX2_truth 3 = .ok (.aload_n 0, 1) := by decide +kernel
theorem dX2_truth_4 : decode cX2_truth 4 = .ok (.iload 5, 2) := by decide +kernel
theorem dX2_truth_6 : decode cX2_truth 6 = .ok (.invokevirtual 110, 3) := by decide +kernel
theorem dX2_truth_9 : decode cX2_truth 9 = .ok (.iconst 0, 1) := by decide +kernel
theorem dX2_truth_10 : decode cX2_truth 10 = .ok (.istore 6, 2) := by decide +kernel
theorem dX2_truth_12 : decode cX2_truth 12 = .ok (.iload 6, 2) := by decide +kernel
theorem dX2_truth_14 : decode cX2_truth 14 = .ok (.aload_n 0, 1) := by decide +kernel
theorem dX2_truth_15 : decode cX2_truth 15 = .ok (.getfield 51, 3) := by decide +kernel
theorem dX2_truth_18 : decode cX2_truth 18 = .ok (.if_icmp .ge 193, 3) := by decide +kernel
theorem dX2_truth_21 : decode cX2_truth 21 = .ok (.aload_n 0, 1) := by decide +kernel
theorem dX2_truth_22 : decode cX2_truth 22 = .ok (.getfield 23, 3) := by decide +kernel
theorem dX2_truth_25 : decode cX2_truth 25 = .ok (.iload 6, 2) := by decide +kernel
theorem dX2_truth_27 : decode cX2_truth 27 = .ok (.invokevirtual 102, 3) := by decide +kernel
theorem dX2_truth_30 : decode cX2_truth 30 = .ok (.lookupswitch 175 #[(33, 102), (40, 134), (41, 146), (107, 58), (118, 75), (124, 125)], 58) := by decide +kernel
theorem dX2_truth_88 : decode cX2_truth 88 = .ok (.aload_n 0, 1) := by decide +kernel
theorem dX2_truth_89 : decode cX2_truth 89 = .ok (.iload 5, 2) := by decide +kernel
theorem dX2_truth_91 : decode cX2_truth 91 = .ok (.aload_n 0, 1) := by decide +kernel
theorem dX2_truth_92 : decode cX2_truth 92 = .ok (.iload 6, 2) := by decide +kernel
theorem dX2_truth_94 : decode cX2_truth 94 = .ok (.iload_n 1, 1) := by decide +kernel
theorem dX2_truth_95 : decode cX2_truth 95 = .ok (.iload_n 2, 1) := by decide +kernel
theorem dX2_truth_96 : decode cX2_truth 96 = .ok (.invokevirtual 113, 3) := by decide +kernel
theorem dX2_truth_99 : decode cX2_truth 99 = .ok (.invokevirtual 117, 3) := by decide +kernel
theorem dX2_truth_102 : decode cX2_truth 102 = .ok (.goto 103, 3) := by decide +kernel
theorem dX2_truth_105 : decode cX2_truth 105 = .ok (.aload_n 0, 1) := by decide +kernel
theorem dX2_truth_106 : decode cX2_truth 106 = .ok (.iload 5, 2) := by decide +kernel
theorem dX2_truth_108 : decode cX2_truth 108 = .ok (.iload_n 3, 1) := by decide +kernel
theorem dX2_truth_109 : decode cX2_truth 109 = .ok (.ifCond .eq 16, 3) := by decide +kernel
theorem dX2_truth_112 : decode cX2_truth 112 = .ok (.aload_n 0, 1) := by decide +kernel
theorem dX2_truth_113 : decode cX2_truth 113 = .ok (.iload 6, 2) := by decide +kernel
theorem dX2_truth_115 : decode cX2_truth 115 = .ok (.iload 4, 2) := by decide +kernel
theorem dX2_truth_117 : decode cX2_truth 117 = .ok (.iload 4, 2) := by decide +kernel
theorem dX2_truth_119 : decode cX2_truth 119 = .ok (.invokevirtual 113, 3) := by decide +kernel
theorem dX2_truth_122 : decode cX2_truth 122 = .ok (.goto 4, 3) := by decide +kernel
theorem dX2_truth_125 : decode cX2_truth 125 = .ok (.iconst 1, 1) := by decide +kernel
theorem dX2_truth_126 : decode cX2_truth 126 = .ok (.invokevirtual 117, 3) := by decide +kernel
theorem dX2_truth_129 : decode cX2_truth 129 = .ok (.goto 76, 3) := by decide +kernel
theorem dX2_truth_132 : decode cX2_truth 132 = .ok (.aload_n 0, 1) := by decide +kernel
theorem dX2_truth_133 : decode cX2_truth 133 = .ok (.getfield 39, 3) := by decide +kernel
theorem dX2_truth_136 : decode cX2_truth 136 = .ok (.iload 5, 2) := by decide +kernel
theorem dX2_truth_138 : decode cX2_truth 138 = .ok (.iconst 1, 1) := by decide +kernel
theorem dX2_truth_139 : decode cX2_truth 139 = .ok (.aload_n 0, 1) := by decide +kernel
theorem dX2_truth_140 : decode cX2_truth 140 = .ok (.getfield 39, 3) := by decide +kernel
theorem dX2_truth_143 : decode cX2_truth 143 = .ok (.iload 5, 2) := by decide +kernel
theorem dX2_truth_145 : decode cX2_truth 145 = .ok (.invokevirtual 102, 3) := by decide +kernel
theorem dX2_truth_148 : decode cX2_truth 148 = .ok (.isub, 1) := by decide +kernel
theorem dX2_truth_149 : decode cX2_truth 149 = .ok (.invokevirtual 84, 3) := by decide +kernel
theorem dX2_truth_152 : decode cX2_truth 152 = .ok (.goto 53, 3) := by decide +kernel
theorem dX2_truth_155 : decode cX2_truth 155 = .ok (.aload_n 0, 1) := by decide +kernel
theorem dX2_truth_156 : decode cX2_truth 156 = .ok (.iload 5, 2) := by decide +kernel
theorem dX2_truth_158 : decode cX2_truth 158 = .ok (.invokevirtual 120, 3) := by decide +kernel
theorem dX2_truth_161 : decode cX2_truth 161 = .ok (.goto 44, 3) := by decide +kernel
theorem dX2_truth_164 : decode cX2_truth 164 = .ok (.iinc 5 1, 3) := by decide +kernel
theorem dX2_truth_167 : decode cX2_truth 167 = .ok (.aload_n 0, 1) := by decide +kernel
theorem dX2_truth_168 : decode cX2_truth 168 = .ok (.iload 5, 2) := by decide +kernel
theorem dX2_truth_170 : decode cX2_truth 170 = .ok (.invokevirtual 110, 3) := by decide +kernel
theorem dX2_truth_173 : decode cX2_truth 173 = .ok (.goto 32, 3) := by decide +kernel
theorem dX2_truth_176 : decode cX2_truth 176 = .ok (.aload_n 0, 1) := by decide +kernel
theorem dX2_truth_177 : decode cX2_truth 177 = .ok (.iload 5, 2) := by decide +kernel
theorem dX2_truth_179 : decode cX2_truth 179 = .ok (.invokevirtual 120, 3) := by decide +kernel
theorem dX2_truth_182 : decode cX2_truth 182 = .ok (.iinc 5 (-1), 3) := by decide +kernel
theorem dX2_truth_185 : decode cX2_truth 185 = .ok (.aload_n 0, 1) := by decide +kernel
theorem dX2_truth_186 : decode cX2_truth 186 = .ok (.iload 5, 2) := by decide +kernel
theorem dX2_truth_188 : decode cX2_truth 188 = .ok (.aload_n 0, 1) := by decide +kernel
theorem dX2_truth_189 : decode cX2_truth 189 = .ok (.getfield 33, 3) := by decide +kernel
theorem dX2_truth_192 : decode cX2_truth 192 = .ok (.iload 5, 2) := by decide +kernel
theorem dX2_truth_194 : decode cX2_truth 194 = .ok (.iconst 1, 1) := by decide +kernel
theorem dX2_truth_195 : decode cX2_truth 195 = .ok (.iadd, 1) := by decide +kernel
theorem dX2_truth_196 : decode cX2_truth 196 = .ok (.invokevirtual 102, 3) := by decide +kernel
theorem dX2_truth_199 : decode cX2_truth 199 = .ok (.invokevirtual 117, 3) := by decide +kernel
theorem dX2_truth_202 : decode cX2_truth 202 = .ok (.goto 3, 3) := by decide +kernel
theorem dX2_truth_205 : decode cX2_truth 205 = .ok (.iinc 6 1, 3) := by decide +kernel
theorem dX2_truth_208 : decode cX2_truth 208 = .ok (.goto (-196), 3) := by decide +kernel
theorem dX2_truth_211 : decode cX2_truth 211 = .ok (.aload_n 0, 1) := by decide +kernel
theorem dX2_truth_212 : decode cX2_truth 212 = .ok (.iload 5, 2) := by decide +kernel
theorem dX2_truth_214 : decode cX2_truth 214 = .ok (.invokevirtual 120, 3) := by decide +kernel
theorem dX2_truth_217 : decode cX2_truth 217 = .ok (.aload_n 0, 1) := by decide +kernel
theorem dX2_truth_218 : decode cX2_truth 218 = .ok (.getfield 33, 3) := by decide +kernel
theorem dX2_truth_221 : decode cX2_truth 221 = .ok (.iload 5, 2) := by decide +kernel
theorem dX2_truth_223 : decode cX2_truth 223 = .ok (.invokevirtual 102, 3) := by decide +kernel
theorem dX2_truth_226 : decode cX2_truth 226 = .ok (.ireturn, 1) := by decide +kernel
theorem dX2_startDepth_0 : decode cX2_startDepth 0 = .ok (.aload_n 0, 1) := by decide +kernel
theorem dX2_startDepth_1 : decode cX2_startDepth 1 = .ok (.getfield 33, 3) := by decide +kernel
theorem dX2_startDepth_4 : decode cX2_startDepth 4 = .ok (.iload_n 1, 1) := by decide +kernel
theorem dX2_startDepth_5 : decode cX2_startDepth 5 = .ok (.iconst 0, 1) := by decide +kernel
theorem dX2_startDepth_6 : decode cX2_startDepth 6 = .ok (.invokevirtual 84, 3) := by decide +kernel
theorem dX2_startDepth_9 : decode cX2_startDepth 9 = .ok (.aload_n 0, 1) := by decide +kernel
theorem dX2_startDepth_10 : decode cX2_startDepth 10 = .ok (.getfield 36, 3) := by decide +kernel
theorem dX2_startDepth_13 : decode cX2_startDepth 13 = .ok (.iload_n 1, 1) := by decide +kernel
theorem dX2_startDepth_14 : decode cX2_startDepth 14 = .ok (.iconst 2, 1) := by decide +kernel
theorem dX2_startDepth_15 : decode cX2_startDepth 15 = .ok (.invokevirtual 84, 3) := by decide +kernel
theorem dX2_startDepth_18 : decode cX2_startDepth 18 = .ok (.aload_n 0, 1) := by decide +kernel
theorem dX2_startDepth_19 : decode cX2_startDepth 19 = .ok (.getfield 39, 3) := by decide +kernel
theorem dX2_startDepth_22 : decode cX2_startDepth 22 = .ok (.iload_n 1, 1) := by decide +kernel
theorem dX2_startDepth_23 : decode cX2_startDepth 23 = .ok (.iconst 0, 1) := by decide +kernel
theorem dX2_startDepth_24 : decode cX2_startDepth 24 = .ok (.invokevirtual 84, 3) := by decide +kernel
theorem dX2_startDepth_27 : decode cX2_startDepth 27 = .ok (.return_, 1) := by decide +kernel
theorem dX2_addTruth_0 : decode cX2_addTruth 0 = .ok (.aload_n 0, 1) := by decide +kernel
theorem dX2_addTruth_1 : decode cX2_addTruth 1 = .ok (.getfield 39, 3) := by decide +kernel
theorem dX2_addTruth_4 : decode cX2_addTruth 4 = .ok (.iload_n 1, 1) := by decide +kernel
theorem dX2_addTruth_5 : decode cX2_addTruth 5 = .ok (.invokevirtual 102, 3) := by decide +kernel
theorem dX2_addTruth_8 : decode cX2_addTruth 8 = .ok (.iconst 1, 1) := by decide +kernel
theorem dX2_addTruth_9 : decode cX2_addTruth 9 = .ok (.if_icmp .ne 9, 3) := by decide +kernel
theorem dX2_addTruth_12 : decode cX2_addTruth 12 = .ok (.iconst 2, 1) := by decide +kernel
theorem dX2_addTruth_13 : decode cX2_addTruth 13 = .ok (.iload_n 2, 1) := by decide +kernel
theorem dX2_addTruth_14 : decode cX2_addTruth 14 = .ok (.isub, 1) := by decide +kernel
theorem dX2_addTruth_15 : decode cX2_addTruth 15 = .ok (.goto 4, 3) := by decide +kernel
theorem dX2_addTruth_18 : decode cX2_addTruth 18 = .ok (.iload_n 2, 1) := by decide +kernel
theorem dX2_addTruth_19 : decode cX2_addTruth 19 = .ok (.istore_n 3, 1) := by decide +kernel
theorem dX2_addTruth_20 : decode cX2_addTruth 20 = .ok (.aload_n 0, 1) := by decide +kernel
theorem dX2_addTruth_21 : decode cX2_addTruth 21 = .ok (.getfield 36, 3) := by decide +kernel
theorem dX2_addTruth_24 : decode cX2_addTruth 24 = .ok (.iload_n 1, 1) := by decide +kernel
theorem dX2_addTruth_25 : decode cX2_addTruth 25 = .ok (.aload_n 0, 1) := by decide +kernel
theorem dX2_addTruth_26 : decode cX2_addTruth 26 = .ok (.getfield 36, 3) := by decide +kernel
theorem dX2_addTruth_29 : decode cX2_addTruth 29 = .ok (.iload_n 1, 1) := by decide +kernel
theorem dX2_addTruth_30 : decode cX2_addTruth 30 = .ok (.invokevirtual 102, 3) := by decide +kernel
theorem dX2_addTruth_33 : decode cX2_addTruth 33 = .ok (.iload_n 3, 1) := by decide +kernel
theorem dX2_addTruth_34 : decode cX2_addTruth 34 = .ok (.invokestatic 123, 3) := by decide +kernel
theorem dX2_addTruth_37 : decode cX2_addTruth 37 = .ok (.invokevirtual 84, 3) := by decide +kernel
theorem dX2_addTruth_40 : decode cX2_addTruth 40 = .ok (.aload_n 0, 1) := by decide +kernel
theorem dX2_addTruth_41 : decode cX2_addTruth 41 = .ok (.getfield 39, 3) := by decide +kernel
theorem dX2_addTruth_44 : decode cX2_addTruth 44 = .ok (.iload_n 1, 1) := by decide +kernel
theorem dX2_addTruth_45 : decode cX2_addTruth 45 = .ok (.iconst 0, 1) := by decide +kernel
theorem dX2_addTruth_46 : decode cX2_addTruth 46 = .ok (.invokevirtual 84, 3) := by decide +kernel
theorem dX2_addTruth_49 : decode cX2_addTruth 49 = .ok (.return_, 1) := by decide +kernel
theorem dX2_endPart_0 : decode cX2_endPart 0 = .ok (.aload_n 0, 1) := by decide +kernel
theorem dX2_endPart_1 : decode cX2_endPart 1 = .ok (.getfield 33, 3) := by decide +kernel
theorem dX2_endPart_4 : decode cX2_endPart 4 = .ok (.iload_n 1, 1) := by decide +kernel
theorem dX2_endPart_5 : decode cX2_endPart 5 = .ok (.aload_n 0, 1) := by decide +kernel
theorem dX2_endPart_6 : decode cX2_endPart 6 = .ok (.getfield 33, 3) := by decide +kernel
theorem dX2_endPart_9 : decode cX2_endPart 9 = .ok (.iload_n 1, 1) := by decide +kernel
theorem dX2_endPart_10 : decode cX2_endPart 10 = .ok (.invokevirtual 102, 3) := by decide +kernel
theorem dX2_endPart_13 : decode cX2_endPart 13 = .ok (.aload_n 0, 1) := by decide +kernel
theorem dX2_endPart_14 : decode cX2_endPart 14 = .ok (.getfield 36, 3) := by decide +kernel
theorem dX2_endPart_17 : decode cX2_endPart 17 = .ok (.iload_n 1, 1) := by decide +kernel
theorem dX2_endPart_18 : decode cX2_endPart 18 = .ok (.invokevirtual 102, 3) := by decide +kernel
theorem dX2_endPart_21 : decode cX2_endPart 21 = .ok (.invokestatic 129, 3) := by decide +kernel
theorem dX2_endPart_24 : decode cX2_endPart 24 = .ok (.invokevirtual 84, 3) := by decide +kernel
theorem dX2_endPart_27 : decode cX2_endPart 27 = .ok (.aload_n 0, 1) := by decide +kernel
theorem dX2_endPart_28 : decode cX2_endPart 28 = .ok (.getfield 36, 3) := by decide +kernel
theorem dX2_endPart_31 : decode cX2_endPart 31 = .ok (.iload_n 1, 1) := by decide +kernel
theorem dX2_endPart_32 : decode cX2_endPart 32 = .ok (.iconst 2, 1) := by decide +kernel
theorem dX2_endPart_33 : decode cX2_endPart 33 = .ok (.invokevirtual 84, 3) := by decide +kernel
theorem dX2_endPart_36 : decode cX2_endPart 36 = .ok (.return_, 1) := by decide +kernel
theorem dX2_testTruth_0 : decode cX2_testTruth 0 = .ok (.aload_n 0, 1) := by decide +kernel
theorem dX2_testTruth_1 : decode cX2_testTruth 1 = .ok (.getfield 30, 3) := by decide +kernel
theorem dX2_testTruth_4 : decode cX2_testTruth 4 = .ok (.iload_n 1, 1) := by decide +kernel
theorem dX2_testTruth_5 : decode cX2_testTruth 5 = .ok (.invokevirtual 102, 3) := by decide +kernel
theorem dX2_testTruth_8 : decode cX2_testTruth 8 = .ok (.istore 4, 2) := by decide +kernel
theorem dX2_testTruth_10 : decode cX2_testTruth 10 = .ok (.iload 4, 2) := by decide +kernel
theorem dX2_testTruth_12 : decode cX2_testTruth 12 = .ok (.iload_n 2, 1) := by decide +kernel
theorem dX2_testTruth_13 : decode cX2_testTruth 13 = .ok (.if_icmp .lt 9, 3) := by decide +kernel
theorem dX2_testTruth_16 : decode cX2_testTruth 16 = .ok (.iload 4, 2) := by decide +kernel
theorem dX2_testTruth_18 : decode cX2_testTruth 18 = .ok (.iload_n 3, 1) := by decide +kernel
theorem dX2_testTruth_19 : decode cX2_testTruth 19 = .ok (.if_icmp .le 7, 3) := by decide +kernel
theorem dX2_testTruth_22 : decode cX2_testTruth 22 = .ok (.iconst 1, 1) := by decide +kernel
theorem dX2_testTruth_23 : decode cX2_testTruth 23 = .ok (.goto 4, 3) := by decide +kernel
theorem dX2_testTruth_26 : decode cX2_testTruth 26 = .ok (.iconst 0, 1) := by decide +kernel
theorem dX2_testTruth_27 : decode cX2_testTruth 27 = .ok (.istore 5, 2) := by decide +kernel
theorem dX2_testTruth_29 : decode cX2_testTruth 29 = .ok (.iload 4, 2) := by decide +kernel
theorem dX2_testTruth_31 : decode cX2_testTruth 31 = .ok (.iload_n 2, 1) := by decide +kernel
theorem dX2_testTruth_32 : decode cX2_testTruth 32 = .ok (.if_icmp .ne 13, 3) := by decide +kernel
theorem dX2_testTruth_35 : decode cX2_testTruth 35 = .ok (.iload 4, 2) := by decide +kernel
theorem dX2_testTruth_37 : decode cX2_testTruth 37 = .ok (.iload_n 3, 1) := by decide +kernel
theorem dX2_testTruth_38 : decode cX2_testTruth 38 = .ok (.if_icmp .ne 7, 3) := by decide +kernel
theorem dX2_testTruth_41 : decode cX2_testTruth 41 = .ok (.iconst 1, 1) := by decide +kernel
theorem dX2_testTruth_42 : decode cX2_testTruth 42 = .ok (.goto 4, 3) := by decide +kernel
theorem dX2_testTruth_45 : decode cX2_testTruth 45 = .ok (.iconst 0, 1) := by decide +kernel
theorem dX2_testTruth_46 : decode cX2_testTruth 46 = .ok (.istore 6, 2) := by decide +kernel
theorem dX2_testTruth_48 : decode cX2_testTruth 48 = .ok (.aload_n 0, 1) := by decide +kernel
theorem dX2_testTruth_49 : decode cX2_testTruth 49 = .ok (.getfield 27, 3) := by decide +kernel
theorem dX2_testTruth_52 : decode cX2_testTruth 52 = .ok (.iload_n 1, 1) := by decide +kernel
theorem dX2_testTruth_53 : decode cX2_testTruth 53 = .ok (.invokevirtual 102, 3) := by decide +kernel
theorem dX2_testTruth_56 : decode cX2_testTruth 56 = .ok (.tableswitch 96 60 62 #[28, 80, 54], 28) := by decide +kernel
theorem dX2_testTruth_84 : decode cX2_testTruth 84 = .ok (.iload_n 2, 1) := by decide +kernel
theorem dX2_testTruth_85 : decode cX2_testTruth 85 = .ok (.iload 4, 2) := by decide +kernel
theorem dX2_testTruth_87 : decode cX2_testTruth 87 = .ok (.if_icmp .ge 7, 3) := by decide +kernel
theorem dX2_testTruth_90 : decode cX2_testTruth 90 = .ok (.iconst 1, 1) := by decide +kernel
theorem dX2_testTruth_91 : decode cX2_testTruth 91 = .ok (.goto 4, 3) := by decide +kernel
theorem dX2_testTruth_94 : decode cX2_testTruth 94 = .ok (.iconst 0, 1) := by decide +kernel
theorem dX2_testTruth_95 : decode cX2_testTruth 95 = .ok (.iload_n 3, 1) := by decide +kernel
theorem dX2_testTruth_96 : decode cX2_testTruth 96 = .ok (.iload 4, 2) := by decide +kernel
theorem dX2_testTruth_98 : decode cX2_testTruth 98 = .ok (.if_icmp .ge 7, 3) := by decide +kernel
theorem dX2_testTruth_101 : decode cX2_testTruth 101 = .ok (.iconst 1, 1) := by decide +kernel
theorem dX2_testTruth_102 : decode cX2_testTruth 102 = .ok (.goto 4, 3) := by decide +kernel
theorem dX2_testTruth_105 : decode cX2_testTruth 105 = .ok (.iconst 0, 1) := by decide +kernel
theorem dX2_testTruth_106 : decode cX2_testTruth 106 = .ok (.invokestatic 132, 3) := by decide +kernel
theorem dX2_testTruth_109 : decode cX2_testTruth 109 = .ok (.ireturn, 1) := by decide +kernel
theorem dX2_testTruth_110 : decode cX2_testTruth 110 = .ok (.iload_n 3, 1) := by decide +kernel
theorem dX2_testTruth_111 : decode cX2_testTruth 111 = .ok (.iload 4, 2) := by decide +kernel
theorem dX2_testTruth_113 : decode cX2_testTruth 113 = .ok (.if_icmp .le 7, 3) := by decide +kernel
theorem dX2_testTruth_116 : decode cX2_testTruth 116 = .ok (.iconst 1, 1) := by decide +kernel
theorem dX2_testTruth_117 : decode cX2_testTruth 117 = .ok (.goto 4, 3) := by decide +kernel
theorem dX2_testTruth_120 : decode cX2_testTruth 120 = .ok (.iconst 0, 1) := by decide +kernel
theorem dX2_testTruth_121 : decode cX2_testTruth 121 = .ok (.iload_n 2, 1) := by decide +kernel
theorem dX2_testTruth_122 : decode cX2_testTruth 122 = .ok (.iload 4, 2) := by decide +kernel
theorem dX2_testTruth_124 : decode cX2_testTruth 124 = .ok (.if_icmp .le 7, 3) := by decide +kernel
theorem dX2_testTruth_127 : decode cX2_testTruth 127 = .ok (.iconst 1, 1) := by decide +kernel
theorem dX2_testTruth_128 : decode cX2_testTruth 128 = .ok (.goto 4, 3) := by decide +kernel
theorem dX2_testTruth_131 : decode cX2_testTruth 131 = .ok (.iconst 0, 1) := by decide +kernel
theorem dX2_testTruth_132 : decode cX2_testTruth 132 = .ok (.invokestatic 132, 3) := by decide +kernel
theorem dX2_testTruth_135 : decode cX2_testTruth 135 = .ok (.ireturn, 1) := by decide +kernel
theorem dX2_testTruth_136 : decode cX2_testTruth 136 = .ok (.iload 5, 2) := by decide +kernel
theorem dX2_testTruth_138 : decode cX2_testTruth 138 = .ok (.ifCond .ne 7, 3) := by decide +kernel
theorem dX2_testTruth_141 : decode cX2_testTruth 141 = .ok (.iconst 1, 1) := by decide +kernel
theorem dX2_testTruth_142 : decode cX2_testTruth 142 = .ok (.goto 4, 3) := by decide +kernel
theorem dX2_testTruth_145 : decode cX2_testTruth 145 = .ok (.iconst 0, 1) := by decide +kernel
theorem dX2_testTruth_146 : decode cX2_testTruth 146 = .ok (.iload 6, 2) := by decide +kernel
theorem dX2_testTruth_148 : decode cX2_testTruth 148 = .ok (.invokestatic 132, 3) := by decide +kernel
theorem dX2_testTruth_151 : decode cX2_testTruth 151 = .ok (.ireturn, 1) := by decide +kernel
theorem dX2_testTruth_152 : decode cX2_testTruth 152 = .ok (.iload 6, 2) := by decide +kernel
theorem dX2_testTruth_154 : decode cX2_testTruth 154 = .ok (.ifCond .ne 7, 3) := by decide +kernel
theorem dX2_testTruth_157 : decode cX2_testTruth 157 = .ok (.iconst 1, 1) := by decide +kernel
theorem dX2_testTruth_158 : decode cX2_testTruth 158 = .ok (.goto 4, 3) := by decide +kernel
theorem dX2_testTruth_161 : decode cX2_testTruth 161 = .ok (.iconst 0, 1) := by decide +kernel
theorem dX2_testTruth_162 : decode cX2_testTruth 162 = .ok (.iload 5, 2) := by decide +kernel
theorem dX2_testTruth_164 : decode cX2_testTruth 164 = .ok (.invokestatic 132, 3) := by decide +kernel
theorem dX2_testTruth_167 : decode cX2_testTruth 167 = .ok (.ireturn, 1) := by decide +kernel
theorem dX2_truthOf_0 : decode cX2_truthOf 0 = .ok (.iload_n 1, 1) := by decide +kernel
theorem dX2_truthOf_1 : decode cX2_truthOf 1 = .ok (.ifCond .eq 7, 3) := by decide +kernel
theorem dX2_truthOf_4 : decode cX2_truthOf 4 = .ok (.iconst 2, 1) := by decide +kernel
theorem dX2_truthOf_5 : decode cX2_truthOf 5 = .ok (.goto 12, 3) := by decide +kernel
theorem dX2_truthOf_8 : decode cX2_truthOf 8 = .ok (.iload_n 0, 1) := by decide +kernel
theorem dX2_truthOf_9 : decode cX2_truthOf 9 = .ok (.ifCond .eq 7, 3) := by decide +kernel
theorem dX2_truthOf_12 : decode cX2_truthOf 12 = .ok (.iconst 1, 1) := by decide +kernel
theorem dX2_truthOf_13 : decode cX2_truthOf 13 = .ok (.goto 4, 3) := by decide +kernel
theorem dX2_truthOf_16 : decode cX2_truthOf 16 = .ok (.iconst 0, 1) := by decide +kernel
theorem dX2_truthOf_17 : decode cX2_truthOf 17 = .ok (.ireturn, 1) := by decide +kernel
theorem dX3_init_0 : decode cX3_init 0 = .ok (.aload_n 0, 1) := by decide +kernel
theorem dX3_init_1 : decode cX3_init 1 = .ok (.invokespecial 3, 3) := by decide +kernel
theorem dX3_init_4 : decode cX3_init 4 = .ok (.aload_n 0, 1) := by decide +kernel
theorem dX3_init_5 : decode cX3_init 5 = .ok (.new 9, 3) := by decide +kernel
theorem dX3_init_8 : decode cX3_init 8 = .ok (.dup, 1) := by decide +kernel
theorem dX3_init_9 : decode cX3_init 9 = .ok (.sipush 400, 3) := by decide +kernel
theorem dX3_init_12 : decode cX3_init 12 = .ok (.invokespecial 11, 3) := by decide +kernel
theorem dX3_init_15 : decode cX3_init 15 = .ok (.putfield 14, 3) := by decide +kernel
theorem dX3_init_18 : decode cX3_init 18 = .ok (.aload_n 0, 1) := by decide +kernel
theorem dX3_init_19 : decode cX3_init 19 = .ok (.new 9, 3) := by decide +kernel
theorem dX3_init_22 : decode cX3_init 22 = .ok (.dup, 1) := by decide +kernel
theorem dX3_init_23 : decode cX3_init 23 = .ok (.sipush 400, 3) := by decide +kernel
theorem dX3_init_26 : decode cX3_init 26 = .ok (.invokespecial 11, 3) := by decide +kernel
theorem dX3_init_29 : decode cX3_init 29 = .ok (.putfield 20, 3) := by decide +kernel
theorem dX3_init_32 : decode cX3_init 32 = .ok (.aload_n 0, 1) := by decide +kernel
theorem dX3_init_33 : decode cX3_init 33 = .ok (.new 9, 3) := by decide +kernel
theorem dX3_init_36 : decode cX3_init 36 = .ok (.dup, 1) := by decide +kernel
theorem dX3_init_37 : decode cX3_init 37 = .ok (.sipush 400, 3) := by decide +kernel
theorem dX3_init_40 : decode cX3_init 40 = .ok (.invokespecial 11, 3) := by decide +kernel
theorem dX3_init_43 : decode cX3_init 43 = .ok (.putfield 23, 3) := by decide +kernel
theorem dX3_init_46 : decode cX3_init 46 = .ok (.return_, 1) := by decide +kernel
theorem dX3_copyFrom_0 : decode cX3_copyFrom 0 = .ok (.aload_n 0, 1) := by decide +kernel
theorem dX3_copyFrom_1 : decode cX3_copyFrom 1 = .ok (.getfield 14, 3) := by decide +kernel
theorem dX3_copyFrom_4 : decode cX3_copyFrom 4 = .ok (.aload_n 1, 1) := by decide +kernel
theorem dX3_copyFrom_5 : decode cX3_copyFrom 5 = .ok (.getfield 14, 3) := by decide +kernel
theorem dX3_copyFrom_8 : decode cX3_copyFrom 8 = .ok (.invokevirtual 26, 3) := by decide +kernel
theorem dX3_copyFrom_11 : decode cX3_copyFrom 11 = .ok (.aload_n 0, 1) := by decide +kernel
theorem dX3_copyFrom_12 : decode cX3_copyFrom 12 = .ok (.getfield 20, 3) := by decide +kernel
theorem dX3_copyFrom_15 : decode cX3_copyFrom 15 = .ok (.aload_n 1, 1) := by decide +kernel
theorem dX3_copyFrom_16 : decode cX3_copyFrom 16 = .ok (.getfield 20, 3) := by decide +kernel
theorem dX3_copyFrom_19 : decode cX3_copyFrom 19 = .ok (.invokevirtual 26, 3) := by decide +kernel
theorem dX3_copyFrom_22 : decode cX3_copyFrom 22 = .ok (.aload_n 0, 1) := by decide +kernel
theorem dX3_copyFrom_23 : decode cX3_copyFrom 23 = .ok (.getfield 23, 3) := by decide +kernel
theorem dX3_copyFrom_26 : decode cX3_copyFrom 26 = .ok (.aload_n 1, 1) := by decide +kernel
theorem dX3_copyFrom_27 : decode cX3_copyFrom 27 = .ok (.getfield 23, 3) := by decide +kernel
theorem dX3_copyFrom_30 : decode cX3_copyFrom 30 = .ok (.invokevirtual 26, 3) := by decide +kernel
theorem dX3_copyFrom_33 : decode cX3_copyFrom 33 = .ok (.aload_n 0, 1) := by decide +kernel
theorem dX3_copyFrom_34 : decode cX3_copyFrom 34 = .ok (.aload_n 1, 1) := by decide +kernel
theorem dX3_copyFrom_35 : decode cX3_copyFrom 35 = .ok (.getfield 30, 3) := by decide +kernel
theorem dX3_copyFrom_38 : decode cX3_copyFrom 38 = .ok (.putfield 30, 3) := by decide +kernel
theorem dX3_copyFrom_41 : decode cX3_copyFrom 41 = .ok (.return_, 1) := by decide +kernel
theorem dX3_has_0 : decode cX3_has 0 = .ok (.aload_n 0, 1) := by decide +kernel
theorem dX3_has_1 : decode cX3_has 1 = .ok (.iload_n 1, 1) := by decide +kernel
theorem dX3_has_2 : decode cX3_has 2 = .ok (.invokevirtual 34, 3) := by decide +kernel
theorem dX3_has_5 : decode cX3_has 5 = .ok (.iconst (-1), 1) := by decide +kernel
theorem dX3_has_6 : decode cX3_has 6 = .ok (.if_icmp .eq 7, 3) := by decide +kernel
theorem dX3_has_9 : decode cX3_has 9 = .ok (.iconst 1, 1) := by decide +kernel
theorem dX3_has_10 : decode cX3_has 10 = .ok (.goto 4, 3) := by decide +kernel
theorem dX3_has_13 : decode cX3_has 13 = .ok (.iconst 0, 1) := by decide +kernel
theorem dX3_has_14 : decode cX3_has 14 = .ok (.ireturn, 1) := by decide +kernel
theorem dX3_keyOf_0 : decode cX3_keyOf 0 = .ok (.aload_n 0, 1) := by decide +kernel
theorem dX3_keyOf_1 : decode cX3_keyOf 1 = .ok (.getfield 14, 3) := by decide +kernel
theorem dX3_keyOf_4 : decode cX3_keyOf 4 = .ok (.iload_n 1, 1) := by decide +kernel
theorem dX3_keyOf_5 : decode cX3_keyOf 5 = .ok (.invokevirtual 38, 3) := by decide +kernel
theorem dX3_keyOf_8 : decode cX3_keyOf 8 = .ok (.ireturn, 1) := by decide +kernel
theorem dX3_valueOf_0 : decode cX3_valueOf 0 = .ok (.aload_n 0, 1) := by decide +kernel
theorem dX3_valueOf_1 : decode cX3_valueOf 1 = .ok (.getfield 20, 3) := by decide +kernel
theorem dX3_valueOf_4 : decode cX3_valueOf 4 = .ok (.iload_n 1, 1) := by decide +kernel
theorem dX3_valueOf_5 : decode cX3_valueOf 5 = .ok (.invokevirtual 38, 3) := by decide +kernel
theorem dX3_valueOf_8 : decode cX3_valueOf 8 = .ok (.ireturn, 1) := by decide +kernel
theorem dX3_placeOf_0 : decode cX3_placeOf 0 = .ok (.iload_n 1, 1) := by decide +kernel
theorem dX3_placeOf_1 : decode cX3_placeOf 1 = .ok (.ifCond .lt 22, 3) := by decide +kernel
theorem dX3_placeOf_4 : decode cX3_placeOf 4 = .ok (.iload_n 1, 1) := by decide +kernel
theorem dX3_placeOf_5 : decode cX3_placeOf 5 = .ok (.aload_n 0, 1) := by decide +kernel
theorem dX3_placeOf_6 : decode cX3_placeOf 6 = .ok (.getfield 30, 3) := by decide +kernel
theorem dX3_placeOf_9 : decode cX3_placeOf 9 = .ok (.if_icmp .ge 14, 3) := by decide +kernel
theorem dX3_placeOf_12 : decode cX3_placeOf 12 = .ok (.aload_n 0, 1) := by decide +kernel
theorem dX3_placeOf_13 : decode cX3_placeOf 13 = .ok (.getfield 23, 3) := by decide +kernel
theorem dX3_placeOf_16 : decode cX3_placeOf 16 = .ok (.iload_n 1, 1) := by decide +kernel
theorem dX3_placeOf_17 : decode cX3_placeOf 17 = .ok (.invokevirtual 38, 3) := by decide +kernel
theorem dX3_placeOf_20 : decode cX3_placeOf 20 = .ok (.goto 4, 3) := by decide +kernel
theorem dX3_placeOf_23 : decode cX3_placeOf 23 = .ok (.iconst (-1), 1) := by decide +kernel
theorem dX3_placeOf_24 : decode cX3_placeOf 24 = .ok (.ireturn, 1) := by decide +kernel
theorem dX3_isInTable_0 : decode cX3_isInTable 0 = .ok (.aload_n 0, 1) := by decide +kernel
theorem dX3_isInTable_1 : decode cX3_isInTable 1 = .ok (.iload_n 1, 1) := by decide +kernel
theorem dX3_isInTable_2 : decode cX3_isInTable 2 = .ok (.invokevirtual 34, 3) := by decide +kernel
theorem dX3_isInTable_5 : decode cX3_isInTable 5 = .ok (.istore_n 2, 1) := by decide +kernel
theorem dX3_isInTable_6 : decode cX3_isInTable 6 = .ok (.iload_n 2, 1) := by decide +kernel
theorem dX3_isInTable_7 : decode cX3_isInTable 7 = .ok (.iconst (-1), 1) := by decide +kernel
theorem dX3_isInTable_8 : decode cX3_isInTable 8 = .ok (.if_icmp .eq 13, 3) := by decide +kernel
theorem dX3_isInTable_11 : decode cX3_isInTable 11 = .ok (.iload_n 2, 1) := by decide +kernel
theorem dX3_isInTable_12 : decode cX3_isInTable 12 = .ok (.bipush 61, 2) := by decide +kernel
theorem dX3_isInTable_14 : decode cX3_isInTable 14 = .ok (.if_icmp .eq 7, 3) := by decide +kernel
theorem dX3_isInTable_17 : decode cX3_isInTable 17 = .ok (.iconst 1, 1) := by decide +kernel
theorem dX3_isInTable_18 : decode cX3_isInTable 18 = .ok (.goto 4, 3) := by decide +kernel
theorem dX3_isInTable_21 : decode cX3_isInTable 21 = .ok (.iconst 0, 1) := by decide +kernel
theorem dX3_isInTable_22 : decode cX3_isInTable 22 = .ok (.ireturn, 1) := by decide +kernel
theorem dX3_append_0 : decode cX3_append 0 = .ok (.aload_n 0, 1) := by decide +kernel
theorem dX3_append_1 : decode cX3_append 1 = .ok (.getfield 30, 3) := by decide +kernel
theorem dX3_append_4 : decode cX3_append 4 = .ok (.istore 4, 2) := by decide +kernel
theorem dX3_append_6 : decode cX3_append 6 = .ok (.aload_n 0, 1) := by decide +kernel
theorem dX3_append_7 : decode cX3_append 7 = .ok (.getfield 14, 3) := by decide +kernel
theorem dX3_append_10 : decode cX3_append 10 = .ok (.iload 4, 2) := by decide +kernel
theorem dX3_append_12 : decode cX3_append 12 = .ok (.iload_n 1, 1) := by decide +kernel
theorem dX3_append_13 : decode cX3_append 13 = .ok (.invokevirtual 41, 3) := by decide +kernel
theorem dX3_append_16 : decode cX3_append 16 = .ok (.aload_n 0, 1) := by decide +kernel
theorem dX3_append_17 : decode cX3_append 17 = .ok (.getfield 20, 3) := by decide +kernel
theorem dX3_append_20 : decode cX3_append 20 = .ok (.iload 4, 2) := by decide +kernel
theorem dX3_append_22 : decode cX3_append 22 = .ok (.iload_n 2, 1) := by decide +kernel
theorem dX3_append_23 : decode cX3_append 23 = .ok (.invokevirtual 41, 3) := by decide +kernel
theorem dX3_append_26 : decode cX3_append 26 = .ok (.aload_n 0, 1) := by decide +kernel
theorem dX3_append_27 : decode cX3_append 27 = .ok (.getfield 23, 3) := by decide +kernel
theorem dX3_append_30 : decode cX3_append 30 = .ok (.iload 4, 2) := by decide +kernel
theorem dX3_append_32 : decode cX3_append 32 = .ok (.iload_n 3, 1) := by decide +kernel
theorem dX3_append_33 : decode cX3_append 33 = .ok (.invokevirtual 41, 3) := by decide +kernel
theorem dX3_append_36 : decode cX3_append 36 = .ok (.aload_n 0, 1) := by decide +kernel
theorem dX3_append_37 : decode cX3_append 37 = .ok (.dup, 1) := by decide +kernel
theorem dX3_append_38 : decode cX3_append 38 = .ok (.getfield 30, 3) := by decide +kernel
theorem dX3_append_41 : decode cX3_append 41 = .ok (.iconst 1, 1) := by decide +kernel
theorem dX3_append_42 : decode cX3_append 42 = .ok (.iadd, 1) := by decide +kernel
theorem dX3_append_43 : decode cX3_append 43 = .ok (.putfield 30, 3) := by decide +kernel
theorem dX3_append_46 : decode cX3_append 46 = .ok (.iload 4, 2) := by decide +kernel
theorem dX3_append_48 : decode cX3_append 48 = .ok (.ireturn, 1) := by decide +kernel
theorem dX3_changeKey_0 : decode cX3_changeKey 0 = .ok (.aload_n 0, 1) := by decide +kernel
theorem dX3_changeKey_1 : decode cX3_changeKey 1 = .ok (.getfield 14, 3) := by decide +kernel
theorem dX3_changeKey_4 : decode cX3_changeKey 4 = .ok (.iload_n 1, 1) := by decide +kernel
theorem dX3_changeKey_5 : decode cX3_changeKey 5 = .ok (.iload_n 2, 1) := by decide +kernel
theorem dX3_changeKey_6 : decode cX3_changeKey 6 = .ok (.invokevirtual 41, 3) := by decide +kernel
theorem dX3_changeKey_9 : decode cX3_changeKey 9 = .ok (.return_, 1) := by decide +kernel
theorem dX3_move_0 : decode cX3_move 0 = .ok (.aload_n 0, 1) := by decide +kernel
theorem dX3_move_1 : decode cX3_move 1 = .ok (.getfield 23, 3) := by decide +kernel
theorem dX3_move_4 : decode cX3_move 4 = .ok (.iload_n 1, 1) := by decide +kernel
theorem dX3_move_5 : decode cX3_move 5 = .ok (.iload_n 2, 1) := by decide +kernel
theorem dX3_move_6 : decode cX3_move 6 = .ok (.invokevirtual 41, 3) := by decide +kernel
theorem dX3_move_9 : decode cX3_move 9 = .ok (.return_, 1) := by decide +kernel
theorem dX3_moveAll_0 : decode cX3_moveAll 0 = .ok (.aload_n 0, 1) := by decide +kernel
theorem dX3_moveAll_1 : decode cX3_moveAll 1 = .ok (.iload_n 1, 1) := by decide +kernel
theorem dX3_moveAll_2 : decode cX3_moveAll 2 = .ok (.iload_n 2, 1) := by decide +kernel
theorem dX3_moveAll_3 : decode cX3_moveAll 3 = .ok (.iconst 0, 1) := by decide +kernel
theorem dX3_moveAll_4 : decode cX3_moveAll 4 = .ok (.sipush 1000, 3) := by decide +kernel
theorem dX3_moveAll_7 : decode cX3_moveAll 7 = .ok (.invokevirtual 45, 3) := by decide +kernel
theorem dX3_moveAll_10 : decode cX3_moveAll 10 = .ok (.return_, 1) := by decide +kernel
theorem dX3_moveKeys_0 : decode cX3_moveKeys 0 = .ok (.iconst 0, 1) := by decide +kernel
theorem dX3_moveKeys_1 : decode cX3_moveKeys 1 = .ok (.istore 5, 2) := by decide +kernel
theorem dX3_moveKeys_3 : decode cX3_moveKeys 3 = .ok (.iload 5, 2) := by decide +kernel
theorem dX3_moveKeys_5 : decode cX3_moveKeys 5 = .ok (.aload_n 0, 1) := by decide +kernel
theorem dX3_moveKeys_6 : decode cX3_moveKeys 6 = .ok (.getfield 30, 3) := by decide +kernel
theorem dX3_moveKeys_9 : decode cX3_moveKeys 9 = .ok (.if_icmp .ge 29, 3) := by decide +kernel
theorem dX3_moveKeys_12 : decode cX3_moveKeys 12 = .ok (.aload_n 0, 1) := by decide +kernel
theorem dX3_moveKeys_13 : decode cX3_moveKeys 13 = .ok (.iload 5, 2) := by decide +kernel
theorem dX3_moveKeys_15 : decode cX3_moveKeys 15 = .ok (.iload_n 1, 1) := by decide +kernel
theorem dX3_moveKeys_16 : decode cX3_moveKeys 16 = .ok (.iload_n 3, 1) := by decide +kernel
theorem dX3_moveKeys_17 : decode cX3_moveKeys 17 = .ok (.iload 4, 2) := by decide +kernel
theorem dX3_moveKeys_19 : decode cX3_moveKeys 19 = .ok (.invokevirtual 49, 3) := by decide +kernel
theorem dX3_moveKeys_22 : decode cX3_moveKeys 22 = .ok (.ifCond .eq 10, 3) := by decide +kernel
theorem dX3_moveKeys_25 : decode cX3_moveKeys 25 = .ok (.aload_n 0, 1) := by decide +kernel
theorem dX3_moveKeys_26 : decode cX3_moveKeys 26 = .ok (.iload 5, 2) := by decide +kernel
theorem dX3_moveKeys_28 : decode cX3_moveKeys 28 = .ok (.iload_n 2, 1) := by decide +kernel
theorem dX3_moveKeys_29 : decode cX3_moveKeys 29 = .ok (.invokevirtual 53, 3) := by decide +kernel
theorem dX3_moveKeys_32 : decode cX3_moveKeys 32 = .ok (.iinc 5 1, 3) := by decide +kernel
theorem dX3_moveKeys_35 : decode cX3_moveKeys 35 = .ok (.goto (-32), 3) := by decide +kernel
theorem dX3_moveKeys_38 : decode cX3_moveKeys 38 = .ok (.return_, 1) := by decide +kernel
theorem dX3_exchange_0 : decode cX3_exchange 0 = .ok (.iconst 0, 1) := by decide +kernel
theorem dX3_exchange_1 : decode cX3_exchange 1 = .ok (.istore_n 3, 1) := by decide +kernel
theorem dX3_exchange_2 : decode cX3_exchange 2 = .ok (.iload_n 3, 1) := by decide +kernel
theorem dX3_exchange_3 : decode cX3_exchange 3 = .ok (.aload_n 0, 1) := by decide +kernel
theorem dX3_exchange_4 : decode cX3_exchange 4 = .ok (.getfield 30, 3) := by decide +kernel
theorem dX3_exchange_7 : decode cX3_exchange 7 = .ok (.if_icmp .ge 42, 3) := by decide +kernel
theorem dX3_exchange_10 : decode cX3_exchange 10 = .ok (.aload_n 0, 1) := by decide +kernel
theorem dX3_exchange_11 : decode cX3_exchange 11 = .ok (.iload_n 3, 1) := by decide +kernel
theorem dX3_exchange_12 : decode cX3_exchange 12 = .ok (.invokevirtual 34, 3) := by decide +kernel
theorem dX3_exchange_15 : decode cX3_exchange 15 = .ok (.iload_n 1, 1) := by decide +kernel
theorem dX3_exchange_16 : decode cX3_exchange 16 = .ok (.if_icmp .ne 12, 3) := by decide +kernel
theorem dX3_exchange_19 : decode cX3_exchange 19 = .ok (.aload_n 0, 1) := by decide +kernel
theorem dX3_exchange_20 : decode cX3_exchange 20 = .ok (.iload_n 3, 1) := by decide +kernel
theorem dX3_exchange_21 : decode cX3_exchange 21 = .ok (.iload_n 2, 1) := by decide +kernel
theorem dX3_exchange_22 : decode cX3_exchange 22 = .ok (.invokevirtual 53, 3) := by decide +kernel
theorem dX3_exchange_25 : decode cX3_exchange 25 = .ok (.goto 18, 3) := by decide +kernel
theorem dX3_exchange_28 : decode cX3_exchange 28 = .ok (.aload_n 0, 1) := by decide +kernel
theorem dX3_exchange_29 : decode cX3_exchange 29 = .ok (.iload_n 3, 1) := by decide +kernel
theorem dX3_exchange_30 : decode cX3_exchange 30 = .ok (.invokevirtual 34, 3) := by decide +kernel
theorem dX3_exchange_33 : decode cX3_exchange 33 = .ok (.iload_n 2, 1) := by decide +kernel
theorem dX3_exchange_34 : decode cX3_exchange 34 = .ok (.if_icmp .ne 9, 3) := by decide +kernel
theorem dX3_exchange_37 : decode cX3_exchange 37 = .ok (.aload_n 0, 1) := by decide +kernel
theorem dX3_exchange_38 : decode cX3_exchange 38 = .ok (.iload_n 3, 1) := by decide +kernel
theorem dX3_exchange_39 : decode cX3_exchange 39 = .ok (.iload_n 1, 1) := by decide +kernel
theorem dX3_exchange_40 : decode cX3_exchange 40 = .ok (.invokevirtual 53, 3) := by decide +kernel
theorem dX3_exchange_43 : decode cX3_exchange 43 = .ok (.iinc 3 1, 3) := by decide +kernel
theorem dX3_exchange_46 : decode cX3_exchange 46 = .ok (.goto (-44), 3) := by decide +kernel
theorem dX3_exchange_49 : decode cX3_exchange 49 = .ok (.return_, 1) := by decide +kernel
theorem dX3_amountInTable_0 : decode cX3_amountInTable 0 = .ok (.iconst 0, 1) := by decide +kernel
theorem dX3_amountInTable_1 : decode cX3_amountInTable 1 = .ok (.istore_n 1, 1) := by decide +kernel
theorem dX3_amountInTable_2 : decode cX3_amountInTable 2 = .ok (.iconst 0, 1) := by decide +kernel
theorem dX3_amountInTable_3 : decode cX3_amountInTable 3 = .ok (.istore_n 2, 1) := by decide +kernel
theorem dX3_amountInTable_4 : decode cX3_amountInTable 4 = .ok (.iload_n 2, 1) := by decide +kernel
theorem dX3_amountInTable_5 : decode cX3_amountInTable 5 = .ok (.aload_n 0, 1) := by decide +kernel
theorem dX3_amountInTable_6 : decode cX3_amountInTable 6 = .ok (.getfield 30, 3) := by decide +kernel
theorem dX3_amountInTable_9 : decode cX3_amountInTable 9 = .ok (.if_icmp .ge 20, 3) := by decide +kernel
theorem dX3_amountInTable_12 : decode cX3_amountInTable 12 = .ok (.aload_n 0, 1) := by decide +kernel
theorem dX3_amountInTable_13 : decode cX3_amountInTable 13 = .ok (.iload_n 2, 1) := by decide +kernel
theorem dX3_amountInTable_14 : decode cX3_amountInTable 14 = .ok (.invokevirtual 56, 3) := by decide +kernel
theorem dX3_amountInTable_17 : decode cX3_amountInTable 17 = .ok (.ifCond .eq 6, 3) := by decide +kernel
theorem dX3_amountInTable_20 : decode cX3_amountInTable 20 = .ok (.iinc 1 1, 3) := by decide +kernel
theorem dX3_amountInTable_23 : decode cX3_amountInTable 23 = .ok (.iinc 2 1, 3) := by decide +kernel
theorem dX3_amountInTable_26 : decode cX3_amountInTable 26 = .ok (.goto (-22), 3) := by decide +kernel
theorem dX3_amountInTable_29 : decode cX3_amountInTable 29 = .ok (.iload_n 1, 1) := by decide +kernel
theorem dX3_amountInTable_30 : decode cX3_amountInTable 30 = .ok (.ireturn, 1) := by decide +kernel
theorem dX3_amountAt_0 : decode cX3_amountAt 0 = .ok (.aload_n 0, 1) := by decide +kernel
theorem dX3_amountAt_1 : decode cX3_amountAt 1 = .ok (.iload_n 1, 1) := by decide +kernel
theorem dX3_amountAt_2 : decode cX3_amountAt 2 = .ok (.iconst 0, 1) := by decide +kernel
theorem dX3_amountAt_3 : decode cX3_amountAt 3 = .ok (.sipush 1000, 3) := by decide +kernel
theorem dX3_amountAt_6 : decode cX3_amountAt 6 = .ok (.invokevirtual 60, 3) := by decide +kernel
theorem dX3_amountAt_9 : decode cX3_amountAt 9 = .ok (.ireturn, 1) := by decide +kernel
theorem dX3_amountWithKeys_0 : decode cX3_amountWithKeys 0 = .ok (.iconst 0, 1) := by decide +kernel
theorem dX3_amountWithKeys_1 : decode cX3_amountWithKeys 1 = .ok (.istore 4, 2) := by decide +kernel
theorem dX3_amountWithKeys_3 : decode cX3_amountWithKeys 3 = .ok (.iconst 0, 1) := by decide +kernel
theorem dX3_amountWithKeys_4 : decode cX3_amountWithKeys 4 = .ok (.istore 5, 2) := by decide +kernel
theorem dX3_amountWithKeys_6 : decode cX3_amountWithKeys 6 = .ok (.iload 5, 2) := by decide +kernel
theorem dX3_amountWithKeys_8 : decode cX3_amountWithKeys 8 = .ok (.aload_n 0, 1) := by decide +kernel
theorem dX3_amountWithKeys_9 : decode cX3_amountWithKeys 9 = .ok (.getfield 30, 3) := by decide +kernel
theorem dX3_amountWithKeys_12 : decode cX3_amountWithKeys 12 = .ok (.if_icmp .ge 24, 3) := by decide +kernel
theorem dX3_amountWithKeys_15 : decode cX3_amountWithKeys 15 = .ok (.aload_n 0, 1) := by decide +kernel
theorem dX3_amountWithKeys_16 : decode cX3_amountWithKeys 16 = .ok (.iload 5, 2) := by decide +kernel
theorem dX3_amountWithKeys_18 : decode cX3_amountWithKeys 18 = .ok (.iload_n 1, 1) := by decide +kernel
theorem dX3_amountWithKeys_19 : decode cX3_amountWithKeys 19 = .ok (.iload_n 2, 1) := by decide +kernel
theorem dX3_amountWithKeys_20 : decode cX3_amountWithKeys 20 = .ok (.iload_n 3, 1) := by decide +kernel
theorem dX3_amountWithKeys_21 : decode cX3_amountWithKeys 21 = .ok (.invokevirtual 49, 3) := by decide +kernel
theorem dX3_amountWithKeys_24 : decode cX3_amountWithKeys 24 = .ok (.ifCond .eq 6, 3) := by decide +kernel
theorem dX3_amountWithKeys_27 : decode cX3_amountWithKeys 27 = .ok (.iinc 4 1, 3) := by decide +kernel
theorem dX3_amountWithKeys_30 : decode cX3_amountWithKeys 30 = .ok (.iinc 5 1, 3) := by decide +kernel
theorem dX3_amountWithKeys_33 : decode cX3_amountWithKeys 33 = .ok (.goto (-27), 3) := by decide +kernel
theorem dX3_amountWithKeys_36 : decode cX3_amountWithKeys 36 = .ok (.iload 4, 2) := by decide +kernel
theorem dX3_amountWithKeys_38 : decode cX3_amountWithKeys 38 = .ok (.ireturn, 1) := by decide +kernel
theorem dX3_liesWithKey_0 : decode cX3_liesWithKey 0 = .ok (.aload_n 0, 1) := by decide +kernel
theorem dX3_liesWithKey_1 : decode cX3_liesWithKey 1 = .ok (.iload_n 1, 1) := by decide +kernel
theorem dX3_liesWithKey_2 : decode cX3_liesWithKey 2 = .ok (.invokevirtual 34, 3) := by decide +kernel
theorem dX3_liesWithKey_5 : decode cX3_liesWithKey 5 = .ok (.iload_n 2, 1) := by decide +kernel
theorem dX3_liesWithKey_6 : decode cX3_liesWithKey 6 = .ok (.if_icmp .ne 26, 3) := by decide +kernel
theorem dX3_liesWithKey_9 : decode cX3_liesWithKey 9 = .ok (.aload_n 0, 1) := by decide +kernel
theorem dX3_liesWithKey_10 : decode cX3_liesWithKey 10 = .ok (.iload_n 1, 1) := by decide +kernel
theorem dX3_liesWithKey_11 : decode cX3_liesWithKey 11 = .ok (.invokevirtual 64, 3) := by decide +kernel
theorem dX3_liesWithKey_14 : decode cX3_liesWithKey 14 = .ok (.iload_n 3, 1) := by decide +kernel
theorem dX3_liesWithKey_15 : decode cX3_liesWithKey 15 = .ok (.if_icmp .lt 17, 3) := by decide +kernel
theorem dX3_liesWithKey_18 : decode cX3_liesWithKey 18 = .ok (.aload_n 0, 1) := by decide +kernel
theorem dX3_liesWithKey_19 : decode cX3_liesWithKey 19 = .ok (.iload_n 1, 1) := by decide +kernel
theorem dX3_liesWithKey_20 : decode cX3_liesWithKey 20 = .ok (.invokevirtual 64, 3) := by decide +kernel
theorem dX3_liesWithKey_23 : decode cX3_liesWithKey 23 = .ok (.iload 4, 2) := by decide +kernel
theorem dX3_liesWithKey_25 : decode cX3_liesWithKey 25 = .ok (.if_icmp .ge 7, 3) := by decide +kernel
theorem dX3_liesWithKey_28 : decode cX3_liesWithKey 28 = .ok (.iconst 1, 1) := by decide +kernel
theorem dX3_liesWithKey_29 : decode cX3_liesWithKey 29 = .ok (.goto 4, 3) := by decide +kernel
theorem dX3_liesWithKey_32 : decode cX3_liesWithKey 32 = .ok (.iconst 0, 1) := by decide +kernel
theorem dX3_liesWithKey_33 : decode cX3_liesWithKey 33 = .ok (.ireturn, 1) := by decide +kernel
theorem dX3_sumAt_0 : decode cX3_sumAt 0 = .ok (.iconst 0, 1) := by decide +kernel
theorem dX3_sumAt_1 : decode cX3_sumAt 1 = .ok (.istore_n 2, 1) := by decide +kernel
theorem dX3_sumAt_2 : decode cX3_sumAt 2 = .ok (.iconst 0, 1) := by decide +kernel
theorem dX3_sumAt_3 : decode cX3_sumAt 3 = .ok (.istore_n 3, 1) := by decide +kernel
theorem dX3_sumAt_4 : decode cX3_sumAt 4 = .ok (.iload_n 3, 1) := by decide +kernel
theorem dX3_sumAt_5 : decode cX3_sumAt 5 = .ok (.aload_n 0, 1) := by decide +kernel
theorem dX3_sumAt_6 : decode cX3_sumAt 6 = .ok (.getfield 30, 3) := by decide +kernel
theorem dX3_sumAt_9 : decode cX3_sumAt 9 = .ok (.if_icmp .ge 26, 3) := by decide +kernel
theorem dX3_sumAt_12 : decode cX3_sumAt 12 = .ok (.aload_n 0, 1) := by decide +kernel
theorem dX3_sumAt_13 : decode cX3_sumAt 13 = .ok (.iload_n 3, 1) := by decide +kernel
theorem dX3_sumAt_14 : decode cX3_sumAt 14 = .ok (.invokevirtual 34, 3) := by decide +kernel
theorem dX3_sumAt_17 : decode cX3_sumAt 17 = .ok (.iload_n 1, 1) := by decide +kernel
theorem dX3_sumAt_18 : decode cX3_sumAt 18 = .ok (.if_icmp .ne 11, 3) := by decide +kernel
theorem dX3_sumAt_21 : decode cX3_sumAt 21 = .ok (.iload_n 2, 1) := by decide +kernel
theorem dX3_sumAt_22 : decode cX3_sumAt 22 = .ok (.aload_n 0, 1) := by decide +kernel
theorem dX3_sumAt_23 : decode cX3_sumAt 23 = .ok (.iload_n 3, 1) := by decide +kernel
theorem dX3_sumAt_24 : decode cX3_sumAt 24 = .ok (.invokevirtual 67, 3) := by decide +kernel
theorem dX3_sumAt_27 : decode cX3_sumAt 27 = .ok (.iadd, 1) := by decide +kernel
theorem dX3_sumAt_28 : decode cX3_sumAt 28 = .ok (.istore_n 2, 1) := by decide +kernel
theorem dX3_sumAt_29 : decode cX3_sumAt 29 = .ok (.iinc 3 1, 3) := by decide +kernel
theorem dX3_sumAt_32 : decode cX3_sumAt 32 = .ok (.goto (-28), 3) := by decide +kernel
theorem dX3_sumAt_35 : decode cX3_sumAt 35 = .ok (.iload_n 2, 1) := by decide +kernel
theorem dX3_sumAt_36 : decode cX3_sumAt 36 = .ok (.ireturn, 1) := by decide +kernel
theorem dX3_ranked_0 : decode cX3_ranked 0 = .ok (.iconst 0, 1) := by decide +kernel
theorem dX3_ranked_1 : decode cX3_ranked 1 = .ok (.istore_n 3, 1) := by decide +kernel
theorem dX3_ranked_2 : decode cX3_ranked 2 = .ok (.iload_n 3, 1) := by decide +kernel
theorem dX3_ranked_3 : decode cX3_ranked 3 = .ok (.aload_n 0, 1) := by decide +kernel
theorem dX3_ranked_4 : decode cX3_ranked 4 = .ok (.getfield 30, 3) := by decide +kernel
theorem dX3_ranked_7 : decode cX3_ranked 7 = .ok (.if_icmp .ge 30, 3) := by decide +kernel
theorem dX3_ranked_10 : decode cX3_ranked 10 = .ok (.aload_n 0, 1) := by decide +kernel
theorem dX3_ranked_11 : decode cX3_ranked 11 = .ok (.iload_n 3, 1) := by decide +kernel
theorem dX3_ranked_12 : decode cX3_ranked 12 = .ok (.invokevirtual 34, 3) := by decide +kernel
theorem dX3_ranked_15 : decode cX3_ranked 15 = .ok (.iload_n 1, 1) := by decide +kernel
theorem dX3_ranked_16 : decode cX3_ranked 16 = .ok (.if_icmp .ne 15, 3) := by decide +kernel
theorem dX3_ranked_19 : decode cX3_ranked 19 = .ok (.aload_n 0, 1) := by decide +kernel
theorem dX3_ranked_20 : decode cX3_ranked 20 = .ok (.iload_n 3, 1) := by decide +kernel
theorem dX3_ranked_21 : decode cX3_ranked 21 = .ok (.iload_n 1, 1) := by decide +kernel
theorem dX3_ranked_22 : decode cX3_ranked 22 = .ok (.invokevirtual 70, 3) := by decide +kernel
theorem dX3_ranked_25 : decode cX3_ranked 25 = .ok (.iload_n 2, 1) := by decide +kernel
theorem dX3_ranked_26 : decode cX3_ranked 26 = .ok (.if_icmp .ne 5, 3) := by decide +kernel
theorem dX3_ranked_29 : decode cX3_ranked 29 = .ok (.iload_n 3, 1) := by decide +kernel
theorem dX3_ranked_30 : decode cX3_ranked 30 = .ok (.ireturn, 1) := by decide +kernel
theorem dX3_ranked_31 : decode cX3_ranked 31 = .ok (.iinc 3 1, 3) := by decide +kernel
theorem dX3_ranked_34 : decode cX3_ranked 34 = .ok (.goto (-32), 3) := by decide +kernel
theorem dX3_ranked_37 : decode cX3_ranked 37 = .ok (.sipush (-1005), 3) := by decide +kernel
theorem dX3_ranked_40 : decode cX3_ranked 40 = .ok (.ireturn, 1) := by decide +kernel
theorem dX3_amountAhead_0 : decode cX3_amountAhead 0 = .ok (.aload_n 0, 1) := by decide +kernel
theorem dX3_amountAhead_1 : decode cX3_amountAhead 1 = .ok (.iload_n 1, 1) := by decide +kernel
theorem dX3_amountAhead_2 : decode cX3_amountAhead 2 = .ok (.invokevirtual 64, 3) := by decide +kernel
theorem dX3_amountAhead_5 : decode cX3_amountAhead 5 = .ok (.istore_n 3, 1) := by decide +kernel
theorem dX3_amountAhead_6 : decode cX3_amountAhead 6 = .ok (.iconst 0, 1) := by decide +kernel
theorem dX3_amountAhead_7 : decode cX3_amountAhead 7 = .ok (.istore 4, 2) := by decide +kernel
theorem dX3_amountAhead_9 : decode cX3_amountAhead 9 = .ok (.iconst 0, 1) := by decide +kernel
theorem dX3_amountAhead_10 : decode cX3_amountAhead 10 = .ok (.istore 5, 2) := by decide +kernel
theorem dX3_amountAhead_12 : decode cX3_amountAhead 12 = .ok (.iload 5, 2) := by decide +kernel
theorem dX3_amountAhead_14 : decode cX3_amountAhead 14 = .ok (.aload_n 0, 1) := by decide +kernel
theorem dX3_amountAhead_15 : decode cX3_amountAhead 15 = .ok (.getfield 30, 3) := by decide +kernel
theorem dX3_amountAhead_18 : decode cX3_amountAhead 18 = .ok (.if_icmp .ge 60, 3) := by decide +kernel
theorem dX3_amountAhead_21 : decode cX3_amountAhead 21 = .ok (.aload_n 0, 1) := by decide +kernel
theorem dX3_amountAhead_22 : decode cX3_amountAhead 22 = .ok (.iload 5, 2) := by decide +kernel
theorem dX3_amountAhead_24 : decode cX3_amountAhead 24 = .ok (.invokevirtual 64, 3) := by decide +kernel
theorem dX3_amountAhead_27 : decode cX3_amountAhead 27 = .ok (.iload_n 3, 1) := by decide +kernel
theorem dX3_amountAhead_28 : decode cX3_amountAhead 28 = .ok (.if_icmp .lt 19, 3) := by decide +kernel
theorem dX3_amountAhead_31 : decode cX3_amountAhead 31 = .ok (.aload_n 0, 1) := by decide +kernel
theorem dX3_amountAhead_32 : decode cX3_amountAhead 32 = .ok (.iload 5, 2) := by decide +kernel
theorem dX3_amountAhead_34 : decode cX3_amountAhead 34 = .ok (.invokevirtual 64, 3) := by decide +kernel
theorem dX3_amountAhead_37 : decode cX3_amountAhead 37 = .ok (.iload_n 3, 1) := by decide +kernel
theorem dX3_amountAhead_38 : decode cX3_amountAhead 38 = .ok (.if_icmp .ne 13, 3) := by decide +kernel
theorem dX3_amountAhead_41 : decode cX3_amountAhead 41 = .ok (.iload 5, 2) := by decide +kernel
theorem dX3_amountAhead_43 : decode cX3_amountAhead 43 = .ok (.iload_n 1, 1) := by decide +kernel
theorem dX3_amountAhead_44 : decode cX3_amountAhead 44 = .ok (.if_icmp .ge 7, 3) := by decide +kernel
theorem dX3_amountAhead_47 : decode cX3_amountAhead 47 = .ok (.iconst 1, 1) := by decide +kernel
theorem dX3_amountAhead_48 : decode cX3_amountAhead 48 = .ok (.goto 4, 3) := by decide +kernel
theorem dX3_amountAhead_51 : decode cX3_amountAhead 51 = .ok (.iconst 0, 1) := by decide +kernel
theorem dX3_amountAhead_52 : decode cX3_amountAhead 52 = .ok (.istore 6, 2) := by decide +kernel
theorem dX3_amountAhead_54 : decode cX3_amountAhead 54 = .ok (.iload 6, 2) := by decide +kernel
theorem dX3_amountAhead_56 : decode cX3_amountAhead 56 = .ok (.ifCond .eq 16, 3) := by decide +kernel
theorem dX3_amountAhead_59 : decode cX3_amountAhead 59 = .ok (.aload_n 0, 1) := by decide +kernel
theorem dX3_amountAhead_60 : decode cX3_amountAhead 60 = .ok (.iload 5, 2) := by decide +kernel
theorem dX3_amountAhead_62 : decode cX3_amountAhead 62 = .ok (.invokevirtual 34, 3) := by decide +kernel
theorem dX3_amountAhead_65 : decode cX3_amountAhead 65 = .ok (.iload_n 2, 1) := by decide +kernel
theorem dX3_amountAhead_66 : decode cX3_amountAhead 66 = .ok (.if_icmp .ne 6, 3) := by decide +kernel
theorem dX3_amountAhead_69 : decode cX3_amountAhead 69 = .ok (.iinc 4 1, 3) := by decide +kernel
theorem dX3_amountAhead_72 : decode cX3_amountAhead 72 = .ok (.iinc 5 1, 3) := by decide +kernel
theorem dX3_amountAhead_75 : decode cX3_amountAhead 75 = .ok (.goto (-63), 3) := by decide +kernel
theorem dX3_amountAhead_78 : decode cX3_amountAhead 78 = .ok (.iload 4, 2) := by decide +kernel
theorem dX3_amountAhead_80 : decode cX3_amountAhead 80 = .ok (.ireturn, 1) := by decide +kernel
theorem dX4_init_0 : decode cX4_init 0 = .ok (.aload_n 0, 1) := by decide +kernel
theorem dX4_init_1 : decode cX4_init 1 = .ok (.invokespecial 3, 3) := by decide +kernel
theorem dX4_init_4 : decode cX4_init 4 = .ok (.aload_n 0, 1) := by decide +kernel
theorem dX4_init_5 : decode cX4_init 5 = .ok (.new 9, 3) := by decide +kernel
theorem dX4_init_8 : decode cX4_init 8 = .ok (.dup, 1) := by decide +kernel
theorem dX4_init_9 : decode cX4_init 9 = .ok (.bipush 12, 2) := by decide +kernel
theorem dX4_init_11 : decode cX4_init 11 = .ok (.invokespecial 11, 3) := by decide +kernel
theorem dX4_init_14 : decode cX4_init 14 = .ok (.putfield 14, 3) := by decide +kernel
theorem dX4_init_17 : decode cX4_init 17 = .ok (.aload_n 0, 1) := by decide +kernel
theorem dX4_init_18 : decode cX4_init 18 = .ok (.new 9, 3) := by decide +kernel
theorem dX4_init_21 : decode cX4_init 21 = .ok (.dup, 1) := by decide +kernel
theorem dX4_init_22 : decode cX4_init 22 = .ok (.bipush 12, 2) := by decide +kernel
theorem dX4_init_24 : decode cX4_init 24 = .ok (.invokespecial 11, 3) := by decide +kernel
theorem dX4_init_27 : decode cX4_init 27 = .ok (.putfield 20, 3) := by decide +kernel
theorem dX4_init_30 : decode cX4_init 30 = .ok (.aload_n 0, 1) := by decide +kernel
theorem dX4_init_31 : decode cX4_init 31 = .ok (.new 9, 3) := by decide +kernel
theorem dX4_init_34 : decode cX4_init 34 = .ok (.dup, 1) := by decide +kernel
theorem dX4_init_35 : decode cX4_init 35 = .ok (.bipush 12, 2) := by decide +kernel
theorem dX4_init_37 : decode cX4_init 37 = .ok (.invokespecial 11, 3) := by decide +kernel
theorem dX4_init_40 : decode cX4_init 40 = .ok (.putfield 23, 3) := by decide +kernel
theorem dX4_init_43 : decode cX4_init 43 = .ok (.return_, 1) := by decide +kernel
theorem dX4_copyFrom_0 : decode cX4_copyFrom 0 = .ok (.aload_n 0, 1) := by decide +kernel
theorem dX4_copyFrom_1 : decode cX4_copyFrom 1 = .ok (.getfield 14, 3) := by decide +kernel
theorem dX4_copyFrom_4 : decode cX4_copyFrom 4 = .ok (.aload_n 1, 1) := by decide +kernel
theorem dX4_copyFrom_5 : decode cX4_copyFrom 5 = .ok (.getfield 14, 3) := by decide +kernel
theorem dX4_copyFrom_8 : decode cX4_copyFrom 8 = .ok (.invokevirtual 26, 3) := by decide +kernel
theorem dX4_copyFrom_11 : decode cX4_copyFrom 11 = .ok (.aload_n 0, 1) := by decide +kernel
theorem dX4_copyFrom_12 : decode cX4_copyFrom 12 = .ok (.getfield 20, 3) := by decide +kernel
theorem dX4_copyFrom_15 : decode cX4_copyFrom 15 = .ok (.aload_n 1, 1) := by decide +kernel
theorem dX4_copyFrom_16 : decode cX4_copyFrom 16 = .ok (.getfield 20, 3) := by decide +kernel
theorem dX4_copyFrom_19 : decode cX4_copyFrom 19 = .ok (.invokevirtual 26, 3) := by decide +kernel
theorem dX4_copyFrom_22 : decode cX4_copyFrom 22 = .ok (.aload_n 0, 1) := by decide +kernel
theorem dX4_copyFrom_23 : decode cX4_copyFrom 23 = .ok (.getfield 23, 3) := by decide +kernel
theorem dX4_copyFrom_26 : decode cX4_copyFrom 26 = .ok (.aload_n 1, 1) := by decide +kernel
theorem dX4_copyFrom_27 : decode cX4_copyFrom 27 = .ok (.getfield 23, 3) := by decide +kernel
theorem dX4_copyFrom_30 : decode cX4_copyFrom 30 = .ok (.invokevirtual 26, 3) := by decide +kernel
theorem dX4_copyFrom_33 : decode cX4_copyFrom 33 = .ok (.aload_n 0, 1) := by decide +kernel
theorem dX4_copyFrom_34 : decode cX4_copyFrom 34 = .ok (.aload_n 1, 1) := by decide +kernel
theorem dX4_copyFrom_35 : decode cX4_copyFrom 35 = .ok (.getfield 30, 3) := by decide +kernel
theorem dX4_copyFrom_38 : decode cX4_copyFrom 38 = .ok (.putfield 30, 3) := by decide +kernel
theorem dX4_copyFrom_41 : decode cX4_copyFrom 41 = .ok (.aload_n 0, 1) := by decide +kernel
theorem dX4_copyFrom_42 : decode cX4_copyFrom 42 = .ok (.aload_n 1, 1) := by decide +kernel
theorem dX4_copyFrom_43 : decode cX4_copyFrom 43 = .ok (.getfield 34, 3) := by decide +kernel
theorem dX4_copyFrom_46 : decode cX4_copyFrom 46 = .ok (.putfield 34, 3) := by decide +kernel
theorem dX4_copyFrom_49 : decode cX4_copyFrom 49 = .ok (.return_, 1) := by decide +kernel
theorem dX4_isFull_0 : decode cX4_isFull 0 = .ok (.aload_n 0, 1) := by decide +kernel
theorem dX4_isFull_1 : decode cX4_isFull 1 = .ok (.getfield 30, 3) := by decide +kernel
theorem dX4_isFull_4 : decode cX4_isFull 4 = .ok (.bipush 12, 2) := by decide +kernel
theorem dX4_isFull_6 : decode cX4_isFull 6 = .ok (.if_icmp .ge 12, 3) := by decide +kernel
theorem dX4_isFull_9 : decode cX4_isFull 9 = .ok (.aload_n 0, 1) := by decide +kernel
theorem dX4_isFull_10 : decode cX4_isFull 10 = .ok (.getfield 34, 3) := by decide +kernel
theorem dX4_isFull_13 : decode cX4_isFull 13 = .ok (.bipush 60, 2) := by decide +kernel
theorem dX4_isFull_15 : decode cX4_isFull 15 = .ok (.if_icmp .lt 7, 3) := by decide +kernel
theorem dX4_isFull_18 : decode cX4_isFull 18 = .ok (.iconst 1, 1) := by decide +kernel
theorem dX4_isFull_19 : decode cX4_isFull 19 = .ok (.goto 4, 3) := by decide +kernel
theorem dX4_isFull_22 : decode cX4_isFull 22 = .ok (.iconst 0, 1) := by decide +kernel
theorem dX4_isFull_23 : decode cX4_isFull 23 = .ok (.ireturn, 1) := by decide +kernel
theorem dX4_has_0 : decode cX4_has 0 = .ok (.aload_n 0, 1) := by decide +kernel
theorem dX4_has_1 : decode cX4_has 1 = .ok (.iload_n 1, 1) := by decide +kernel
theorem dX4_has_2 : decode cX4_has 2 = .ok (.invokevirtual 37, 3) := by decide +kernel
theorem dX4_has_5 : decode cX4_has 5 = .ok (.sipush (-1005), 3) := by decide +kernel
theorem dX4_has_8 : decode cX4_has 8 = .ok (.if_icmp .eq 7, 3) := by decide +kernel
theorem dX4_has_11 : decode cX4_has 11 = .ok (.iconst 1, 1) := by decide +kernel
theorem dX4_has_12 : decode cX4_has 12 = .ok (.goto 4, 3) := by decide +kernel
theorem dX4_has_15 : decode cX4_has 15 = .ok (.iconst 0, 1) := by decide +kernel
theorem dX4_has_16 : decode cX4_has 16 = .ok (.ireturn, 1) := by decide +kernel
theorem dX4_positionOf_0 : decode cX4_positionOf 0 = .ok (.iconst 0, 1) := by decide +kernel
theorem dX4_positionOf_1 : decode cX4_positionOf 1 = .ok (.istore_n 2, 1) := by decide +kernel
theorem dX4_positionOf_2 : decode cX4_positionOf 2 = .ok (.iload_n 2, 1) := by decide +kernel
theorem dX4_positionOf_3 : decode cX4_positionOf 3 = .ok (.aload_n 0, 1) := by decide +kernel
theorem dX4_positionOf_4 : decode cX4_positionOf 4 = .ok (.getfield 30, 3) := by decide +kernel
theorem dX4_positionOf_7 : decode cX4_positionOf 7 = .ok (.if_icmp .ge 20, 3) := by decide +kernel
theorem dX4_positionOf_10 : decode cX4_positionOf 10 = .ok (.aload_n 0, 1) := by decide +kernel
theorem dX4_positionOf_11 : decode cX4_positionOf 11 = .ok (.iload_n 2, 1) := by decide +kernel
theorem dX4_positionOf_12 : decode cX4_positionOf 12 = .ok (.invokevirtual 41, 3) := by decide +kernel
theorem dX4_positionOf_15 : decode cX4_positionOf 15 = .ok (.iload_n 1, 1) := by decide +kernel
theorem dX4_positionOf_16 : decode cX4_positionOf 16 = .ok (.if_icmp .ne 5, 3) := by decide +kernel
theorem dX4_positionOf_19 : decode cX4_positionOf 19 = .ok (.iload_n 2, 1) := by decide +kernel
theorem dX4_positionOf_20 : decode cX4_positionOf 20 = .ok (.ireturn, 1) := by decide +kernel
theorem dX4_positionOf_21 : decode cX4_positionOf 21 = .ok (.iinc 2 1, 3) := by decide +kernel
theorem dX4_positionOf_24 : decode cX4_positionOf 24 = .ok (.goto (-22), 3) := by decide +kernel
theorem dX4_positionOf_27 : decode cX4_positionOf 27 = .ok (.sipush (-1005), 3) := by decide +kernel
theorem dX4_positionOf_30 : decode cX4_positionOf 30 = .ok (.ireturn, 1) := by decide +kernel
theorem dX4_numberAt_0 : decode cX4_numberAt 0 = .ok (.aload_n 0, 1) := by decide +kernel
theorem dX4_numberAt_1 : decode cX4_numberAt 1 = .ok (.getfield 14, 3) := by decide +kernel
theorem dX4_numberAt_4 : decode cX4_numberAt 4 = .ok (.iload_n 1, 1) := by decide +kernel
theorem dX4_numberAt_5 : decode cX4_numberAt 5 = .ok (.invokevirtual 44, 3) := by decide +kernel
theorem dX4_numberAt_8 : decode cX4_numberAt 8 = .ok (.ireturn, 1) := by decide +kernel
theorem dX4_lowAt_0 : decode cX4_lowAt 0 = .ok (.aload_n 0, 1) := by decide +kernel
theorem dX4_lowAt_1 : decode cX4_lowAt 1 = .ok (.getfield 20, 3) := by decide +kernel
theorem dX4_lowAt_4 : decode cX4_lowAt 4 = .ok (.iload_n 1, 1) := by decide +kernel
theorem dX4_lowAt_5 : decode cX4_lowAt 5 = .ok (.invokevirtual 44, 3) := by decide +kernel
theorem dX4_lowAt_8 : decode cX4_lowAt 8 = .ok (.ireturn, 1) := by decide +kernel
theorem dX4_highAt_0 : decode cX4_highAt 0 = .ok (.aload_n 0, 1) := by decide +kernel
theorem dX4_highAt_1 : decode cX4_highAt 1 = .ok (.getfield 23, 3) := by decide +kernel
theorem dX4_highAt_4 : decode cX4_highAt 4 = .ok (.iload_n 1, 1) := by decide +kernel
theorem dX4_highAt_5 : decode cX4_highAt 5 = .ok (.invokevirtual 44, 3) := by decide +kernel
theorem dX4_highAt_8 : decode cX4_highAt 8 = .ok (.ireturn, 1) := by decide +kernel
theorem dX4_having_0 : decode cX4_having 0 = .ok (.iconst 0, 1) := by decide +kernel
theorem dX4_having_1 : decode cX4_having 1 = .ok (.istore_n 2, 1) := by decide +kernel
theorem dX4_having_2 : decode cX4_having 2 = .ok (.iload_n 2, 1) := by decide +kernel
theorem dX4_having_3 : decode cX4_having 3 = .ok (.aload_n 0, 1) := by decide +kernel
theorem dX4_having_4 : decode cX4_having 4 = .ok (.getfield 30, 3) := by decide +kernel
theorem dX4_having_7 : decode cX4_having 7 = .ok (.if_icmp .ge 33, 3) := by decide +kernel
theorem dX4_having_10 : decode cX4_having 10 = .ok (.iload_n 1, 1) := by decide +kernel
theorem dX4_having_11 : decode cX4_having 11 = .ok (.aload_n 0, 1) := by decide +kernel
theorem dX4_having_12 : decode cX4_having 12 = .ok (.iload_n 2, 1) := by decide +kernel
theorem dX4_having_13 : decode cX4_having 13 = .ok (.invokevirtual 47, 3) := by decide +kernel
theorem dX4_having_16 : decode cX4_having 16 = .ok (.if_icmp .lt 18, 3) := by decide +kernel
theorem dX4_having_19 : decode cX4_having 19 = .ok (.iload_n 1, 1) := by decide +kernel
theorem dX4_having_20 : decode cX4_having 20 = .ok (.aload_n 0, 1) := by decide +kernel
theorem dX4_having_21 : decode cX4_having 21 = .ok (.iload_n 2, 1) := by decide +kernel
theorem dX4_having_22 : decode cX4_having 22 = .ok (.invokevirtual 50, 3) := by decide +kernel
theorem dX4_having_25 : decode cX4_having 25 = .ok (.if_icmp .ge 9, 3) := by decide +kernel
theorem dX4_having_28 : decode cX4_having 28 = .ok (.aload_n 0, 1) := by decide +kernel
theorem dX4_having_29 : decode cX4_having 29 = .ok (.iload_n 2, 1) := by decide +kernel
theorem dX4_having_30 : decode cX4_having 30 = .ok (.invokevirtual 41, 3) := by decide +kernel
theorem dX4_having_33 : decode cX4_having 33 = .ok (.ireturn, 1) := by decide +kernel
theorem dX4_having_34 : decode cX4_having 34 = .ok (.iinc 2 1, 3) := by decide +kernel
theorem dX4_having_37 : decode cX4_having 37 = .ok (.goto (-35), 3) := by decide +kernel
theorem dX4_having_40 : decode cX4_having 40 = .ok (.sipush (-1005), 3) := by decide +kernel
theorem dX4_having_43 : decode cX4_having 43 = .ok (.ireturn, 1) := by decide +kernel
theorem dX4_overlap_0 : decode cX4_overlap 0 = .ok (.iconst 0, 1) := by decide +kernel
theorem dX4_overlap_1 : decode cX4_overlap 1 = .ok (.istore_n 3, 1) := by decide +kernel
theorem dX4_overlap_2 : decode cX4_overlap 2 = .ok (.iload_n 3, 1) := by decide +kernel
theorem dX4_overlap_3 : decode cX4_overlap 3 = .ok (.aload_n 0, 1) := by decide +kernel
theorem dX4_overlap_4 : decode cX4_overlap 4 = .ok (.getfield 30, 3) := by decide +kernel
theorem dX4_overlap_7 : decode cX4_overlap 7 = .ok (.if_icmp .ge 29, 3) := by decide +kernel
theorem dX4_overlap_10 : decode cX4_overlap 10 = .ok (.iload_n 1, 1) := by decide +kernel
theorem dX4_overlap_11 : decode cX4_overlap 11 = .ok (.aload_n 0, 1) := by decide +kernel
theorem dX4_overlap_12 : decode cX4_overlap 12 = .ok (.iload_n 3, 1) := by decide +kernel
theorem dX4_overlap_13 : decode cX4_overlap 13 = .ok (.invokevirtual 50, 3) := by decide +kernel
theorem dX4_overlap_16 : decode cX4_overlap 16 = .ok (.if_icmp .ge 14, 3) := by decide +kernel
theorem dX4_overlap_19 : decode cX4_overlap 19 = .ok (.aload_n 0, 1) := by decide +kernel
theorem dX4_overlap_20 : decode cX4_overlap 20 = .ok (.iload_n 3, 1) := by decide +kernel
theorem dX4_overlap_21 : decode cX4_overlap 21 = .ok (.invokevirtual 47, 3) := by decide +kernel
theorem dX4_overlap_24 : decode cX4_overlap 24 = .ok (.iload_n 2, 1) := by decide +kernel
theorem dX4_overlap_25 : decode cX4_overlap 25 = .ok (.if_icmp .ge 5, 3) := by decide +kernel
theorem dX4_overlap_28 : decode cX4_overlap 28 = .ok (.iconst 1, 1) := by decide +kernel
theorem dX4_overlap_29 : decode cX4_overlap 29 = .ok (.ireturn, 1) := by decide +kernel
theorem dX4_overlap_30 : decode cX4_overlap 30 = .ok (.iinc 3 1, 3) := by decide +kernel
theorem dX4_overlap_33 : decode cX4_overlap 33 = .ok (.goto (-31), 3) := by decide +kernel
theorem dX4_overlap_36 : decode cX4_overlap 36 = .ok (.iconst 0, 1) := by decide +kernel
theorem dX4_overlap_37 : decode cX4_overlap 37 = .ok (.ireturn, 1) := by decide +kernel
theorem dX4_areBeside_0 : decode cX4_areBeside 0 = .ok (.aload_n 0, 1) := by decide +kernel
theorem dX4_areBeside_1 : decode cX4_areBeside 1 = .ok (.iload_n 1, 1) := by decide +kernel
theorem dX4_areBeside_2 : decode cX4_areBeside 2 = .ok (.invokevirtual 50, 3) := by decide +kernel
theorem dX4_areBeside_5 : decode cX4_areBeside 5 = .ok (.aload_n 0, 1) := by decide +kernel
theorem dX4_areBeside_6 : decode cX4_areBeside 6 = .ok (.iload_n 2, 1) := by decide +kernel
theorem dX4_areBeside_7 : decode cX4_areBeside 7 = .ok (.invokevirtual 47, 3) := by decide +kernel
theorem dX4_areBeside_10 : decode cX4_areBeside 10 = .ok (.if_icmp .eq 16, 3) := by decide +kernel
theorem dX4_areBeside_13 : decode cX4_areBeside 13 = .ok (.aload_n 0, 1) := by decide +kernel
theorem dX4_areBeside_14 : decode cX4_areBeside 14 = .ok (.iload_n 2, 1) := by decide +kernel
theorem dX4_areBeside_15 : decode cX4_areBeside 15 = .ok (.invokevirtual 50, 3) := by decide +kernel
theorem dX4_areBeside_18 : decode cX4_areBeside 18 = .ok (.aload_n 0, 1) := by decide +kernel
theorem dX4_areBeside_19 : decode cX4_areBeside 19 = .ok (.iload_n 1, 1) := by decide +kernel
theorem dX4_areBeside_20 : decode cX4_areBeside 20 = .ok (.invokevirtual 47, 3) := by decide +kernel
theorem dX4_areBeside_23 : decode cX4_areBeside 23 = .ok (.if_icmp .ne 7, 3) := by decide +kernel
theorem dX4_areBeside_26 : decode cX4_areBeside 26 = .ok (.iconst 1, 1) := by decide +kernel
theorem dX4_areBeside_27 : decode cX4_areBeside 27 = .ok (.goto 4, 3) := by decide +kernel
theorem dX4_areBeside_30 : decode cX4_areBeside 30 = .ok (.iconst 0, 1) := by decide +kernel
theorem dX4_areBeside_31 : decode cX4_areBeside 31 = .ok (.ireturn, 1) := by decide +kernel
theorem dX4_append_0 : decode cX4_append 0 = .ok (.aload_n 0, 1) := by decide +kernel
theorem dX4_append_1 : decode cX4_append 1 = .ok (.getfield 30, 3) := by decide +kernel
theorem dX4_append_4 : decode cX4_append 4 = .ok (.istore_n 3, 1) := by decide +kernel
theorem dX4_append_5 : decode cX4_append 5 = .ok (.iload_n 3, 1) := by decide +kernel
theorem dX4_append_6 : decode cX4_append 6 = .ok (.ifCond .le 28, 3) := by decide +kernel
theorem dX4_append_9 : decode cX4_append 9 = .ok (.aload_n 0, 1) := by decide +kernel
theorem dX4_append_10 : decode cX4_append 10 = .ok (.iload_n 3, 1) := by decide +kernel
theorem dX4_append_11 : decode cX4_append 11 = .ok (.iconst 1, 1) := by decide +kernel
theorem dX4_append_12 : decode cX4_append 12 = .ok (.isub, 1) := by decide +kernel
theorem dX4_append_13 : decode cX4_append 13 = .ok (.invokevirtual 47, 3) := by decide +kernel
theorem dX4_append_16 : decode cX4_append 16 = .ok (.iload_n 1, 1) := by decide +kernel
theorem dX4_append_17 : decode cX4_append 17 = .ok (.if_icmp .le 17, 3) := by decide +kernel
theorem dX4_append_20 : decode cX4_append 20 = .ok (.aload_n 0, 1) := by decide +kernel
theorem dX4_append_21 : decode cX4_append 21 = .ok (.iload_n 3, 1) := by decide +kernel
theorem dX4_append_22 : decode cX4_append 22 = .ok (.iconst 1, 1) := by decide +kernel
theorem dX4_append_23 : decode cX4_append 23 = .ok (.isub, 1) := by decide +kernel
theorem dX4_append_24 : decode cX4_append 24 = .ok (.iload_n 3, 1) := by decide +kernel
theorem dX4_append_25 : decode cX4_append 25 = .ok (.invokevirtual 53, 3) := by decide +kernel
theorem dX4_append_28 : decode cX4_append 28 = .ok (.iinc 3 (-1), 3) := by decide +kernel
theorem dX4_append_31 : decode cX4_append 31 = .ok (.goto (-26), 3) := by decide +kernel
theorem dX4_append_34 : decode cX4_append 34 = .ok (.aload_n 0, 1) := by decide +kernel
theorem dX4_append_35 : decode cX4_append 35 = .ok (.getfield 14, 3) := by decide +kernel
theorem dX4_append_38 : decode cX4_append 38 = .ok (.iload_n 3, 1) := by decide +kernel
theorem dX4_append_39 : decode cX4_append 39 = .ok (.aload_n 0, 1) := by decide +kernel
theorem dX4_append_40 : decode cX4_append 40 = .ok (.getfield 34, 3) := by decide +kernel
theorem dX4_append_43 : decode cX4_append 43 = .ok (.invokevirtual 57, 3) := by decide +kernel
theorem dX4_append_46 : decode cX4_append 46 = .ok (.aload_n 0, 1) := by decide +kernel
theorem dX4_append_47 : decode cX4_append 47 = .ok (.iload_n 3, 1) := by decide +kernel
theorem dX4_append_48 : decode cX4_append 48 = .ok (.iload_n 1, 1) := by decide +kernel
theorem dX4_append_49 : decode cX4_append 49 = .ok (.iload_n 2, 1) := by decide +kernel
theorem dX4_append_50 : decode cX4_append 50 = .ok (.invokevirtual 60, 3) := by decide +kernel
theorem dX4_append_53 : decode cX4_append 53 = .ok (.aload_n 0, 1) := by decide +kernel
theorem dX4_append_54 : decode cX4_append 54 = .ok (.dup, 1) := by decide +kernel
theorem dX4_append_55 : decode cX4_append 55 = .ok (.getfield 30, 3) := by decide +kernel
theorem dX4_append_58 : decode cX4_append 58 = .ok (.iconst 1, 1) := by decide +kernel
theorem dX4_append_59 : decode cX4_append 59 = .ok (.iadd, 1) := by decide +kernel
theorem dX4_append_60 : decode cX4_append 60 = .ok (.putfield 30, 3) := by decide +kernel
theorem dX4_append_63 : decode cX4_append 63 = .ok (.aload_n 0, 1) := by decide +kernel
theorem dX4_append_64 : decode cX4_append 64 = .ok (.dup, 1) := by decide +kernel
theorem dX4_append_65 : decode cX4_append 65 = .ok (.getfield 34, 3) := by decide +kernel
theorem dX4_append_68 : decode cX4_append 68 = .ok (.iconst 1, 1) := by decide +kernel
theorem dX4_append_69 : decode cX4_append 69 = .ok (.iadd, 1) := by decide +kernel
theorem dX4_append_70 : decode cX4_append 70 = .ok (.putfield 34, 3) := by decide +kernel
theorem dX4_append_73 : decode cX4_append 73 = .ok (.aload_n 0, 1) := by decide +kernel
theorem dX4_append_74 : decode cX4_append 74 = .ok (.getfield 34, 3) := by decide +kernel
theorem dX4_append_77 : decode cX4_append 77 = .ok (.iconst 1, 1) := by decide +kernel
theorem dX4_append_78 : decode cX4_append 78 = .ok (.isub, 1) := by decide +kernel
theorem dX4_append_79 : decode cX4_append 79 = .ok (.ireturn, 1) := by decide +kernel
theorem dX4_remove_0 : decode cX4_remove 0 = .ok (.aload_n 0, 1) := by decide +kernel
theorem dX4_remove_1 : decode cX4_remove 1 = .ok (.iload_n 1, 1) := by decide +kernel
theorem dX4_remove_2 : decode cX4_remove 2 = .ok (.invokevirtual 37, 3) := by decide +kernel
theorem dX4_remove_5 : decode cX4_remove 5 = .ok (.istore_n 2, 1) := by decide +kernel
theorem dX4_remove_6 : decode cX4_remove 6 = .ok (.iload_n 2, 1) := by decide +kernel
theorem dX4_remove_7 : decode cX4_remove 7 = .ok (.sipush (-1005), 3) := by decide +kernel
theorem dX4_remove_10 : decode cX4_remove 10 = .ok (.if_icmp .ne 4, 3) := by decide +kernel
theorem dX4_remove_13 : decode cX4_remove 13 = .ok (.return_, 1) := by decide +kernel
theorem dX4_remove_14 : decode cX4_remove 14 = .ok (.iload_n 2, 1) := by decide +kernel
theorem dX4_remove_15 : decode cX4_remove 15 = .ok (.iconst 1, 1) := by decide +kernel
theorem dX4_remove_16 : decode cX4_remove 16 = .ok (.iadd, 1) := by decide +kernel
theorem dX4_remove_17 : decode cX4_remove 17 = .ok (.istore_n 3, 1) := by decide +kernel
theorem dX4_remove_18 : decode cX4_remove 18 = .ok (.iload_n 3, 1) := by decide +kernel
theorem dX4_remove_19 : decode cX4_remove 19 = .ok (.aload_n 0, 1) := by decide +kernel
theorem dX4_remove_20 : decode cX4_remove 20 = .ok (.getfield 30, 3) := by decide +kernel
theorem dX4_remove_23 : decode cX4_remove 23 = .ok (.if_icmp .ge 17, 3) := by decide +kernel
theorem dX4_remove_26 : decode cX4_remove 26 = .ok (.aload_n 0, 1) := by decide +kernel
theorem dX4_remove_27 : decode cX4_remove 27 = .ok (.iload_n 3, 1) := by decide +kernel
theorem dX4_remove_28 : decode cX4_remove 28 = .ok (.iload_n 3, 1) := by decide +kernel
theorem dX4_remove_29 : decode cX4_remove 29 = .ok (.iconst 1, 1) := by decide +kernel
theorem dX4_remove_30 : decode cX4_remove 30 = .ok (.isub, 1) := by decide +kernel
theorem dX4_remove_31 : decode cX4_remove 31 = .ok (.invokevirtual 53, 3) := by decide +kernel
theorem dX4_remove_34 : decode cX4_remove 34 = .ok (.iinc 3 1, 3) := by decide +kernel
theorem dX4_remove_37 : decode cX4_remove 37 = .ok (.goto (-19), 3) := by decide +kernel
theorem dX4_remove_40 : decode cX4_remove 40 = .ok (.aload_n 0, 1) := by decide +kernel
theorem dX4_remove_41 : decode cX4_remove 41 = .ok (.dup, 1) := by decide +kernel
theorem dX4_remove_42 : decode cX4_remove 42 = .ok (.getfield 30, 3) := by decide +kernel
theorem dX4_remove_45 : decode cX4_remove 45 = .ok (.iconst 1, 1) := by decide +kernel
theorem dX4_remove_46 : decode cX4_remove 46 = .ok (.isub, 1) := by decide +kernel
theorem dX4_remove_47 : decode cX4_remove 47 = .ok (.putfield 30, 3) := by decide +kernel
theorem dX4_remove_50 : decode cX4_remove 50 = .ok (.return_, 1) := by decide +kernel
theorem dX4_copyEntry_0 : decode cX4_copyEntry 0 = .ok (.aload_n 0, 1) := by decide +kernel
theorem dX4_copyEntry_1 : decode cX4_copyEntry 1 = .ok (.getfield 14, 3) := by decide +kernel
theorem dX4_copyEntry_4 : decode cX4_copyEntry 4 = .ok (.iload_n 2, 1) := by decide +kernel
theorem dX4_copyEntry_5 : decode cX4_copyEntry 5 = .ok (.aload_n 0, 1) := by decide +kernel
theorem dX4_copyEntry_6 : decode cX4_copyEntry 6 = .ok (.iload_n 1, 1) := by decide +kernel
theorem dX4_copyEntry_7 : decode cX4_copyEntry 7 = .ok (.invokevirtual 41, 3) := by decide +kernel
theorem dX4_copyEntry_10 : decode cX4_copyEntry 10 = .ok (.invokevirtual 57, 3) := by decide +kernel
theorem dX4_copyEntry_13 : decode cX4_copyEntry 13 = .ok (.aload_n 0, 1) := by decide +kernel
theorem dX4_copyEntry_14 : decode cX4_copyEntry 14 = .ok (.iload_n 2, 1) := by decide +kernel
theorem dX4_copyEntry_15 : decode cX4_copyEntry 15 = .ok (.aload_n 0, 1) := by decide +kernel
theorem dX4_copyEntry_16 : decode cX4_copyEntry 16 = .ok (.iload_n 1, 1) := by decide +kernel
theorem dX4_copyEntry_17 : decode cX4_copyEntry 17 = .ok (.invokevirtual 47, 3) := by decide +kernel
theorem dX4_copyEntry_20 : decode cX4_copyEntry 20 = .ok (.aload_n 0, 1) := by decide +kernel
theorem dX4_copyEntry_21 : decode cX4_copyEntry 21 = .ok (.iload_n 1, 1) := by decide +kernel
theorem dX4_copyEntry_22 : decode cX4_copyEntry 22 = .ok (.invokevirtual 50, 3) := by decide +kernel
theorem dX4_copyEntry_25 : decode cX4_copyEntry 25 = .ok (.invokevirtual 60, 3) := by decide +kernel
theorem dX4_copyEntry_28 : decode cX4_copyEntry 28 = .ok (.return_, 1) := by decide +kernel
theorem dX4_changeBounds_0 : decode cX4_changeBounds 0 = .ok (.aload_n 0, 1) := by decide +kernel
theorem dX4_changeBounds_1 : decode cX4_changeBounds 1 = .ok (.getfield 20, 3) := by decide +kernel
theorem dX4_changeBounds_4 : decode cX4_changeBounds 4 = .ok (.iload_n 1, 1) := by decide +kernel
theorem dX4_changeBounds_5 : decode cX4_changeBounds 5 = .ok (.iload_n 2, 1) := by decide +kernel
theorem dX4_changeBounds_6 : decode cX4_changeBounds 6 = .ok (.invokevirtual 57, 3) := by decide +kernel
theorem dX4_changeBounds_9 : decode cX4_changeBounds 9 = .ok (.aload_n 0, 1) := by decide +kernel
theorem dX4_changeBounds_10 : decode cX4_changeBounds 10 = .ok (.getfield 23, 3) := by decide +kernel
theorem dX4_changeBounds_13 : decode cX4_changeBounds 13 = .ok (.iload_n 1, 1) := by decide +kernel
theorem dX4_changeBounds_14 : decode cX4_changeBounds 14 = .ok (.iload_n 3, 1) := by decide +kernel
theorem dX4_changeBounds_15 : decode cX4_changeBounds 15 = .ok (.invokevirtual 57, 3) := by decide +kernel
theorem dX4_changeBounds_18 : decode cX4_changeBounds 18 = .ok (.return_, 1) := by decide +kernel
theorem dX4_unite_0 : decode cX4_unite 0 = .ok (.aload_n 0, 1) := by decide +kernel
theorem dX4_unite_1 : decode cX4_unite 1 = .ok (.iload_n 1, 1) := by decide +kernel
theorem dX4_unite_2 : decode cX4_unite 2 = .ok (.invokevirtual 47, 3) := by decide +kernel
theorem dX4_unite_5 : decode cX4_unite 5 = .ok (.aload_n 0, 1) := by decide +kernel
theorem dX4_unite_6 : decode cX4_unite 6 = .ok (.iload_n 2, 1) := by decide +kernel
theorem dX4_unite_7 : decode cX4_unite 7 = .ok (.invokevirtual 47, 3) := by decide +kernel
theorem dX4_unite_10 : decode cX4_unite 10 = .ok (.invokestatic 64, 3) := by decide +kernel
theorem dX4_unite_13 : decode cX4_unite 13 = .ok (.istore_n 3, 1) := by decide +kernel
theorem dX4_unite_14 : decode cX4_unite 14 = .ok (.aload_n 0, 1) := by decide +kernel
theorem dX4_unite_15 : decode cX4_unite 15 = .ok (.iload_n 1, 1) := by decide +kernel
theorem dX4_unite_16 : decode cX4_unite 16 = .ok (.invokevirtual 50, 3) := by decide +kernel
theorem dX4_unite_19 : decode cX4_unite 19 = .ok (.aload_n 0, 1) := by decide +kernel
theorem dX4_unite_20 : decode cX4_unite 20 = .ok (.iload_n 2, 1) := by decide +kernel
theorem dX4_unite_21 : decode cX4_unite 21 = .ok (.invokevirtual 50, 3) := by decide +kernel
theorem dX4_unite_24 : decode cX4_unite 24 = .ok (.invokestatic 70, 3) := by decide +kernel
theorem dX4_unite_27 : decode cX4_unite 27 = .ok (.istore 4, 2) := by decide +kernel
theorem dX4_unite_29 : decode cX4_unite 29 = .ok (.aload_n 0, 1) := by decide +kernel
theorem dX4_unite_30 : decode cX4_unite 30 = .ok (.iload_n 2, 1) := by decide +kernel
theorem dX4_unite_31 : decode cX4_unite 31 = .ok (.iload_n 3, 1) := by decide +kernel
theorem dX4_unite_32 : decode cX4_unite 32 = .ok (.iload 4, 2) := by decide +kernel
theorem dX4_unite_34 : decode cX4_unite 34 = .ok (.invokevirtual 60, 3) := by decide +kernel
theorem dX4_unite_37 : decode cX4_unite 37 = .ok (.aload_n 0, 1) := by decide +kernel
theorem dX4_unite_38 : decode cX4_unite 38 = .ok (.aload_n 0, 1) := by decide +kernel
theorem dX4_unite_39 : decode cX4_unite 39 = .ok (.iload_n 1, 1) := by decide +kernel
theorem dX4_unite_40 : decode cX4_unite 40 = .ok (.invokevirtual 41, 3) := by decide +kernel
theorem dX4_unite_43 : decode cX4_unite 43 = .ok (.invokevirtual 73, 3) := by decide +kernel
theorem dX4_unite_46 : decode cX4_unite 46 = .ok (.return_, 1) := by decide +kernel
theorem dX4_gapLow_0 : decode cX4_gapLow 0 = .ok (.iload_n 1, 1) := by decide +kernel
theorem dX4_gapLow_1 : decode cX4_gapLow 1 = .ok (.ifCond .ne 7, 3) := by decide +kernel
theorem dX4_gapLow_4 : decode cX4_gapLow 4 = .ok (.iconst 0, 1) := by decide +kernel
theorem dX4_gapLow_5 : decode cX4_gapLow 5 = .ok (.goto 10, 3) := by decide +kernel
theorem dX4_gapLow_8 : decode cX4_gapLow 8 = .ok (.aload_n 0, 1) := by decide +kernel
theorem dX4_gapLow_9 : decode cX4_gapLow 9 = .ok (.iload_n 1, 1) := by decide +kernel
theorem dX4_gapLow_10 : decode cX4_gapLow 10 = .ok (.iconst 1, 1) := by decide +kernel
theorem dX4_gapLow_11 : decode cX4_gapLow 11 = .ok (.isub, 1) := by decide +kernel
theorem dX4_gapLow_12 : decode cX4_gapLow 12 = .ok (.invokevirtual 50, 3) := by decide +kernel
theorem dX4_gapLow_15 : decode cX4_gapLow 15 = .ok (.ireturn, 1) := by decide +kernel
theorem dX4_gapHigh_0 : decode cX4_gapHigh 0 = .ok (.iload_n 1, 1) := by decide +kernel
theorem dX4_gapHigh_1 : decode cX4_gapHigh 1 = .ok (.aload_n 0, 1) := by decide +kernel
theorem dX4_gapHigh_2 : decode cX4_gapHigh 2 = .ok (.getfield 30, 3) := by decide +kernel
theorem dX4_gapHigh_5 : decode cX4_gapHigh 5 = .ok (.if_icmp .ne 9, 3) := by decide +kernel
theorem dX4_gapHigh_8 : decode cX4_gapHigh 8 = .ok (.sipush 1000, 3) := by decide +kernel
theorem dX4_gapHigh_11 : decode cX4_gapHigh 11 = .ok (.goto 8, 3) := by decide +kernel
theorem dX4_gapHigh_14 : decode cX4_gapHigh 14 = .ok (.aload_n 0, 1) := by decide +kernel
theorem dX4_gapHigh_15 : decode cX4_gapHigh 15 = .ok (.iload_n 1, 1) := by decide +kernel
theorem dX4_gapHigh_16 : decode cX4_gapHigh 16 = .ok (.invokevirtual 47, 3) := by decide +kernel
theorem dX4_gapHigh_19 : decode cX4_gapHigh 19 = .ok (.ireturn, 1) := by decide +kernel
theorem dX4_gapRanked_0 : decode cX4_gapRanked 0 = .ok (.iconst 0, 1) := by decide +kernel
theorem dX4_gapRanked_1 : decode cX4_gapRanked 1 = .ok (.istore_n 2, 1) := by decide +kernel
theorem dX4_gapRanked_2 : decode cX4_gapRanked 2 = .ok (.iconst 0, 1) := by decide +kernel
theorem dX4_gapRanked_3 : decode cX4_gapRanked 3 = .ok (.istore_n 3, 1) := by decide +kernel
theorem dX4_gapRanked_4 : decode cX4_gapRanked 4 = .ok (.iload_n 3, 1) := by decide +kernel
theorem dX4_gapRanked_5 : decode cX4_gapRanked 5 = .ok (.aload_n 0, 1) := by decide +kernel
theorem dX4_gapRanked_6 : decode cX4_gapRanked 6 = .ok (.getfield 30, 3) := by decide +kernel
theorem dX4_gapRanked_9 : decode cX4_gapRanked 9 = .ok (.if_icmp .gt 32, 3) := by decide +kernel
theorem dX4_gapRanked_12 : decode cX4_gapRanked 12 = .ok (.aload_n 0, 1) := by decide +kernel
theorem dX4_gapRanked_13 : decode cX4_gapRanked 13 = .ok (.iload_n 3, 1) := by decide +kernel
theorem dX4_gapRanked_14 : decode cX4_gapRanked 14 = .ok (.invokevirtual 76, 3) := by decide +kernel
theorem dX4_gapRanked_17 : decode cX4_gapRanked 17 = .ok (.aload_n 0, 1) := by decide +kernel
theorem dX4_gapRanked_18 : decode cX4_gapRanked 18 = .ok (.iload_n 3, 1) := by decide +kernel
theorem dX4_gapRanked_19 : decode cX4_gapRanked 19 = .ok (.invokevirtual 79, 3) := by decide +kernel
theorem dX4_gapRanked_22 : decode cX4_gapRanked 22 = .ok (.if_icmp .ge 13, 3) := by decide +kernel
theorem dX4_gapRanked_25 : decode cX4_gapRanked 25 = .ok (.iload_n 2, 1) := by decide +kernel
theorem dX4_gapRanked_26 : decode cX4_gapRanked 26 = .ok (.iload_n 1, 1) := by decide +kernel
theorem dX4_gapRanked_27 : decode cX4_gapRanked 27 = .ok (.if_icmp .ne 5, 3) := by decide +kernel
theorem dX4_gapRanked_30 : decode cX4_gapRanked 30 = .ok (.iload_n 3, 1) := by decide +kernel
theorem dX4_gapRanked_31 : decode cX4_gapRanked 31 = .ok (.ireturn, 1) := by decide +kernel
theorem dX4_gapRanked_32 : decode cX4_gapRanked 32 = .ok (.iinc 2 1, 3) := by decide +kernel
theorem dX4_gapRanked_35 : decode cX4_gapRanked 35 = .ok (.iinc 3 1, 3) := by decide +kernel
theorem dX4_gapRanked_38 : decode cX4_gapRanked 38 = .ok (.goto (-34), 3) := by decide +kernel
theorem dX4_gapRanked_41 : decode cX4_gapRanked 41 = .ok (.sipush (-1005), 3) := by decide +kernel
theorem dX4_gapRanked_44 : decode cX4_gapRanked 44 = .ok (.ireturn, 1) := by decide +kernel
theorem dX4_gaps_0 : decode cX4_gaps 0 = .ok (.iconst 0, 1) := by decide +kernel
theorem dX4_gaps_1 : decode cX4_gaps 1 = .ok (.istore_n 1, 1) := by decide +kernel
theorem dX4_gaps_2 : decode cX4_gaps 2 = .ok (.iconst 0, 1) := by decide +kernel
theorem dX4_gaps_3 : decode cX4_gaps 3 = .ok (.istore_n 2, 1) := by decide +kernel
theorem dX4_gaps_4 : decode cX4_gaps 4 = .ok (.iload_n 2, 1) := by decide +kernel
theorem dX4_gaps_5 : decode cX4_gaps 5 = .ok (.aload_n 0, 1) := by decide +kernel
theorem dX4_gaps_6 : decode cX4_gaps 6 = .ok (.getfield 30, 3) := by decide +kernel
theorem dX4_gaps_9 : decode cX4_gaps 9 = .ok (.if_icmp .gt 25, 3) := by decide +kernel
theorem dX4_gaps_12 : decode cX4_gaps 12 = .ok (.aload_n 0, 1) := by decide +kernel
theorem dX4_gaps_13 : decode cX4_gaps 13 = .ok (.iload_n 2, 1) := by decide +kernel
theorem dX4_gaps_14 : decode cX4_gaps 14 = .ok (.invokevirtual 76, 3) := by decide +kernel
theorem dX4_gaps_17 : decode cX4_gaps 17 = .ok (.aload_n 0, 1) := by decide +kernel
theorem dX4_gaps_18 : decode cX4_gaps 18 = .ok (.iload_n 2, 1) := by decide +kernel
theorem dX4_gaps_19 : decode cX4_gaps 19 = .ok (.invokevirtual 79, 3) := by decide +kernel
theorem dX4_gaps_22 : decode cX4_gaps 22 = .ok (.if_icmp .ge 6, 3) := by decide +kernel
theorem dX4_gaps_25 : decode cX4_gaps 25 = .ok (.iinc 1 1, 3) := by decide +kernel
theorem dX4_gaps_28 : decode cX4_gaps 28 = .ok (.iinc 2 1, 3) := by decide +kernel
theorem dX4_gaps_31 : decode cX4_gaps 31 = .ok (.goto (-27), 3) := by decide +kernel
theorem dX4_gaps_34 : decode cX4_gaps 34 = .ok (.iload_n 1, 1) := by decide +kernel
theorem dX4_gaps_35 : decode cX4_gaps 35 = .ok (.ireturn, 1) := by decide +kernel
theorem dX4_freeKeys_0 : decode cX4_freeKeys 0 = .ok (.iconst 0, 1) := by decide +kernel
theorem dX4_freeKeys_1 : decode cX4_freeKeys 1 = .ok (.istore_n 1, 1) := by decide +kernel
theorem dX4_freeKeys_2 : decode cX4_freeKeys 2 = .ok (.iconst 0, 1) := by decide +kernel
theorem dX4_freeKeys_3 : decode cX4_freeKeys 3 = .ok (.istore_n 2, 1) := by decide +kernel
theorem dX4_freeKeys_4 : decode cX4_freeKeys 4 = .ok (.iload_n 2, 1) := by decide +kernel
theorem dX4_freeKeys_5 : decode cX4_freeKeys 5 = .ok (.aload_n 0, 1) := by decide +kernel
theorem dX4_freeKeys_6 : decode cX4_freeKeys 6 = .ok (.getfield 30, 3) := by decide +kernel
theorem dX4_freeKeys_9 : decode cX4_freeKeys 9 = .ok (.if_icmp .gt 23, 3) := by decide +kernel
theorem dX4_freeKeys_12 : decode cX4_freeKeys 12 = .ok (.iload_n 1, 1) := by decide +kernel
theorem dX4_freeKeys_13 : decode cX4_freeKeys 13 = .ok (.aload_n 0, 1) := by decide +kernel
theorem dX4_freeKeys_14 : decode cX4_freeKeys 14 = .ok (.iload_n 2, 1) := by decide +kernel
theorem dX4_freeKeys_15 : decode cX4_freeKeys 15 = .ok (.invokevirtual 79, 3) := by decide +kernel
theorem dX4_freeKeys_18 : decode cX4_freeKeys 18 = .ok (.aload_n 0, 1) := by decide +kernel
theorem dX4_freeKeys_19 : decode cX4_freeKeys 19 = .ok (.iload_n 2, 1) := by decide +kernel
theorem dX4_freeKeys_20 : decode cX4_freeKeys 20 = .ok (.invokevirtual 76, 3) := by decide +kernel
theorem dX4_freeKeys_23 : decode cX4_freeKeys 23 = .ok (.isub, 1) := by decide +kernel
theorem dX4_freeKeys_24 : decode cX4_freeKeys 24 = .ok (.iadd, 1) := by decide +kernel
theorem dX4_freeKeys_25 : decode cX4_freeKeys 25 = .ok (.istore_n 1, 1) := by decide +kernel
theorem dX4_freeKeys_26 : decode cX4_freeKeys 26 = .ok (.iinc 2 1, 3) := by decide +kernel
theorem dX4_freeKeys_29 : decode cX4_freeKeys 29 = .ok (.goto (-25), 3) := by decide +kernel
theorem dX4_freeKeys_32 : decode cX4_freeKeys 32 = .ok (.iload_n 1, 1) := by decide +kernel
theorem dX4_freeKeys_33 : decode cX4_freeKeys 33 = .ok (.ireturn, 1) := by decide +kernel
theorem dX5_init_0 : decode cX5_init 0 = .ok (.aload_n 0, 1) := by decide +kernel
theorem dX5_init_1 : decode cX5_init 1 = .ok (.invokespecial 3, 3) := by decide +kernel
theorem dX5_init_4 : decode cX5_init 4 = .ok (.aload_n 0, 1) := by decide +kernel
theorem dX5_init_5 : decode cX5_init 5 = .ok (.new 9, 3) := by decide +kernel
theorem dX5_init_8 : decode cX5_init 8 = .ok (.dup, 1) := by decide +kernel
theorem dX5_init_9 : decode cX5_init 9 = .ok (.invokespecial 11, 3) := by decide +kernel
theorem dX5_init_12 : decode cX5_init 12 = .ok (.putfield 12, 3) := by decide +kernel
theorem dX5_init_15 : decode cX5_init 15 = .ok (.aload_n 0, 1) := by decide +kernel
theorem dX5_init_16 : decode cX5_init 16 = .ok (.new 18, 3) := by decide +kernel
theorem dX5_init_19 : decode cX5_init 19 = .ok (.dup, 1) := by decide +kernel
theorem dX5_init_20 : decode cX5_init 20 = .ok (.invokespecial 20, 3) := by decide +kernel
theorem dX5_init_23 : decode cX5_init 23 = .ok (.putfield 21, 3) := by decide +kernel
theorem dX5_init_26 : decode cX5_init 26 = .ok (.aload_n 0, 1) := by decide +kernel
theorem dX5_init_27 : decode cX5_init 27 = .ok (.iconst 1, 1) := by decide +kernel
theorem dX5_init_28 : decode cX5_init 28 = .ok (.putfield 25, 3) := by decide +kernel
theorem dX5_init_31 : decode cX5_init 31 = .ok (.return_, 1) := by decide +kernel
theorem dX5_copyFrom_0 : decode cX5_copyFrom 0 = .ok (.aload_n 0, 1) := by decide +kernel
theorem dX5_copyFrom_1 : decode cX5_copyFrom 1 = .ok (.getfield 12, 3) := by decide +kernel
theorem dX5_copyFrom_4 : decode cX5_copyFrom 4 = .ok (.aload_n 1, 1) := by decide +kernel
theorem dX5_copyFrom_5 : decode cX5_copyFrom 5 = .ok (.getfield 12, 3) := by decide +kernel
theorem dX5_copyFrom_8 : decode cX5_copyFrom 8 = .ok (.invokevirtual 29, 3) := by decide +kernel
theorem dX5_copyFrom_11 : decode cX5_copyFrom 11 = .ok (.aload_n 0, 1) := by decide +kernel
theorem dX5_copyFrom_12 : decode cX5_copyFrom 12 = .ok (.getfield 21, 3) := by decide +kernel
theorem dX5_copyFrom_15 : decode cX5_copyFrom 15 = .ok (.aload_n 1, 1) := by decide +kernel
theorem dX5_copyFrom_16 : decode cX5_copyFrom 16 = .ok (.getfield 21, 3) := by decide +kernel
theorem dX5_copyFrom_19 : decode cX5_copyFrom 19 = .ok (.invokevirtual 33, 3) := by decide +kernel
theorem dX5_copyFrom_22 : decode cX5_copyFrom 22 = .ok (.aload_n 0, 1) := by decide +kernel
theorem dX5_copyFrom_23 : decode cX5_copyFrom 23 = .ok (.aload_n 1, 1) := by decide +kernel
theorem dX5_copyFrom_24 : decode cX5_copyFrom 24 = .ok (.getfield 25, 3) := by decide +kernel
theorem dX5_copyFrom_27 : decode cX5_copyFrom 27 = .ok (.putfield 25, 3) := by decide +kernel
theorem dX5_copyFrom_30 : decode cX5_copyFrom 30 = .ok (.aload_n 0, 1) := by decide +kernel
theorem dX5_copyFrom_31 : decode cX5_copyFrom 31 = .ok (.aload_n 1, 1) := by decide +kernel
theorem dX5_copyFrom_32 : decode cX5_copyFrom 32 = .ok (.getfield 36, 3) := by decide +kernel
theorem dX5_copyFrom_35 : decode cX5_copyFrom 35 = .ok (.putfield 36, 3) := by decide +kernel
theorem dX5_copyFrom_38 : decode cX5_copyFrom 38 = .ok (.aload_n 0, 1) := by decide +kernel
theorem dX5_copyFrom_39 : decode cX5_copyFrom 39 = .ok (.aload_n 1, 1) := by decide +kernel
theorem dX5_copyFrom_40 : decode cX5_copyFrom 40 = .ok (.getfield 40, 3) := by decide +kernel
theorem dX5_copyFrom_43 : decode cX5_copyFrom 43 = .ok (.putfield 40, 3) := by decide +kernel
theorem dX5_copyFrom_46 : decode cX5_copyFrom 46 = .ok (.return_, 1) := by decide +kernel
theorem dX5_home_0 : decode cX5_home 0 = .ok (.aload_n 0, 1) := by decide +kernel
theorem dX5_home_1 : decode cX5_home 1 = .ok (.getfield 21, 3) := by decide +kernel
theorem dX5_home_4 : decode cX5_home 4 = .ok (.iload_n 1, 1) := by decide +kernel
theorem dX5_home_5 : decode cX5_home 5 = .ok (.invokevirtual 43, 3) := by decide +kernel
theorem dX5_home_8 : decode cX5_home 8 = .ok (.istore_n 2, 1) := by decide +kernel
theorem dX5_home_9 : decode cX5_home 9 = .ok (.iload_n 2, 1) := by decide +kernel
theorem dX5_home_10 : decode cX5_home 10 = .ok (.sipush (-1005), 3) := by decide +kernel
theorem dX5_home_13 : decode cX5_home 13 = .ok (.if_icmp .ne 13, 3) := by decide +kernel
theorem dX5_home_16 : decode cX5_home 16 = .ok (.aload_n 0, 1) := by decide +kernel
theorem dX5_home_17 : decode cX5_home 17 = .ok (.getfield 25, 3) := by decide +kernel
theorem dX5_home_20 : decode cX5_home 20 = .ok (.ifCond .eq 6, 3) := by decide +kernel
theorem dX5_home_23 : decode cX5_home 23 = .ok (.bipush 60, 2) := by decide +kernel
theorem dX5_home_25 : decode cX5_home 25 = .ok (.ireturn, 1) := by decide +kernel
theorem dX5_home_26 : decode cX5_home 26 = .ok (.iload_n 2, 1) := by decide +kernel
theorem dX5_home_27 : decode cX5_home 27 = .ok (.ireturn, 1) := by decide +kernel
theorem dX5_isStray_0 : decode cX5_isStray 0 = .ok (.aload_n 0, 1) := by decide +kernel
theorem dX5_isStray_1 : decode cX5_isStray 1 = .ok (.getfield 12, 3) := by decide +kernel
theorem dX5_isStray_4 : decode cX5_isStray 4 = .ok (.iload_n 1, 1) := by decide +kernel
theorem dX5_isStray_5 : decode cX5_isStray 5 = .ok (.invokevirtual 47, 3) := by decide +kernel
theorem dX5_isStray_8 : decode cX5_isStray 8 = .ok (.ifCond .eq 30, 3) := by decide +kernel
theorem dX5_isStray_11 : decode cX5_isStray 11 = .ok (.aload_n 0, 1) := by decide +kernel
theorem dX5_isStray_12 : decode cX5_isStray 12 = .ok (.aload_n 0, 1) := by decide +kernel
theorem dX5_isStray_13 : decode cX5_isStray 13 = .ok (.getfield 12, 3) := by decide +kernel
theorem dX5_isStray_16 : decode cX5_isStray 16 = .ok (.iload_n 1, 1) := by decide +kernel
theorem dX5_isStray_17 : decode cX5_isStray 17 = .ok (.invokevirtual 51, 3) := by decide +kernel
theorem dX5_isStray_20 : decode cX5_isStray 20 = .ok (.invokevirtual 54, 3) := by decide +kernel
theorem dX5_isStray_23 : decode cX5_isStray 23 = .ok (.aload_n 0, 1) := by decide +kernel
theorem dX5_isStray_24 : decode cX5_isStray 24 = .ok (.getfield 12, 3) := by decide +kernel
theorem dX5_isStray_27 : decode cX5_isStray 27 = .ok (.iload_n 1, 1) := by decide +kernel
theorem dX5_isStray_28 : decode cX5_isStray 28 = .ok (.invokevirtual 57, 3) := by decide +kernel
theorem dX5_isStray_31 : decode cX5_isStray 31 = .ok (.if_icmp .eq 7, 3) := by decide +kernel
theorem dX5_isStray_34 : decode cX5_isStray 34 = .ok (.iconst 1, 1) := by decide +kernel
theorem dX5_isStray_35 : decode cX5_isStray 35 = .ok (.goto 4, 3) := by decide +kernel
theorem dX5_isStray_38 : decode cX5_isStray 38 = .ok (.iconst 0, 1) := by decide +kernel
theorem dX5_isStray_39 : decode cX5_isStray 39 = .ok (.ireturn, 1) := by decide +kernel
theorem dX5_strays_0 : decode cX5_strays 0 = .ok (.iconst 0, 1) := by decide +kernel
theorem dX5_strays_1 : decode cX5_strays 1 = .ok (.istore_n 1, 1) := by decide +kernel
theorem dX5_strays_2 : decode cX5_strays 2 = .ok (.iconst 0, 1) := by decide +kernel
theorem dX5_strays_3 : decode cX5_strays 3 = .ok (.istore_n 2, 1) := by decide +kernel
theorem dX5_strays_4 : decode cX5_strays 4 = .ok (.iload_n 2, 1) := by decide +kernel
theorem dX5_strays_5 : decode cX5_strays 5 = .ok (.aload_n 0, 1) := by decide +kernel
theorem dX5_strays_6 : decode cX5_strays 6 = .ok (.getfield 12, 3) := by decide +kernel
theorem dX5_strays_9 : decode cX5_strays 9 = .ok (.getfield 60, 3) := by decide +kernel
theorem dX5_strays_12 : decode cX5_strays 12 = .ok (.if_icmp .ge 20, 3) := by decide +kernel
theorem dX5_strays_15 : decode cX5_strays 15 = .ok (.aload_n 0, 1) := by decide +kernel
theorem dX5_strays_16 : decode cX5_strays 16 = .ok (.iload_n 2, 1) := by decide +kernel
theorem dX5_strays_17 : decode cX5_strays 17 = .ok (.invokevirtual 63, 3) := by decide +kernel
theorem dX5_strays_20 : decode cX5_strays 20 = .ok (.ifCond .eq 6, 3) := by decide +kernel
theorem dX5_strays_23 : decode cX5_strays 23 = .ok (.iinc 1 1, 3) := by decide +kernel
theorem dX5_strays_26 : decode cX5_strays 26 = .ok (.iinc 2 1, 3) := by decide +kernel
theorem dX5_strays_29 : decode cX5_strays 29 = .ok (.goto (-25), 3) := by decide +kernel
theorem dX5_strays_32 : decode cX5_strays 32 = .ok (.iload_n 1, 1) := by decide +kernel
theorem dX5_strays_33 : decode cX5_strays 33 = .ok (.ireturn, 1) := by decide +kernel
theorem dX5_straysAt_0 : decode cX5_straysAt 0 = .ok (.iconst 0, 1) := by decide +kernel
theorem dX5_straysAt_1 : decode cX5_straysAt 1 = .ok (.istore_n 2, 1) := by decide +kernel
theorem dX5_straysAt_2 : decode cX5_straysAt 2 = .ok (.iconst 0, 1) := by decide +kernel
theorem dX5_straysAt_3 : decode cX5_straysAt 3 = .ok (.istore_n 3, 1) := by decide +kernel
theorem dX5_straysAt_4 : decode cX5_straysAt 4 = .ok (.iload_n 3, 1) := by decide +kernel
theorem dX5_straysAt_5 : decode cX5_straysAt 5 = .ok (.aload_n 0, 1) := by decide +kernel
theorem dX5_straysAt_6 : decode cX5_straysAt 6 = .ok (.getfield 12, 3) := by decide +kernel
theorem dX5_straysAt_9 : decode cX5_straysAt 9 = .ok (.getfield 60, 3) := by decide +kernel
theorem dX5_straysAt_12 : decode cX5_straysAt 12 = .ok (.if_icmp .ge 32, 3) := by decide +kernel
theorem dX5_straysAt_15 : decode cX5_straysAt 15 = .ok (.aload_n 0, 1) := by decide +kernel
theorem dX5_straysAt_16 : decode cX5_straysAt 16 = .ok (.getfield 12, 3) := by decide +kernel
theorem dX5_straysAt_19 : decode cX5_straysAt 19 = .ok (.iload_n 3, 1) := by decide +kernel
theorem dX5_straysAt_20 : decode cX5_straysAt 20 = .ok (.invokevirtual 57, 3) := by decide +kernel
theorem dX5_straysAt_23 : decode cX5_straysAt 23 = .ok (.iload_n 1, 1) := by decide +kernel
theorem dX5_straysAt_24 : decode cX5_straysAt 24 = .ok (.if_icmp .ne 14, 3) := by decide +kernel
theorem dX5_straysAt_27 : decode cX5_straysAt 27 = .ok (.aload_n 0, 1) := by decide +kernel
theorem dX5_straysAt_28 : decode cX5_straysAt 28 = .ok (.iload_n 3, 1) := by decide +kernel
theorem dX5_straysAt_29 : decode cX5_straysAt 29 = .ok (.invokevirtual 63, 3) := by decide +kernel
theorem dX5_straysAt_32 : decode cX5_straysAt 32 = .ok (.ifCond .eq 6, 3) := by decide +kernel
theorem dX5_straysAt_35 : decode cX5_straysAt 35 = .ok (.iinc 2 1, 3) := by decide +kernel
theorem dX5_straysAt_38 : decode cX5_straysAt 38 = .ok (.iinc 3 1, 3) := by decide +kernel
theorem dX5_straysAt_41 : decode cX5_straysAt 41 = .ok (.goto (-37), 3) := by decide +kernel
theorem dX5_straysAt_44 : decode cX5_straysAt 44 = .ok (.iload_n 2, 1) := by decide +kernel
theorem dX5_straysAt_45 : decode cX5_straysAt 45 = .ok (.ireturn, 1) := by decide +kernel
theorem dX5_strayIsHomeless_0 : decode cX5_strayIsHomeless 0 = .ok (.iconst 0, 1) := by decide +kernel
theorem dX5_strayIsHomeless_1 : decode cX5_strayIsHomeless 1 = .ok (.istore_n 1, 1) := by decide +kernel
theorem dX5_strayIsHomeless_2 : decode cX5_strayIsHomeless 2 = .ok (.iload_n 1, 1) := by decide +kernel
theorem dX5_strayIsHomeless_3 : decode cX5_strayIsHomeless 3 = .ok (.aload_n 0, 1) := by decide +kernel
theorem dX5_strayIsHomeless_4 : decode cX5_strayIsHomeless 4 = .ok (.getfield 12, 3) := by decide +kernel
theorem dX5_strayIsHomeless_7 : decode cX5_strayIsHomeless 7 = .ok (.getfield 60, 3) := by decide +kernel
theorem dX5_strayIsHomeless_10 : decode cX5_strayIsHomeless 10 = .ok (.if_icmp .ge 37, 3) := by decide +kernel
theorem dX5_strayIsHomeless_13 : decode cX5_strayIsHomeless 13 = .ok (.aload_n 0, 1) := by decide +kernel
theorem dX5_strayIsHomeless_14 : decode cX5_strayIsHomeless 14 = .ok (.iload_n 1, 1) := by decide +kernel
theorem dX5_strayIsHomeless_15 : decode cX5_strayIsHomeless 15 = .ok (.invokevirtual 63, 3) := by decide +kernel
theorem dX5_strayIsHomeless_18 : decode cX5_strayIsHomeless 18 = .ok (.ifCond .eq 23, 3) := by decide +kernel
theorem dX5_strayIsHomeless_21 : decode cX5_strayIsHomeless 21 = .ok (.aload_n 0, 1) := by decide +kernel
theorem dX5_strayIsHomeless_22 : decode cX5_strayIsHomeless 22 = .ok (.aload_n 0, 1) := by decide +kernel
theorem dX5_strayIsHomeless_23 : decode cX5_strayIsHomeless 23 = .ok (.getfield 12, 3) := by decide +kernel
theorem dX5_strayIsHomeless_26 : decode cX5_strayIsHomeless 26 = .ok (.iload_n 1, 1) := by decide +kernel
theorem dX5_strayIsHomeless_27 : decode cX5_strayIsHomeless 27 = .ok (.invokevirtual 51, 3) := by decide +kernel
theorem dX5_strayIsHomeless_30 : decode cX5_strayIsHomeless 30 = .ok (.invokevirtual 54, 3) := by decide +kernel
theorem dX5_strayIsHomeless_33 : decode cX5_strayIsHomeless 33 = .ok (.sipush (-1005), 3) := by decide +kernel
theorem dX5_strayIsHomeless_36 : decode cX5_strayIsHomeless 36 = .ok (.if_icmp .ne 5, 3) := by decide +kernel
theorem dX5_strayIsHomeless_39 : decode cX5_strayIsHomeless 39 = .ok (.iconst 1, 1) := by decide +kernel
theorem dX5_strayIsHomeless_40 : decode cX5_strayIsHomeless 40 = .ok (.ireturn, 1) := by decide +kernel
theorem dX5_strayIsHomeless_41 : decode cX5_strayIsHomeless 41 = .ok (.iinc 1 1, 3) := by decide +kernel
theorem dX5_strayIsHomeless_44 : decode cX5_strayIsHomeless 44 = .ok (.goto (-42), 3) := by decide +kernel
theorem dX5_strayIsHomeless_47 : decode cX5_strayIsHomeless 47 = .ok (.iconst 0, 1) := by decide +kernel
theorem dX5_strayIsHomeless_48 : decode cX5_strayIsHomeless 48 = .ok (.ireturn, 1) := by decide +kernel
theorem dX5_moveStrays_0 : decode cX5_moveStrays 0 = .ok (.iconst 0, 1) := by decide +kernel
theorem dX5_moveStrays_1 : decode cX5_moveStrays 1 = .ok (.istore_n 1, 1) := by decide +kernel
theorem dX5_moveStrays_2 : decode cX5_moveStrays 2 = .ok (.iload_n 1, 1) := by decide +kernel
theorem dX5_moveStrays_3 : decode cX5_moveStrays 3 = .ok (.aload_n 0, 1) := by decide +kernel
theorem dX5_moveStrays_4 : decode cX5_moveStrays 4 = .ok (.getfield 12, 3) := by decide +kernel
theorem dX5_moveStrays_7 : decode cX5_moveStrays 7 = .ok (.getfield 60, 3) := by decide +kernel
theorem dX5_moveStrays_10 : decode cX5_moveStrays 10 = .ok (.if_icmp .ge 37, 3) := by decide +kernel
theorem dX5_moveStrays_13 : decode cX5_moveStrays 13 = .ok (.aload_n 0, 1) := by decide +kernel
theorem dX5_moveStrays_14 : decode cX5_moveStrays 14 = .ok (.iload_n 1, 1) := by decide +kernel
theorem dX5_moveStrays_15 : decode cX5_moveStrays 15 = .ok (.invokevirtual 63, 3) := by decide +kernel
theorem dX5_moveStrays_18 : decode cX5_moveStrays 18 = .ok (.ifCond .eq 23, 3) := by decide +kernel
theorem dX5_moveStrays_21 : decode cX5_moveStrays 21 = .ok (.aload_n 0, 1) := by decide +kernel
theorem dX5_moveStrays_22 : decode cX5_moveStrays 22 = .ok (.getfield 12, 3) := by decide +kernel
theorem dX5_moveStrays_25 : decode cX5_moveStrays 25 = .ok (.iload_n 1, 1) := by decide +kernel
theorem dX5_moveStrays_26 : decode cX5_moveStrays 26 = .ok (.aload_n 0, 1) := by decide +kernel
theorem dX5_moveStrays_27 : decode cX5_moveStrays 27 = .ok (.aload_n 0, 1) := by decide +kernel
theorem dX5_moveStrays_28 : decode cX5_moveStrays 28 = .ok (.getfield 12, 3) := by decide +kernel
theorem dX5_moveStrays_31 : decode cX5_moveStrays 31 = .ok (.iload_n 1, 1) := by decide +kernel
theorem dX5_moveStrays_32 : decode cX5_moveStrays 32 = .ok (.invokevirtual 51, 3) := by decide +kernel
theorem dX5_moveStrays_35 : decode cX5_moveStrays 35 = .ok (.invokevirtual 54, 3) := by decide +kernel
theorem dX5_moveStrays_38 : decode cX5_moveStrays 38 = .ok (.invokevirtual 66, 3) := by decide +kernel
theorem dX5_moveStrays_41 : decode cX5_moveStrays 41 = .ok (.iinc 1 1, 3) := by decide +kernel
theorem dX5_moveStrays_44 : decode cX5_moveStrays 44 = .ok (.goto (-42), 3) := by decide +kernel
theorem dX5_moveStrays_47 : decode cX5_moveStrays 47 = .ok (.return_, 1) := by decide +kernel
theorem dX5_unfitRows_0 : decode cX5_unfitRows 0 = .ok (.aload_n 0, 1) := by decide +kernel
theorem dX5_unfitRows_1 : decode cX5_unfitRows 1 = .ok (.getfield 12, 3) := by decide +kernel
theorem dX5_unfitRows_4 : decode cX5_unfitRows 4 = .ok (.bipush 61, 2) := by decide +kernel
theorem dX5_unfitRows_6 : decode cX5_unfitRows 6 = .ok (.invokevirtual 70, 3) := by decide +kernel
theorem dX5_unfitRows_9 : decode cX5_unfitRows 9 = .ok (.aload_n 0, 1) := by decide +kernel
theorem dX5_unfitRows_10 : decode cX5_unfitRows 10 = .ok (.getfield 12, 3) := by decide +kernel
theorem dX5_unfitRows_13 : decode cX5_unfitRows 13 = .ok (.bipush 61, 2) := by decide +kernel
theorem dX5_unfitRows_15 : decode cX5_unfitRows 15 = .ok (.iload_n 1, 1) := by decide +kernel
theorem dX5_unfitRows_16 : decode cX5_unfitRows 16 = .ok (.iload_n 2, 1) := by decide +kernel
theorem dX5_unfitRows_17 : decode cX5_unfitRows 17 = .ok (.invokevirtual 73, 3) := by decide +kernel
theorem dX5_unfitRows_20 : decode cX5_unfitRows 20 = .ok (.isub, 1) := by decide +kernel
theorem dX5_unfitRows_21 : decode cX5_unfitRows 21 = .ok (.ireturn, 1) := by decide +kernel
theorem dX6_init_0 : decode cX6_init 0 = .ok (.aload_n 0, 1) := by decide +kernel
theorem dX6_init_1 : decode cX6_init 1 = .ok (.invokespecial 1, 3) := by decide +kernel
theorem dX6_init_4 : decode cX6_init 4 = .ok (.aload_n 0, 1) := by decide +kernel
theorem dX6_init_5 : decode cX6_init 5 = .ok (.new 7, 3) := by decide +kernel
theorem dX6_init_8 : decode cX6_init 8 = .ok (.dup, 1) := by decide +kernel
theorem dX6_init_9 : decode cX6_init 9 = .ok (.invokespecial 9, 3) := by decide +kernel
theorem dX6_init_12 : decode cX6_init 12 = .ok (.putfield 10, 3) := by decide +kernel
theorem dX6_init_15 : decode cX6_init 15 = .ok (.aload_n 0, 1) := by decide +kernel
theorem dX6_init_16 : decode cX6_init 16 = .ok (.new 16, 3) := by decide +kernel
theorem dX6_init_19 : decode cX6_init 19 = .ok (.dup, 1) := by decide +kernel
theorem dX6_init_20 : decode cX6_init 20 = .ok (.invokespecial 18, 3) := by decide +kernel
theorem dX6_init_23 : decode cX6_init 23 = .ok (.putfield 19, 3) := by decide +kernel
theorem dX6_init_26 : decode cX6_init 26 = .ok (.aload_n 0, 1) := by decide +kernel
theorem dX6_init_27 : decode cX6_init 27 = .ok (.new 23, 3) := by decide +kernel
theorem dX6_init_30 : decode cX6_init 30 = .ok (.dup, 1) := by decide +kernel
theorem dX6_init_31 : decode cX6_init 31 = .ok (.invokespecial 25, 3) := by decide +kernel
theorem dX6_init_34 : decode cX6_init 34 = .ok (.putfield 26, 3) := by decide +kernel
theorem dX6_init_37 : decode cX6_init 37 = .ok (.aload_n 0, 1) := by decide +kernel
theorem dX6_init_38 : decode cX6_init 38 = .ok (.new 30, 3) := by decide +kernel
theorem dX6_init_41 : decode cX6_init 41 = .ok (.dup, 1) := by decide +kernel
theorem dX6_init_42 : decode cX6_init 42 = .ok (.bipush 62, 2) := by decide +kernel
theorem dX6_init_44 : decode cX6_init 44 = .ok (.invokespecial 32, 3) := by decide +kernel
theorem dX6_init_47 : decode cX6_init 47 = .ok (.putfield 35, 3) := by decide +kernel
theorem dX6_init_50 : decode cX6_init 50 = .ok (.aload_n 0, 1) := by decide +kernel
theorem dX6_init_51 : decode cX6_init 51 = .ok (.new 30, 3) := by decide +kernel
theorem dX6_init_54 : decode cX6_init 54 = .ok (.dup, 1) := by decide +kernel
theorem dX6_init_55 : decode cX6_init 55 = .ok (.bipush 62, 2) := by decide +kernel
theorem dX6_init_57 : decode cX6_init 57 = .ok (.invokespecial 32, 3) := by decide +kernel
theorem dX6_init_60 : decode cX6_init 60 = .ok (.putfield 39, 3) := by decide +kernel
theorem dX6_init_63 : decode cX6_init 63 = .ok (.return_, 1) := by decide +kernel
theorem dX6_put_0 : decode cX6_put 0 = .ok (.iload_n 1, 1) := by decide +kernel
theorem dX6_put_1 : decode cX6_put 1 = .ok (.invokestatic 42, 3) := by decide +kernel
theorem dX6_put_4 : decode cX6_put 4 = .ok (.ifCond .eq 10, 3) := by decide +kernel
theorem dX6_put_7 : decode cX6_put 7 = .ok (.iload_n 2, 1) := by decide +kernel
theorem dX6_put_8 : decode cX6_put 8 = .ok (.invokestatic 46, 3) := by decide +kernel
theorem dX6_put_11 : decode cX6_put 11 = .ok (.ifCond .ne 7, 3) := by decide +kernel
theorem dX6_put_14 : decode cX6_put 14 = .ok (.sipush (-1002), 3) := by decide +kernel
theorem dX6_put_17 : decode cX6_put 17 = .ok (.ireturn, 1) := by decide +kernel
theorem dX6_put_18 : decode cX6_put 18 = .ok (.aload_n 0, 1) := by decide +kernel
theorem dX6_put_19 : decode cX6_put 19 = .ok (.getfield 10, 3) := by decide +kernel
theorem dX6_put_22 : decode cX6_put 22 = .ok (.iload_n 1, 1) := by decide +kernel
theorem dX6_put_23 : decode cX6_put 23 = .ok (.invokevirtual 49, 3) := by decide +kernel
theorem dX6_put_26 : decode cX6_put 26 = .ok (.istore_n 3, 1) := by decide +kernel
theorem dX6_put_27 : decode cX6_put 27 = .ok (.iload_n 3, 1) := by decide +kernel
theorem dX6_put_28 : decode cX6_put 28 = .ok (.sipush (-1005), 3) := by decide +kernel
theorem dX6_put_31 : decode cX6_put 31 = .ok (.if_icmp .ne 7, 3) := by decide +kernel
theorem dX6_put_34 : decode cX6_put 34 = .ok (.sipush (-1004), 3) := by decide +kernel
theorem dX6_put_37 : decode cX6_put 37 = .ok (.ireturn, 1) := by decide +kernel
theorem dX6_put_38 : decode cX6_put 38 = .ok (.aload_n 0, 1) := by decide +kernel
theorem dX6_put_39 : decode cX6_put 39 = .ok (.getfield 10, 3) := by decide +kernel
theorem dX6_put_42 : decode cX6_put 42 = .ok (.getfield 53, 3) := by decide +kernel
theorem dX6_put_45 : decode cX6_put 45 = .ok (.iload_n 3, 1) := by decide +kernel
theorem dX6_put_46 : decode cX6_put 46 = .ok (.invokevirtual 57, 3) := by decide +kernel
theorem dX6_put_49 : decode cX6_put 49 = .ok (.bipush 30, 2) := by decide +kernel
theorem dX6_put_51 : decode cX6_put 51 = .ok (.if_icmp .ge 19, 3) := by decide +kernel
theorem dX6_put_54 : decode cX6_put 54 = .ok (.aload_n 0, 1) := by decide +kernel
theorem dX6_put_55 : decode cX6_put 55 = .ok (.getfield 10, 3) := by decide +kernel
theorem dX6_put_58 : decode cX6_put 58 = .ok (.getfield 53, 3) := by decide +kernel
theorem dX6_put_61 : decode cX6_put 61 = .ok (.getfield 62, 3) := by decide +kernel
theorem dX6_put_64 : decode cX6_put 64 = .ok (.sipush 400, 3) := by decide +kernel
theorem dX6_put_67 : decode cX6_put 67 = .ok (.if_icmp .lt 7, 3) := by decide +kernel
theorem dX6_put_70 : decode cX6_put 70 = .ok (.sipush (-1003), 3) := by decide +kernel
theorem dX6_put_73 : decode cX6_put 73 = .ok (.ireturn, 1) := by decide +kernel
theorem dX6_put_74 : decode cX6_put 74 = .ok (.aload_n 0, 1) := by decide +kernel
theorem dX6_put_75 : decode cX6_put 75 = .ok (.getfield 19, 3) := by decide +kernel
theorem dX6_put_78 : decode cX6_put 78 = .ok (.aload_n 0, 1) := by decide +kernel
theorem dX6_put_79 : decode cX6_put 79 = .ok (.getfield 10, 3) := by decide +kernel
theorem dX6_put_82 : decode cX6_put 82 = .ok (.invokevirtual 66, 3) := by decide +kernel
theorem dX6_put_85 : decode cX6_put 85 = .ok (.aload_n 0, 1) := by decide +kernel
theorem dX6_put_86 : decode cX6_put 86 = .ok (.getfield 10, 3) := by decide +kernel
theorem dX6_put_89 : decode cX6_put 89 = .ok (.getfield 53, 3) := by decide +kernel
theorem dX6_put_92 : decode cX6_put 92 = .ok (.iload_n 1, 1) := by decide +kernel
theorem dX6_put_93 : decode cX6_put 93 = .ok (.iload_n 2, 1) := by decide +kernel
theorem dX6_put_94 : decode cX6_put 94 = .ok (.iload_n 3, 1) := by decide +kernel
theorem dX6_put_95 : decode cX6_put 95 = .ok (.invokevirtual 70, 3) := by decide +kernel
theorem dX6_put_98 : decode cX6_put 98 = .ok (.ireturn, 1) := by decide +kernel
theorem dX6_stage_0 : decode cX6_stage 0 = .ok (.iload_n 1, 1) := by decide +kernel
theorem dX6_stage_1 : decode cX6_stage 1 = .ok (.invokestatic 42, 3) := by decide +kernel
theorem dX6_stage_4 : decode cX6_stage 4 = .ok (.ifCond .eq 10, 3) := by decide +kernel
theorem dX6_stage_7 : decode cX6_stage 7 = .ok (.iload_n 2, 1) := by decide +kernel
theorem dX6_stage_8 : decode cX6_stage 8 = .ok (.invokestatic 46, 3) := by decide +kernel
theorem dX6_stage_11 : decode cX6_stage 11 = .ok (.ifCond .ne 7, 3) := by decide +kernel
theorem dX6_stage_14 : decode cX6_stage 14 = .ok (.sipush (-1002), 3) := by decide +kernel
theorem dX6_stage_17 : decode cX6_stage 17 = .ok (.ireturn, 1) := by decide +kernel
theorem dX6_stage_18 : decode cX6_stage 18 = .ok (.aload_n 0, 1) := by decide +kernel
theorem dX6_stage_19 : decode cX6_stage 19 = .ok (.getfield 10, 3) := by decide +kernel
theorem dX6_stage_22 : decode cX6_stage 22 = .ok (.getfield 53, 3) := by decide +kernel
theorem dX6_stage_25 : decode cX6_stage 25 = .ok (.bipush 61, 2) := by decide +kernel
theorem dX6_stage_27 : decode cX6_stage 27 = .ok (.invokevirtual 57, 3) := by decide +kernel
theorem dX6_stage_30 : decode cX6_stage 30 = .ok (.bipush 20, 2) := by decide +kernel
theorem dX6_stage_32 : decode cX6_stage 32 = .ok (.if_icmp .ge 19, 3) := by decide +kernel
theorem dX6_stage_35 : decode cX6_stage 35 = .ok (.aload_n 0, 1) := by decide +kernel
theorem dX6_stage_36 : decode cX6_stage 36 = .ok (.getfield 10, 3) := by decide +kernel
theorem dX6_stage_39 : decode cX6_stage 39 = .ok (.getfield 53, 3) := by decide +kernel
theorem dX6_stage_42 : decode cX6_stage 42 = .ok (.getfield 62, 3) := by decide +kernel
theorem dX6_stage_45 : decode cX6_stage 45 = .ok (.sipush 400, 3) := by decide +kernel
theorem dX6_stage_48 : decode cX6_stage 48 = .ok (.if_icmp .lt 7, 3) := by decide +kernel
theorem dX6_stage_51 : decode cX6_stage 51 = .ok (.sipush (-1003), 3) := by decide +kernel
theorem dX6_stage_54 : decode cX6_stage 54 = .ok (.ireturn, 1) := by decide +kernel
theorem dX6_stage_55 : decode cX6_stage 55 = .ok (.aload_n 0, 1) := by decide +kernel
theorem dX6_stage_56 : decode cX6_stage 56 = .ok (.getfield 19, 3) := by decide +kernel
theorem dX6_stage_59 : decode cX6_stage 59 = .ok (.aload_n 0, 1) := by decide +kernel
theorem dX6_stage_60 : decode cX6_stage 60 = .ok (.getfield 10, 3) := by decide +kernel
theorem dX6_stage_63 : decode cX6_stage 63 = .ok (.invokevirtual 66, 3) := by decide +kernel
theorem dX6_stage_66 : decode cX6_stage 66 = .ok (.aload_n 0, 1) := by decide +kernel
theorem dX6_stage_67 : decode cX6_stage 67 = .ok (.getfield 10, 3) := by decide +kernel
theorem dX6_stage_70 : decode cX6_stage 70 = .ok (.getfield 53, 3) := by decide +kernel
theorem dX6_stage_73 : decode cX6_stage 73 = .ok (.iload_n 1, 1) := by decide +kernel
theorem dX6_stage_74 : decode cX6_stage 74 = .ok (.iload_n 2, 1) := by decide +kernel
theorem dX6_stage_75 : decode cX6_stage 75 = .ok (.bipush 61, 2) := by decide +kernel
theorem dX6_stage_77 : decode cX6_stage 77 = .ok (.invokevirtual 70, 3) := by decide +kernel
theorem dX6_stage_80 : decode cX6_stage 80 = .ok (.ireturn, 1) := by decide +kernel
theorem dX6_take_0 : decode cX6_take 0 = .ok (.aload_n 0, 1) := by decide +kernel
theorem dX6_take_1 : decode cX6_take 1 = .ok (.getfield 10, 3) := by decide +kernel
theorem dX6_take_4 : decode cX6_take 4 = .ok (.getfield 53, 3) := by decide +kernel
theorem dX6_take_7 : decode cX6_take 7 = .ok (.iload_n 1, 1) := by decide +kernel
theorem dX6_take_8 : decode cX6_take 8 = .ok (.invokevirtual 74, 3) := by decide +kernel
theorem dX6_take_11 : decode cX6_take 11 = .ok (.ifCond .ne 7, 3) := by decide +kernel
theorem dX6_take_14 : decode cX6_take 14 = .ok (.sipush (-1001), 3) := by decide +kernel
theorem dX6_take_17 : decode cX6_take 17 = .ok (.ireturn, 1) := by decide +kernel
theorem dX6_take_18 : decode cX6_take 18 = .ok (.aload_n 0, 1) := by decide +kernel
theorem dX6_take_19 : decode cX6_take 19 = .ok (.getfield 19, 3) := by decide +kernel
theorem dX6_take_22 : decode cX6_take 22 = .ok (.aload_n 0, 1) := by decide +kernel
theorem dX6_take_23 : decode cX6_take 23 = .ok (.getfield 10, 3) := by decide +kernel
theorem dX6_take_26 : decode cX6_take 26 = .ok (.invokevirtual 66, 3) := by decide +kernel
theorem dX6_take_29 : decode cX6_take 29 = .ok (.aload_n 0, 1) := by decide +kernel
theorem dX6_take_30 : decode cX6_take 30 = .ok (.getfield 10, 3) := by decide +kernel
theorem dX6_take_33 : decode cX6_take 33 = .ok (.getfield 53, 3) := by decide +kernel
theorem dX6_take_36 : decode cX6_take 36 = .ok (.iload_n 1, 1) := by decide +kernel
theorem dX6_take_37 : decode cX6_take 37 = .ok (.iconst (-1), 1) := by decide +kernel
theorem dX6_take_38 : decode cX6_take 38 = .ok (.invokevirtual 77, 3) := by decide +kernel
theorem dX6_take_41 : decode cX6_take 41 = .ok (.aload_n 0, 1) := by decide +kernel
theorem dX6_take_42 : decode cX6_take 42 = .ok (.getfield 10, 3) := by decide +kernel
theorem dX6_take_45 : decode cX6_take 45 = .ok (.getfield 53, 3) := by decide +kernel
theorem dX6_take_48 : decode cX6_take 48 = .ok (.iload_n 1, 1) := by decide +kernel
theorem dX6_take_49 : decode cX6_take 49 = .ok (.invokevirtual 81, 3) := by decide +kernel
theorem dX6_take_52 : decode cX6_take 52 = .ok (.ireturn, 1) := by decide +kernel
theorem dX6_rekey_0 : decode cX6_rekey 0 = .ok (.aload_n 0, 1) := by decide +kernel
theorem dX6_rekey_1 : decode cX6_rekey 1 = .ok (.getfield 10, 3) := by decide +kernel
theorem dX6_rekey_4 : decode cX6_rekey 4 = .ok (.getfield 53, 3) := by decide +kernel
theorem dX6_rekey_7 : decode cX6_rekey 7 = .ok (.iload_n 1, 1) := by decide +kernel
theorem dX6_rekey_8 : decode cX6_rekey 8 = .ok (.invokevirtual 74, 3) := by decide +kernel
theorem dX6_rekey_11 : decode cX6_rekey 11 = .ok (.ifCond .ne 7, 3) := by decide +kernel
theorem dX6_rekey_14 : decode cX6_rekey 14 = .ok (.sipush (-1001), 3) := by decide +kernel
theorem dX6_rekey_17 : decode cX6_rekey 17 = .ok (.ireturn, 1) := by decide +kernel
theorem dX6_rekey_18 : decode cX6_rekey 18 = .ok (.iload_n 2, 1) := by decide +kernel
theorem dX6_rekey_19 : decode cX6_rekey 19 = .ok (.invokestatic 42, 3) := by decide +kernel
theorem dX6_rekey_22 : decode cX6_rekey 22 = .ok (.ifCond .ne 7, 3) := by decide +kernel
theorem dX6_rekey_25 : decode cX6_rekey 25 = .ok (.sipush (-1002), 3) := by decide +kernel
theorem dX6_rekey_28 : decode cX6_rekey 28 = .ok (.ireturn, 1) := by decide +kernel
theorem dX6_rekey_29 : decode cX6_rekey 29 = .ok (.aload_n 0, 1) := by decide +kernel
theorem dX6_rekey_30 : decode cX6_rekey 30 = .ok (.getfield 10, 3) := by decide +kernel
theorem dX6_rekey_33 : decode cX6_rekey 33 = .ok (.getfield 53, 3) := by decide +kernel
theorem dX6_rekey_36 : decode cX6_rekey 36 = .ok (.iload_n 1, 1) := by decide +kernel
theorem dX6_rekey_37 : decode cX6_rekey 37 = .ok (.invokevirtual 81, 3) := by decide +kernel
theorem dX6_rekey_40 : decode cX6_rekey 40 = .ok (.istore_n 3, 1) := by decide +kernel
theorem dX6_rekey_41 : decode cX6_rekey 41 = .ok (.iload_n 3, 1) := by decide +kernel
theorem dX6_rekey_42 : decode cX6_rekey 42 = .ok (.iload_n 2, 1) := by decide +kernel
theorem dX6_rekey_43 : decode cX6_rekey 43 = .ok (.if_icmp .ne 7, 3) := by decide +kernel
theorem dX6_rekey_46 : decode cX6_rekey 46 = .ok (.sipush (-1005), 3) := by decide +kernel
theorem dX6_rekey_49 : decode cX6_rekey 49 = .ok (.ireturn, 1) := by decide +kernel
theorem dX6_rekey_50 : decode cX6_rekey 50 = .ok (.aload_n 0, 1) := by decide +kernel
theorem dX6_rekey_51 : decode cX6_rekey 51 = .ok (.getfield 10, 3) := by decide +kernel
theorem dX6_rekey_54 : decode cX6_rekey 54 = .ok (.getfield 53, 3) := by decide +kernel
theorem dX6_rekey_57 : decode cX6_rekey 57 = .ok (.iload_n 1, 1) := by decide +kernel
theorem dX6_rekey_58 : decode cX6_rekey 58 = .ok (.invokevirtual 84, 3) := by decide +kernel
theorem dX6_rekey_61 : decode cX6_rekey 61 = .ok (.istore 4, 2) := by decide +kernel
theorem dX6_rekey_63 : decode cX6_rekey 63 = .ok (.iload 4, 2) := by decide +kernel
theorem dX6_rekey_65 : decode cX6_rekey 65 = .ok (.bipush 61, 2) := by decide +kernel
theorem dX6_rekey_67 : decode cX6_rekey 67 = .ok (.if_icmp .ne 8, 3) := by decide +kernel
theorem dX6_rekey_70 : decode cX6_rekey 70 = .ok (.bipush 61, 2) := by decide +kernel
theorem dX6_rekey_72 : decode cX6_rekey 72 = .ok (.goto 11, 3) := by decide +kernel
theorem dX6_rekey_75 : decode cX6_rekey 75 = .ok (.aload_n 0, 1) := by decide +kernel
theorem dX6_rekey_76 : decode cX6_rekey 76 = .ok (.getfield 10, 3) := by decide +kernel
theorem dX6_rekey_79 : decode cX6_rekey 79 = .ok (.iload_n 2, 1) := by decide +kernel
theorem dX6_rekey_80 : decode cX6_rekey 80 = .ok (.invokevirtual 49, 3) := by decide +kernel
theorem dX6_rekey_83 : decode cX6_rekey 83 = .ok (.istore 5, 2) := by decide +kernel
theorem dX6_rekey_85 : decode cX6_rekey 85 = .ok (.iload 5, 2) := by decide +kernel
theorem dX6_rekey_87 : decode cX6_rekey 87 = .ok (.sipush (-1005), 3) := by decide +kernel
theorem dX6_rekey_90 : decode cX6_rekey 90 = .ok (.if_icmp .ne 7, 3) := by decide +kernel
theorem dX6_rekey_93 : decode cX6_rekey 93 = .ok (.sipush (-1004), 3) := by decide +kernel
theorem dX6_rekey_96 : decode cX6_rekey 96 = .ok (.ireturn, 1) := by decide +kernel
theorem dX6_rekey_97 : decode cX6_rekey 97 = .ok (.iload 5, 2) := by decide +kernel
theorem dX6_rekey_99 : decode cX6_rekey 99 = .ok (.iload 4, 2) := by decide +kernel
theorem dX6_rekey_101 : decode cX6_rekey 101 = .ok (.if_icmp .eq 24, 3) := by decide +kernel
theorem dX6_rekey_104 : decode cX6_rekey 104 = .ok (.aload_n 0, 1) := by decide +kernel
theorem dX6_rekey_105 : decode cX6_rekey 105 = .ok (.getfield 10, 3) := by decide +kernel
theorem dX6_rekey_108 : decode cX6_rekey 108 = .ok (.getfield 53, 3) := by decide +kernel
theorem dX6_rekey_111 : decode cX6_rekey 111 = .ok (.iload 5, 2) := by decide +kernel
theorem dX6_rekey_113 : decode cX6_rekey 113 = .ok (.invokevirtual 57, 3) := by decide +kernel
theorem dX6_rekey_116 : decode cX6_rekey 116 = .ok (.bipush 30, 2) := by decide +kernel
theorem dX6_rekey_118 : decode cX6_rekey 118 = .ok (.if_icmp .lt 7, 3) := by decide +kernel
theorem dX6_rekey_121 : decode cX6_rekey 121 = .ok (.sipush (-1003), 3) := by decide +kernel
theorem dX6_rekey_124 : decode cX6_rekey 124 = .ok (.ireturn, 1) := by decide +kernel
theorem dX6_rekey_125 : decode cX6_rekey 125 = .ok (.aload_n 0, 1) := by decide +kernel
theorem dX6_rekey_126 : decode cX6_rekey 126 = .ok (.getfield 19, 3) := by decide +kernel
theorem dX6_rekey_129 : decode cX6_rekey 129 = .ok (.aload_n 0, 1) := by decide +kernel
theorem dX6_rekey_130 : decode cX6_rekey 130 = .ok (.getfield 10, 3) := by decide +kernel
theorem dX6_rekey_133 : decode cX6_rekey 133 = .ok (.invokevirtual 66, 3) := by decide +kernel
theorem dX6_rekey_136 : decode cX6_rekey 136 = .ok (.aload_n 0, 1) := by decide +kernel
theorem dX6_rekey_137 : decode cX6_rekey 137 = .ok (.getfield 10, 3) := by decide +kernel
theorem dX6_rekey_140 : decode cX6_rekey 140 = .ok (.getfield 53, 3) := by decide +kernel
theorem dX6_rekey_143 : decode cX6_rekey 143 = .ok (.iload_n 1, 1) := by decide +kernel
theorem dX6_rekey_144 : decode cX6_rekey 144 = .ok (.iload_n 2, 1) := by decide +kernel
theorem dX6_rekey_145 : decode cX6_rekey 145 = .ok (.invokevirtual 87, 3) := by decide +kernel
theorem dX6_rekey_148 : decode cX6_rekey 148 = .ok (.aload_n 0, 1) := by decide +kernel
theorem dX6_rekey_149 : decode cX6_rekey 149 = .ok (.getfield 10, 3) := by decide +kernel
theorem dX6_rekey_152 : decode cX6_rekey 152 = .ok (.getfield 53, 3) := by decide +kernel
theorem dX6_rekey_155 : decode cX6_rekey 155 = .ok (.iload_n 1, 1) := by decide +kernel
theorem dX6_rekey_156 : decode cX6_rekey 156 = .ok (.iload 5, 2) := by decide +kernel
theorem dX6_rekey_158 : decode cX6_rekey 158 = .ok (.invokevirtual 77, 3) := by decide +kernel
theorem dX6_rekey_161 : decode cX6_rekey 161 = .ok (.iload_n 3, 1) := by decide +kernel
theorem dX6_rekey_162 : decode cX6_rekey 162 = .ok (.ireturn, 1) := by decide +kernel
theorem dX6_addSlice_0 : decode cX6_addSlice 0 = .ok (.iload_n 1, 1) := by decide +kernel
theorem dX6_addSlice_1 : decode cX6_addSlice 1 = .ok (.iload_n 2, 1) := by decide +kernel
theorem dX6_addSlice_2 : decode cX6_addSlice 2 = .ok (.invokestatic 90, 3) := by decide +kernel
theorem dX6_addSlice_5 : decode cX6_addSlice 5 = .ok (.ifCond .ne 7, 3) := by decide +kernel
theorem dX6_addSlice_8 : decode cX6_addSlice 8 = .ok (.sipush (-1002), 3) := by decide +kernel
theorem dX6_addSlice_11 : decode cX6_addSlice 11 = .ok (.ireturn, 1) := by decide +kernel
theorem dX6_addSlice_12 : decode cX6_addSlice 12 = .ok (.aload_n 0, 1) := by decide +kernel
theorem dX6_addSlice_13 : decode cX6_addSlice 13 = .ok (.getfield 10, 3) := by decide +kernel
theorem dX6_addSlice_16 : decode cX6_addSlice 16 = .ok (.getfield 53, 3) := by decide +kernel
theorem dX6_addSlice_19 : decode cX6_addSlice 19 = .ok (.bipush 60, 2) := by decide +kernel
theorem dX6_addSlice_21 : decode cX6_addSlice 21 = .ok (.iload_n 1, 1) := by decide +kernel
theorem dX6_addSlice_22 : decode cX6_addSlice 22 = .ok (.iload_n 2, 1) := by decide +kernel
theorem dX6_addSlice_23 : decode cX6_addSlice 23 = .ok (.invokevirtual 94, 3) := by decide +kernel
theorem dX6_addSlice_26 : decode cX6_addSlice 26 = .ok (.ifCond .le 7, 3) := by decide +kernel
theorem dX6_addSlice_29 : decode cX6_addSlice 29 = .ok (.iconst 1, 1) := by decide +kernel
theorem dX6_addSlice_30 : decode cX6_addSlice 30 = .ok (.goto 4, 3) := by decide +kernel
theorem dX6_addSlice_33 : decode cX6_addSlice 33 = .ok (.iconst 0, 1) := by decide +kernel
theorem dX6_addSlice_34 : decode cX6_addSlice 34 = .ok (.istore_n 3, 1) := by decide +kernel
theorem dX6_addSlice_35 : decode cX6_addSlice 35 = .ok (.aload_n 0, 1) := by decide +kernel
theorem dX6_addSlice_36 : decode cX6_addSlice 36 = .ok (.getfield 10, 3) := by decide +kernel
theorem dX6_addSlice_39 : decode cX6_addSlice 39 = .ok (.getfield 97, 3) := by decide +kernel
theorem dX6_addSlice_42 : decode cX6_addSlice 42 = .ok (.iload_n 1, 1) := by decide +kernel
theorem dX6_addSlice_43 : decode cX6_addSlice 43 = .ok (.iload_n 2, 1) := by decide +kernel
theorem dX6_addSlice_44 : decode cX6_addSlice 44 = .ok (.invokevirtual 101, 3) := by decide +kernel
theorem dX6_addSlice_47 : decode cX6_addSlice 47 = .ok (.ifCond .ne 17, 3) := by decide +kernel
theorem dX6_addSlice_50 : decode cX6_addSlice 50 = .ok (.iload_n 3, 1) := by decide +kernel
theorem dX6_addSlice_51 : decode cX6_addSlice 51 = .ok (.ifCond .eq 17, 3) := by decide +kernel
theorem dX6_addSlice_54 : decode cX6_addSlice 54 = .ok (.aload_n 0, 1) := by decide +kernel
theorem dX6_addSlice_55 : decode cX6_addSlice 55 = .ok (.getfield 10, 3) := by decide +kernel
theorem dX6_addSlice_58 : decode cX6_addSlice 58 = .ok (.getfield 106, 3) := by decide +kernel
theorem dX6_addSlice_61 : decode cX6_addSlice 61 = .ok (.ifCond .ne 7, 3) := by decide +kernel
theorem dX6_addSlice_64 : decode cX6_addSlice 64 = .ok (.sipush (-1004), 3) := by decide +kernel
theorem dX6_addSlice_67 : decode cX6_addSlice 67 = .ok (.ireturn, 1) := by decide +kernel
theorem dX6_addSlice_68 : decode cX6_addSlice 68 = .ok (.aload_n 0, 1) := by decide +kernel
theorem dX6_addSlice_69 : decode cX6_addSlice 69 = .ok (.getfield 10, 3) := by decide +kernel
theorem dX6_addSlice_72 : decode cX6_addSlice 72 = .ok (.getfield 97, 3) := by decide +kernel
theorem dX6_addSlice_75 : decode cX6_addSlice 75 = .ok (.invokevirtual 109, 3) := by decide +kernel
theorem dX6_addSlice_78 : decode cX6_addSlice 78 = .ok (.ifCond .eq 7, 3) := by decide +kernel
theorem dX6_addSlice_81 : decode cX6_addSlice 81 = .ok (.sipush (-1003), 3) := by decide +kernel
theorem dX6_addSlice_84 : decode cX6_addSlice 84 = .ok (.ireturn, 1) := by decide +kernel
theorem dX6_addSlice_85 : decode cX6_addSlice 85 = .ok (.aload_n 0, 1) := by decide +kernel
theorem dX6_addSlice_86 : decode cX6_addSlice 86 = .ok (.getfield 19, 3) := by decide +kernel
theorem dX6_addSlice_89 : decode cX6_addSlice 89 = .ok (.aload_n 0, 1) := by decide +kernel
theorem dX6_addSlice_90 : decode cX6_addSlice 90 = .ok (.getfield 10, 3) := by decide +kernel
theorem dX6_addSlice_93 : decode cX6_addSlice 93 = .ok (.invokevirtual 66, 3) := by decide +kernel
theorem dX6_addSlice_96 : decode cX6_addSlice 96 = .ok (.aload_n 0, 1) := by decide +kernel
theorem dX6_addSlice_97 : decode cX6_addSlice 97 = .ok (.getfield 10, 3) := by decide +kernel
theorem dX6_addSlice_100 : decode cX6_addSlice 100 = .ok (.getfield 97, 3) := by decide +kernel
theorem dX6_addSlice_103 : decode cX6_addSlice 103 = .ok (.iload_n 1, 1) := by decide +kernel
theorem dX6_addSlice_104 : decode cX6_addSlice 104 = .ok (.iload_n 2, 1) := by decide +kernel
theorem dX6_addSlice_105 : decode cX6_addSlice 105 = .ok (.invokevirtual 113, 3) := by decide +kernel
theorem dX6_addSlice_108 : decode cX6_addSlice 108 = .ok (.istore 4, 2) := by decide +kernel
theorem dX6_addSlice_110 : decode cX6_addSlice 110 = .ok (.aload_n 0, 1) := by decide +kernel
theorem dX6_addSlice_111 : decode cX6_addSlice 111 = .ok (.getfield 10, 3) := by decide +kernel
theorem dX6_addSlice_114 : decode cX6_addSlice 114 = .ok (.getfield 53, 3) := by decide +kernel
theorem dX6_addSlice_117 : decode cX6_addSlice 117 = .ok (.bipush 60, 2) := by decide +kernel
theorem dX6_addSlice_119 : decode cX6_addSlice 119 = .ok (.iload 4, 2) := by decide +kernel
theorem dX6_addSlice_121 : decode cX6_addSlice 121 = .ok (.iload_n 1, 1) := by decide +kernel
theorem dX6_addSlice_122 : decode cX6_addSlice 122 = .ok (.iload_n 2, 1) := by decide +kernel
theorem dX6_addSlice_123 : decode cX6_addSlice 123 = .ok (.invokevirtual 116, 3) := by decide +kernel
theorem dX6_addSlice_126 : decode cX6_addSlice 126 = .ok (.iload 4, 2) := by decide +kernel
theorem dX6_addSlice_128 : decode cX6_addSlice 128 = .ok (.ireturn, 1) := by decide +kernel
theorem dX6_dropSlice_0 : decode cX6_dropSlice 0 = .ok (.aload_n 0, 1) := by decide +kernel
theorem dX6_dropSlice_1 : decode cX6_dropSlice 1 = .ok (.getfield 10, 3) := by decide +kernel
theorem dX6_dropSlice_4 : decode cX6_dropSlice 4 = .ok (.getfield 97, 3) := by decide +kernel
theorem dX6_dropSlice_7 : decode cX6_dropSlice 7 = .ok (.iload_n 1, 1) := by decide +kernel
theorem dX6_dropSlice_8 : decode cX6_dropSlice 8 = .ok (.invokevirtual 120, 3) := by decide +kernel
theorem dX6_dropSlice_11 : decode cX6_dropSlice 11 = .ok (.ifCond .ne 7, 3) := by decide +kernel
theorem dX6_dropSlice_14 : decode cX6_dropSlice 14 = .ok (.sipush (-1001), 3) := by decide +kernel
theorem dX6_dropSlice_17 : decode cX6_dropSlice 17 = .ok (.ireturn, 1) := by decide +kernel
theorem dX6_dropSlice_18 : decode cX6_dropSlice 18 = .ok (.aload_n 0, 1) := by decide +kernel
theorem dX6_dropSlice_19 : decode cX6_dropSlice 19 = .ok (.getfield 10, 3) := by decide +kernel
theorem dX6_dropSlice_22 : decode cX6_dropSlice 22 = .ok (.getfield 53, 3) := by decide +kernel
theorem dX6_dropSlice_25 : decode cX6_dropSlice 25 = .ok (.iload_n 1, 1) := by decide +kernel
theorem dX6_dropSlice_26 : decode cX6_dropSlice 26 = .ok (.invokevirtual 57, 3) := by decide +kernel
theorem dX6_dropSlice_29 : decode cX6_dropSlice 29 = .ok (.istore_n 2, 1) := by decide +kernel
theorem dX6_dropSlice_30 : decode cX6_dropSlice 30 = .ok (.aload_n 0, 1) := by decide +kernel
theorem dX6_dropSlice_31 : decode cX6_dropSlice 31 = .ok (.getfield 19, 3) := by decide +kernel
theorem dX6_dropSlice_34 : decode cX6_dropSlice 34 = .ok (.aload_n 0, 1) := by decide +kernel
theorem dX6_dropSlice_35 : decode cX6_dropSlice 35 = .ok (.getfield 10, 3) := by decide +kernel
theorem dX6_dropSlice_38 : decode cX6_dropSlice 38 = .ok (.invokevirtual 66, 3) := by decide +kernel
theorem dX6_dropSlice_41 : decode cX6_dropSlice 41 = .ok (.aload_n 0, 1) := by decide +kernel
theorem dX6_dropSlice_42 : decode cX6_dropSlice 42 = .ok (.getfield 10, 3) := by decide +kernel
theorem dX6_dropSlice_45 : decode cX6_dropSlice 45 = .ok (.getfield 53, 3) := by decide +kernel
theorem dX6_dropSlice_48 : decode cX6_dropSlice 48 = .ok (.iload_n 1, 1) := by decide +kernel
theorem dX6_dropSlice_49 : decode cX6_dropSlice 49 = .ok (.iconst (-1), 1) := by decide +kernel
theorem dX6_dropSlice_50 : decode cX6_dropSlice 50 = .ok (.invokevirtual 121, 3) := by decide +kernel
theorem dX6_dropSlice_53 : decode cX6_dropSlice 53 = .ok (.aload_n 0, 1) := by decide +kernel
theorem dX6_dropSlice_54 : decode cX6_dropSlice 54 = .ok (.getfield 10, 3) := by decide +kernel
theorem dX6_dropSlice_57 : decode cX6_dropSlice 57 = .ok (.getfield 97, 3) := by decide +kernel
theorem dX6_dropSlice_60 : decode cX6_dropSlice 60 = .ok (.iload_n 1, 1) := by decide +kernel
theorem dX6_dropSlice_61 : decode cX6_dropSlice 61 = .ok (.invokevirtual 124, 3) := by decide +kernel
theorem dX6_dropSlice_64 : decode cX6_dropSlice 64 = .ok (.iload_n 2, 1) := by decide +kernel
theorem dX6_dropSlice_65 : decode cX6_dropSlice 65 = .ok (.ireturn, 1) := by decide +kernel
theorem dX6_detach_0 : decode cX6_detach 0 = .ok (.aload_n 0, 1) := by decide +kernel
theorem dX6_detach_1 : decode cX6_detach 1 = .ok (.getfield 10, 3) := by decide +kernel
theorem dX6_detach_4 : decode cX6_detach 4 = .ok (.getfield 97, 3) := by decide +kernel
theorem dX6_detach_7 : decode cX6_detach 7 = .ok (.iload_n 1, 1) := by decide +kernel
theorem dX6_detach_8 : decode cX6_detach 8 = .ok (.invokevirtual 120, 3) := by decide +kernel
theorem dX6_detach_11 : decode cX6_detach 11 = .ok (.ifCond .ne 7, 3) := by decide +kernel
theorem dX6_detach_14 : decode cX6_detach 14 = .ok (.sipush (-1001), 3) := by decide +kernel
theorem dX6_detach_17 : decode cX6_detach 17 = .ok (.ireturn, 1) := by decide +kernel
theorem dX6_detach_18 : decode cX6_detach 18 = .ok (.aload_n 0, 1) := by decide +kernel
theorem dX6_detach_19 : decode cX6_detach 19 = .ok (.getfield 10, 3) := by decide +kernel
theorem dX6_detach_22 : decode cX6_detach 22 = .ok (.getfield 53, 3) := by decide +kernel
theorem dX6_detach_25 : decode cX6_detach 25 = .ok (.bipush 61, 2) := by decide +kernel
theorem dX6_detach_27 : decode cX6_detach 27 = .ok (.invokevirtual 57, 3) := by decide +kernel
theorem dX6_detach_30 : decode cX6_detach 30 = .ok (.ifCond .le 7, 3) := by decide +kernel
theorem dX6_detach_33 : decode cX6_detach 33 = .ok (.sipush (-1004), 3) := by decide +kernel
theorem dX6_detach_36 : decode cX6_detach 36 = .ok (.ireturn, 1) := by decide +kernel
theorem dX6_detach_37 : decode cX6_detach 37 = .ok (.aload_n 0, 1) := by decide +kernel
theorem dX6_detach_38 : decode cX6_detach 38 = .ok (.getfield 10, 3) := by decide +kernel
theorem dX6_detach_41 : decode cX6_detach 41 = .ok (.getfield 53, 3) := by decide +kernel
theorem dX6_detach_44 : decode cX6_detach 44 = .ok (.iload_n 1, 1) := by decide +kernel
theorem dX6_detach_45 : decode cX6_detach 45 = .ok (.invokevirtual 57, 3) := by decide +kernel
theorem dX6_detach_48 : decode cX6_detach 48 = .ok (.istore_n 2, 1) := by decide +kernel
theorem dX6_detach_49 : decode cX6_detach 49 = .ok (.iload_n 2, 1) := by decide +kernel
theorem dX6_detach_50 : decode cX6_detach 50 = .ok (.bipush 20, 2) := by decide +kernel
theorem dX6_detach_52 : decode cX6_detach 52 = .ok (.if_icmp .le 7, 3) := by decide +kernel
theorem dX6_detach_55 : decode cX6_detach 55 = .ok (.sipush (-1003), 3) := by decide +kernel
theorem dX6_detach_58 : decode cX6_detach 58 = .ok (.ireturn, 1) := by decide +kernel
theorem dX6_detach_59 : decode cX6_detach 59 = .ok (.aload_n 0, 1) := by decide +kernel
theorem dX6_detach_60 : decode cX6_detach 60 = .ok (.getfield 19, 3) := by decide +kernel
theorem dX6_detach_63 : decode cX6_detach 63 = .ok (.aload_n 0, 1) := by decide +kernel
theorem dX6_detach_64 : decode cX6_detach 64 = .ok (.getfield 10, 3) := by decide +kernel
theorem dX6_detach_67 : decode cX6_detach 67 = .ok (.invokevirtual 66, 3) := by decide +kernel
theorem dX6_detach_70 : decode cX6_detach 70 = .ok (.aload_n 0, 1) := by decide +kernel
theorem dX6_detach_71 : decode cX6_detach 71 = .ok (.getfield 10, 3) := by decide +kernel
theorem dX6_detach_74 : decode cX6_detach 74 = .ok (.getfield 53, 3) := by decide +kernel
theorem dX6_detach_77 : decode cX6_detach 77 = .ok (.iload_n 1, 1) := by decide +kernel
theorem dX6_detach_78 : decode cX6_detach 78 = .ok (.bipush 61, 2) := by decide +kernel
theorem dX6_detach_80 : decode cX6_detach 80 = .ok (.invokevirtual 121, 3) := by decide +kernel
theorem dX6_detach_83 : decode cX6_detach 83 = .ok (.aload_n 0, 1) := by decide +kernel
theorem dX6_detach_84 : decode cX6_detach 84 = .ok (.getfield 10, 3) := by decide +kernel
theorem dX6_detach_87 : decode cX6_detach 87 = .ok (.getfield 97, 3) := by decide +kernel
theorem dX6_detach_90 : decode cX6_detach 90 = .ok (.iload_n 1, 1) := by decide +kernel
theorem dX6_detach_91 : decode cX6_detach 91 = .ok (.invokevirtual 124, 3) := by decide +kernel
theorem dX6_detach_94 : decode cX6_detach 94 = .ok (.iload_n 2, 1) := by decide +kernel
theorem dX6_detach_95 : decode cX6_detach 95 = .ok (.ireturn, 1) := by decide +kernel
theorem dX6_attach_0 : decode cX6_attach 0 = .ok (.iload_n 1, 1) := by decide +kernel
theorem dX6_attach_1 : decode cX6_attach 1 = .ok (.iload_n 2, 1) := by decide +kernel
theorem dX6_attach_2 : decode cX6_attach 2 = .ok (.invokestatic 90, 3) := by decide +kernel
theorem dX6_attach_5 : decode cX6_attach 5 = .ok (.ifCond .ne 7, 3) := by decide +kernel
theorem dX6_attach_8 : decode cX6_attach 8 = .ok (.sipush (-1002), 3) := by decide +kernel
theorem dX6_attach_11 : decode cX6_attach 11 = .ok (.ireturn, 1) := by decide +kernel
theorem dX6_attach_12 : decode cX6_attach 12 = .ok (.aload_n 0, 1) := by decide +kernel
theorem dX6_attach_13 : decode cX6_attach 13 = .ok (.getfield 10, 3) := by decide +kernel
theorem dX6_attach_16 : decode cX6_attach 16 = .ok (.getfield 97, 3) := by decide +kernel
theorem dX6_attach_19 : decode cX6_attach 19 = .ok (.iload_n 1, 1) := by decide +kernel
theorem dX6_attach_20 : decode cX6_attach 20 = .ok (.iload_n 2, 1) := by decide +kernel
theorem dX6_attach_21 : decode cX6_attach 21 = .ok (.invokevirtual 101, 3) := by decide +kernel
theorem dX6_attach_24 : decode cX6_attach 24 = .ok (.ifCond .ne 32, 3) := by decide +kernel
theorem dX6_attach_27 : decode cX6_attach 27 = .ok (.aload_n 0, 1) := by decide +kernel
theorem dX6_attach_28 : decode cX6_attach 28 = .ok (.getfield 10, 3) := by decide +kernel
theorem dX6_attach_31 : decode cX6_attach 31 = .ok (.iload_n 1, 1) := by decide +kernel
theorem dX6_attach_32 : decode cX6_attach 32 = .ok (.iload_n 2, 1) := by decide +kernel
theorem dX6_attach_33 : decode cX6_attach 33 = .ok (.invokevirtual 127, 3) := by decide +kernel
theorem dX6_attach_36 : decode cX6_attach 36 = .ok (.ifCond .gt 20, 3) := by decide +kernel
theorem dX6_attach_39 : decode cX6_attach 39 = .ok (.aload_n 0, 1) := by decide +kernel
theorem dX6_attach_40 : decode cX6_attach 40 = .ok (.getfield 10, 3) := by decide +kernel
theorem dX6_attach_43 : decode cX6_attach 43 = .ok (.getfield 53, 3) := by decide +kernel
theorem dX6_attach_46 : decode cX6_attach 46 = .ok (.bipush 60, 2) := by decide +kernel
theorem dX6_attach_48 : decode cX6_attach 48 = .ok (.iload_n 1, 1) := by decide +kernel
theorem dX6_attach_49 : decode cX6_attach 49 = .ok (.iload_n 2, 1) := by decide +kernel
theorem dX6_attach_50 : decode cX6_attach 50 = .ok (.invokevirtual 94, 3) := by decide +kernel
theorem dX6_attach_53 : decode cX6_attach 53 = .ok (.ifCond .le 7, 3) := by decide +kernel
theorem dX6_attach_56 : decode cX6_attach 56 = .ok (.sipush (-1004), 3) := by decide +kernel
theorem dX6_attach_59 : decode cX6_attach 59 = .ok (.ireturn, 1) := by decide +kernel
theorem dX6_attach_60 : decode cX6_attach 60 = .ok (.aload_n 0, 1) := by decide +kernel
theorem dX6_attach_61 : decode cX6_attach 61 = .ok (.getfield 10, 3) := by decide +kernel
theorem dX6_attach_64 : decode cX6_attach 64 = .ok (.getfield 97, 3) := by decide +kernel
theorem dX6_attach_67 : decode cX6_attach 67 = .ok (.invokevirtual 109, 3) := by decide +kernel
theorem dX6_attach_70 : decode cX6_attach 70 = .ok (.ifCond .eq 7, 3) := by decide +kernel
theorem dX6_attach_73 : decode cX6_attach 73 = .ok (.sipush (-1003), 3) := by decide +kernel
theorem dX6_attach_76 : decode cX6_attach 76 = .ok (.ireturn, 1) := by decide +kernel
theorem dX6_attach_77 : decode cX6_attach 77 = .ok (.aload_n 0, 1) := by decide +kernel
theorem dX6_attach_78 : decode cX6_attach 78 = .ok (.getfield 19, 3) := by decide +kernel
theorem dX6_attach_81 : decode cX6_attach 81 = .ok (.aload_n 0, 1) := by decide +kernel
theorem dX6_attach_82 : decode cX6_attach 82 = .ok (.getfield 10, 3) := by decide +kernel
theorem dX6_attach_85 : decode cX6_attach 85 = .ok (.invokevirtual 66, 3) := by decide +kernel
theorem dX6_attach_88 : decode cX6_attach 88 = .ok (.aload_n 0, 1) := by decide +kernel
theorem dX6_attach_89 : decode cX6_attach 89 = .ok (.getfield 10, 3) := by decide +kernel
theorem dX6_attach_92 : decode cX6_attach 92 = .ok (.getfield 97, 3) := by decide +kernel
theorem dX6_attach_95 : decode cX6_attach 95 = .ok (.iload_n 1, 1) := by decide +kernel
theorem dX6_attach_96 : decode cX6_attach 96 = .ok (.iload_n 2, 1) := by decide +kernel
theorem dX6_attach_97 : decode cX6_attach 97 = .ok (.invokevirtual 113, 3) := by decide +kernel
theorem dX6_attach_100 : decode cX6_attach 100 = .ok (.istore_n 3, 1) := by decide +kernel
theorem dX6_attach_101 : decode cX6_attach 101 = .ok (.aload_n 0, 1) := by decide +kernel
theorem dX6_attach_102 : decode cX6_attach 102 = .ok (.getfield 10, 3) := by decide +kernel
theorem dX6_attach_105 : decode cX6_attach 105 = .ok (.getfield 53, 3) := by decide +kernel
theorem dX6_attach_108 : decode cX6_attach 108 = .ok (.bipush 61, 2) := by decide +kernel
theorem dX6_attach_110 : decode cX6_attach 110 = .ok (.iload_n 3, 1) := by decide +kernel
theorem dX6_attach_111 : decode cX6_attach 111 = .ok (.invokevirtual 121, 3) := by decide +kernel
theorem dX6_attach_114 : decode cX6_attach 114 = .ok (.iload_n 3, 1) := by decide +kernel
theorem dX6_attach_115 : decode cX6_attach 115 = .ok (.ireturn, 1) := by decide +kernel
theorem dX6_swap_0 : decode cX6_swap 0 = .ok (.aload_n 0, 1) := by decide +kernel
theorem dX6_swap_1 : decode cX6_swap 1 = .ok (.getfield 10, 3) := by decide +kernel
theorem dX6_swap_4 : decode cX6_swap 4 = .ok (.getfield 97, 3) := by decide +kernel
theorem dX6_swap_7 : decode cX6_swap 7 = .ok (.iload_n 1, 1) := by decide +kernel
theorem dX6_swap_8 : decode cX6_swap 8 = .ok (.invokevirtual 130, 3) := by decide +kernel
theorem dX6_swap_11 : decode cX6_swap 11 = .ok (.istore_n 3, 1) := by decide +kernel
theorem dX6_swap_12 : decode cX6_swap 12 = .ok (.iload_n 3, 1) := by decide +kernel
theorem dX6_swap_13 : decode cX6_swap 13 = .ok (.sipush (-1005), 3) := by decide +kernel
theorem dX6_swap_16 : decode cX6_swap 16 = .ok (.if_icmp .ne 7, 3) := by decide +kernel
theorem dX6_swap_19 : decode cX6_swap 19 = .ok (.sipush (-1001), 3) := by decide +kernel
theorem dX6_swap_22 : decode cX6_swap 22 = .ok (.ireturn, 1) := by decide +kernel
theorem dX6_swap_23 : decode cX6_swap 23 = .ok (.iload_n 2, 1) := by decide +kernel
theorem dX6_swap_24 : decode cX6_swap 24 = .ok (.ifCond .eq 39, 3) := by decide +kernel
theorem dX6_swap_27 : decode cX6_swap 27 = .ok (.aload_n 0, 1) := by decide +kernel
theorem dX6_swap_28 : decode cX6_swap 28 = .ok (.getfield 10, 3) := by decide +kernel
theorem dX6_swap_31 : decode cX6_swap 31 = .ok (.aload_n 0, 1) := by decide +kernel
theorem dX6_swap_32 : decode cX6_swap 32 = .ok (.getfield 10, 3) := by decide +kernel
theorem dX6_swap_35 : decode cX6_swap 35 = .ok (.getfield 97, 3) := by decide +kernel
theorem dX6_swap_38 : decode cX6_swap 38 = .ok (.iload_n 3, 1) := by decide +kernel
theorem dX6_swap_39 : decode cX6_swap 39 = .ok (.invokevirtual 133, 3) := by decide +kernel
theorem dX6_swap_42 : decode cX6_swap 42 = .ok (.aload_n 0, 1) := by decide +kernel
theorem dX6_swap_43 : decode cX6_swap 43 = .ok (.getfield 10, 3) := by decide +kernel
theorem dX6_swap_46 : decode cX6_swap 46 = .ok (.getfield 97, 3) := by decide +kernel
theorem dX6_swap_49 : decode cX6_swap 49 = .ok (.iload_n 3, 1) := by decide +kernel
theorem dX6_swap_50 : decode cX6_swap 50 = .ok (.invokevirtual 136, 3) := by decide +kernel
theorem dX6_swap_53 : decode cX6_swap 53 = .ok (.invokevirtual 127, 3) := by decide +kernel
theorem dX6_swap_56 : decode cX6_swap 56 = .ok (.ifCond .le 7, 3) := by decide +kernel
theorem dX6_swap_59 : decode cX6_swap 59 = .ok (.sipush (-1004), 3) := by decide +kernel
theorem dX6_swap_62 : decode cX6_swap 62 = .ok (.ireturn, 1) := by decide +kernel
theorem dX6_swap_63 : decode cX6_swap 63 = .ok (.aload_n 0, 1) := by decide +kernel
theorem dX6_swap_64 : decode cX6_swap 64 = .ok (.getfield 10, 3) := by decide +kernel
theorem dX6_swap_67 : decode cX6_swap 67 = .ok (.getfield 53, 3) := by decide +kernel
theorem dX6_swap_70 : decode cX6_swap 70 = .ok (.iload_n 1, 1) := by decide +kernel
theorem dX6_swap_71 : decode cX6_swap 71 = .ok (.invokevirtual 57, 3) := by decide +kernel
theorem dX6_swap_74 : decode cX6_swap 74 = .ok (.bipush 20, 2) := by decide +kernel
theorem dX6_swap_76 : decode cX6_swap 76 = .ok (.if_icmp .le 7, 3) := by decide +kernel
theorem dX6_swap_79 : decode cX6_swap 79 = .ok (.sipush (-1003), 3) := by decide +kernel
theorem dX6_swap_82 : decode cX6_swap 82 = .ok (.ireturn, 1) := by decide +kernel
theorem dX6_swap_83 : decode cX6_swap 83 = .ok (.aload_n 0, 1) := by decide +kernel
theorem dX6_swap_84 : decode cX6_swap 84 = .ok (.getfield 19, 3) := by decide +kernel
theorem dX6_swap_87 : decode cX6_swap 87 = .ok (.aload_n 0, 1) := by decide +kernel
theorem dX6_swap_88 : decode cX6_swap 88 = .ok (.getfield 10, 3) := by decide +kernel
theorem dX6_swap_91 : decode cX6_swap 91 = .ok (.invokevirtual 66, 3) := by decide +kernel
theorem dX6_swap_94 : decode cX6_swap 94 = .ok (.aload_n 0, 1) := by decide +kernel
theorem dX6_swap_95 : decode cX6_swap 95 = .ok (.getfield 10, 3) := by decide +kernel
theorem dX6_swap_98 : decode cX6_swap 98 = .ok (.getfield 53, 3) := by decide +kernel
theorem dX6_swap_101 : decode cX6_swap 101 = .ok (.iload_n 1, 1) := by decide +kernel
theorem dX6_swap_102 : decode cX6_swap 102 = .ok (.bipush 61, 2) := by decide +kernel
theorem dX6_swap_104 : decode cX6_swap 104 = .ok (.invokevirtual 139, 3) := by decide +kernel
theorem dX6_swap_107 : decode cX6_swap 107 = .ok (.aload_n 0, 1) := by decide +kernel
theorem dX6_swap_108 : decode cX6_swap 108 = .ok (.getfield 10, 3) := by decide +kernel
theorem dX6_swap_111 : decode cX6_swap 111 = .ok (.getfield 53, 3) := by decide +kernel
theorem dX6_swap_114 : decode cX6_swap 114 = .ok (.iload_n 1, 1) := by decide +kernel
theorem dX6_swap_115 : decode cX6_swap 115 = .ok (.invokevirtual 57, 3) := by decide +kernel
theorem dX6_swap_118 : decode cX6_swap 118 = .ok (.ireturn, 1) := by decide +kernel
theorem dX6_split_0 : decode cX6_split 0 = .ok (.aload_n 0, 1) := by decide +kernel
theorem dX6_split_1 : decode cX6_split 1 = .ok (.getfield 10, 3) := by decide +kernel
theorem dX6_split_4 : decode cX6_split 4 = .ok (.getfield 97, 3) := by decide +kernel
theorem dX6_split_7 : decode cX6_split 7 = .ok (.iload_n 1, 1) := by decide +kernel
theorem dX6_split_8 : decode cX6_split 8 = .ok (.invokevirtual 130, 3) := by decide +kernel
theorem dX6_split_11 : decode cX6_split 11 = .ok (.istore_n 3, 1) := by decide +kernel
theorem dX6_split_12 : decode cX6_split 12 = .ok (.iload_n 3, 1) := by decide +kernel
theorem dX6_split_13 : decode cX6_split 13 = .ok (.sipush (-1005), 3) := by decide +kernel
theorem dX6_split_16 : decode cX6_split 16 = .ok (.if_icmp .ne 7, 3) := by decide +kernel
theorem dX6_split_19 : decode cX6_split 19 = .ok (.sipush (-1001), 3) := by decide +kernel
theorem dX6_split_22 : decode cX6_split 22 = .ok (.ireturn, 1) := by decide +kernel
theorem dX6_split_23 : decode cX6_split 23 = .ok (.aload_n 0, 1) := by decide +kernel
theorem dX6_split_24 : decode cX6_split 24 = .ok (.getfield 10, 3) := by decide +kernel
theorem dX6_split_27 : decode cX6_split 27 = .ok (.getfield 97, 3) := by decide +kernel
theorem dX6_split_30 : decode cX6_split 30 = .ok (.iload_n 3, 1) := by decide +kernel
theorem dX6_split_31 : decode cX6_split 31 = .ok (.invokevirtual 133, 3) := by decide +kernel
theorem dX6_split_34 : decode cX6_split 34 = .ok (.istore 4, 2) := by decide +kernel
theorem dX6_split_36 : decode cX6_split 36 = .ok (.aload_n 0, 1) := by decide +kernel
theorem dX6_split_37 : decode cX6_split 37 = .ok (.getfield 10, 3) := by decide +kernel
theorem dX6_split_40 : decode cX6_split 40 = .ok (.getfield 97, 3) := by decide +kernel
theorem dX6_split_43 : decode cX6_split 43 = .ok (.iload_n 3, 1) := by decide +kernel
theorem dX6_split_44 : decode cX6_split 44 = .ok (.invokevirtual 136, 3) := by decide +kernel
theorem dX6_split_47 : decode cX6_split 47 = .ok (.istore 5, 2) := by decide +kernel
theorem dX6_split_49 : decode cX6_split 49 = .ok (.iload_n 2, 1) := by decide +kernel
theorem dX6_split_50 : decode cX6_split 50 = .ok (.iload 4, 2) := by decide +kernel
theorem dX6_split_52 : decode cX6_split 52 = .ok (.if_icmp .le 9, 3) := by decide +kernel
theorem dX6_split_55 : decode cX6_split 55 = .ok (.iload_n 2, 1) := by decide +kernel
theorem dX6_split_56 : decode cX6_split 56 = .ok (.iload 5, 2) := by decide +kernel
theorem dX6_split_58 : decode cX6_split 58 = .ok (.if_icmp .lt 7, 3) := by decide +kernel
theorem dX6_split_61 : decode cX6_split 61 = .ok (.sipush (-1002), 3) := by decide +kernel
theorem dX6_split_64 : decode cX6_split 64 = .ok (.ireturn, 1) := by decide +kernel
theorem dX6_split_65 : decode cX6_split 65 = .ok (.aload_n 0, 1) := by decide +kernel
theorem dX6_split_66 : decode cX6_split 66 = .ok (.getfield 10, 3) := by decide +kernel
theorem dX6_split_69 : decode cX6_split 69 = .ok (.getfield 97, 3) := by decide +kernel
theorem dX6_split_72 : decode cX6_split 72 = .ok (.invokevirtual 109, 3) := by decide +kernel
theorem dX6_split_75 : decode cX6_split 75 = .ok (.ifCond .eq 7, 3) := by decide +kernel
theorem dX6_split_78 : decode cX6_split 78 = .ok (.sipush (-1003), 3) := by decide +kernel
theorem dX6_split_81 : decode cX6_split 81 = .ok (.ireturn, 1) := by decide +kernel
theorem dX6_split_82 : decode cX6_split 82 = .ok (.aload_n 0, 1) := by decide +kernel
theorem dX6_split_83 : decode cX6_split 83 = .ok (.getfield 19, 3) := by decide +kernel
theorem dX6_split_86 : decode cX6_split 86 = .ok (.aload_n 0, 1) := by decide +kernel
theorem dX6_split_87 : decode cX6_split 87 = .ok (.getfield 10, 3) := by decide +kernel
theorem dX6_split_90 : decode cX6_split 90 = .ok (.invokevirtual 66, 3) := by decide +kernel
theorem dX6_split_93 : decode cX6_split 93 = .ok (.aload_n 0, 1) := by decide +kernel
theorem dX6_split_94 : decode cX6_split 94 = .ok (.getfield 10, 3) := by decide +kernel
theorem dX6_split_97 : decode cX6_split 97 = .ok (.getfield 97, 3) := by decide +kernel
theorem dX6_split_100 : decode cX6_split 100 = .ok (.iload_n 3, 1) := by decide +kernel
theorem dX6_split_101 : decode cX6_split 101 = .ok (.iload 4, 2) := by decide +kernel
theorem dX6_split_103 : decode cX6_split 103 = .ok (.iload_n 2, 1) := by decide +kernel
theorem dX6_split_104 : decode cX6_split 104 = .ok (.invokevirtual 142, 3) := by decide +kernel
theorem dX6_split_107 : decode cX6_split 107 = .ok (.aload_n 0, 1) := by decide +kernel
theorem dX6_split_108 : decode cX6_split 108 = .ok (.getfield 10, 3) := by decide +kernel
theorem dX6_split_111 : decode cX6_split 111 = .ok (.getfield 97, 3) := by decide +kernel
theorem dX6_split_114 : decode cX6_split 114 = .ok (.iload_n 2, 1) := by decide +kernel
theorem dX6_split_115 : decode cX6_split 115 = .ok (.iload 5, 2) := by decide +kernel
theorem dX6_split_117 : decode cX6_split 117 = .ok (.invokevirtual 113, 3) := by decide +kernel
theorem dX6_split_120 : decode cX6_split 120 = .ok (.istore 6, 2) := by decide +kernel
theorem dX6_split_122 : decode cX6_split 122 = .ok (.aload_n 0, 1) := by decide +kernel
theorem dX6_split_123 : decode cX6_split 123 = .ok (.getfield 10, 3) := by decide +kernel
theorem dX6_split_126 : decode cX6_split 126 = .ok (.getfield 53, 3) := by decide +kernel
theorem dX6_split_129 : decode cX6_split 129 = .ok (.iload_n 1, 1) := by decide +kernel
theorem dX6_split_130 : decode cX6_split 130 = .ok (.iload 6, 2) := by decide +kernel
theorem dX6_split_132 : decode cX6_split 132 = .ok (.iload_n 2, 1) := by decide +kernel
theorem dX6_split_133 : decode cX6_split 133 = .ok (.iload 5, 2) := by decide +kernel
theorem dX6_split_135 : decode cX6_split 135 = .ok (.invokevirtual 116, 3) := by decide +kernel
theorem dX6_split_138 : decode cX6_split 138 = .ok (.iload 6, 2) := by decide +kernel
theorem dX6_split_140 : decode cX6_split 140 = .ok (.ireturn, 1) := by decide +kernel
theorem dX6_merge_0 : decode cX6_merge 0 = .ok (.aload_n 0, 1) := by decide +kernel
theorem dX6_merge_1 : decode cX6_merge 1 = .ok (.getfield 10, 3) := by decide +kernel
theorem dX6_merge_4 : decode cX6_merge 4 = .ok (.getfield 97, 3) := by decide +kernel
theorem dX6_merge_7 : decode cX6_merge 7 = .ok (.iload_n 1, 1) := by decide +kernel
theorem dX6_merge_8 : decode cX6_merge 8 = .ok (.invokevirtual 130, 3) := by decide +kernel
theorem dX6_merge_11 : decode cX6_merge 11 = .ok (.istore_n 3, 1) := by decide +kernel
theorem dX6_merge_12 : decode cX6_merge 12 = .ok (.aload_n 0, 1) := by decide +kernel
theorem dX6_merge_13 : decode cX6_merge 13 = .ok (.getfield 10, 3) := by decide +kernel
theorem dX6_merge_16 : decode cX6_merge 16 = .ok (.getfield 97, 3) := by decide +kernel
theorem dX6_merge_19 : decode cX6_merge 19 = .ok (.iload_n 2, 1) := by decide +kernel
theorem dX6_merge_20 : decode cX6_merge 20 = .ok (.invokevirtual 130, 3) := by decide +kernel
theorem dX6_merge_23 : decode cX6_merge 23 = .ok (.istore 4, 2) := by decide +kernel
theorem dX6_merge_25 : decode cX6_merge 25 = .ok (.iload_n 3, 1) := by decide +kernel
theorem dX6_merge_26 : decode cX6_merge 26 = .ok (.sipush (-1005), 3) := by decide +kernel
theorem dX6_merge_29 : decode cX6_merge 29 = .ok (.if_icmp .eq 11, 3) := by decide +kernel
theorem dX6_merge_32 : decode cX6_merge 32 = .ok (.iload 4, 2) := by decide +kernel
theorem dX6_merge_34 : decode cX6_merge 34 = .ok (.sipush (-1005), 3) := by decide +kernel
theorem dX6_merge_37 : decode cX6_merge 37 = .ok (.if_icmp .ne 7, 3) := by decide +kernel
theorem dX6_merge_40 : decode cX6_merge 40 = .ok (.sipush (-1001), 3) := by decide +kernel
theorem dX6_merge_43 : decode cX6_merge 43 = .ok (.ireturn, 1) := by decide +kernel
theorem dX6_merge_44 : decode cX6_merge 44 = .ok (.aload_n 0, 1) := by decide +kernel
theorem dX6_merge_45 : decode cX6_merge 45 = .ok (.getfield 10, 3) := by decide +kernel
theorem dX6_merge_48 : decode cX6_merge 48 = .ok (.getfield 97, 3) := by decide +kernel
theorem dX6_merge_51 : decode cX6_merge 51 = .ok (.iload_n 3, 1) := by decide +kernel
theorem dX6_merge_52 : decode cX6_merge 52 = .ok (.iload 4, 2) := by decide +kernel
theorem dX6_merge_54 : decode cX6_merge 54 = .ok (.invokevirtual 146, 3) := by decide +kernel
theorem dX6_merge_57 : decode cX6_merge 57 = .ok (.ifCond .ne 7, 3) := by decide +kernel
theorem dX6_merge_60 : decode cX6_merge 60 = .ok (.sipush (-1004), 3) := by decide +kernel
theorem dX6_merge_63 : decode cX6_merge 63 = .ok (.ireturn, 1) := by decide +kernel
theorem dX6_merge_64 : decode cX6_merge 64 = .ok (.aload_n 0, 1) := by decide +kernel
theorem dX6_merge_65 : decode cX6_merge 65 = .ok (.getfield 10, 3) := by decide +kernel
theorem dX6_merge_68 : decode cX6_merge 68 = .ok (.getfield 53, 3) := by decide +kernel
theorem dX6_merge_71 : decode cX6_merge 71 = .ok (.iload_n 1, 1) := by decide +kernel
theorem dX6_merge_72 : decode cX6_merge 72 = .ok (.invokevirtual 57, 3) := by decide +kernel
theorem dX6_merge_75 : decode cX6_merge 75 = .ok (.aload_n 0, 1) := by decide +kernel
theorem dX6_merge_76 : decode cX6_merge 76 = .ok (.getfield 10, 3) := by decide +kernel
theorem dX6_merge_79 : decode cX6_merge 79 = .ok (.getfield 53, 3) := by decide +kernel
theorem dX6_merge_82 : decode cX6_merge 82 = .ok (.iload_n 2, 1) := by decide +kernel
theorem dX6_merge_83 : decode cX6_merge 83 = .ok (.invokevirtual 57, 3) := by decide +kernel
theorem dX6_merge_86 : decode cX6_merge 86 = .ok (.iadd, 1) := by decide +kernel
theorem dX6_merge_87 : decode cX6_merge 87 = .ok (.istore 5, 2) := by decide +kernel
theorem dX6_merge_89 : decode cX6_merge 89 = .ok (.iload 5, 2) := by decide +kernel
theorem dX6_merge_91 : decode cX6_merge 91 = .ok (.bipush 30, 2) := by decide +kernel
theorem dX6_merge_93 : decode cX6_merge 93 = .ok (.if_icmp .le 7, 3) := by decide +kernel
theorem dX6_merge_96 : decode cX6_merge 96 = .ok (.sipush (-1003), 3) := by decide +kernel
theorem dX6_merge_99 : decode cX6_merge 99 = .ok (.ireturn, 1) := by decide +kernel
theorem dX6_merge_100 : decode cX6_merge 100 = .ok (.aload_n 0, 1) := by decide +kernel
theorem dX6_merge_101 : decode cX6_merge 101 = .ok (.getfield 19, 3) := by decide +kernel
theorem dX6_merge_104 : decode cX6_merge 104 = .ok (.aload_n 0, 1) := by decide +kernel
theorem dX6_merge_105 : decode cX6_merge 105 = .ok (.getfield 10, 3) := by decide +kernel
theorem dX6_merge_108 : decode cX6_merge 108 = .ok (.invokevirtual 66, 3) := by decide +kernel
theorem dX6_merge_111 : decode cX6_merge 111 = .ok (.aload_n 0, 1) := by decide +kernel
theorem dX6_merge_112 : decode cX6_merge 112 = .ok (.getfield 10, 3) := by decide +kernel
theorem dX6_merge_115 : decode cX6_merge 115 = .ok (.getfield 53, 3) := by decide +kernel
theorem dX6_merge_118 : decode cX6_merge 118 = .ok (.iload_n 1, 1) := by decide +kernel
theorem dX6_merge_119 : decode cX6_merge 119 = .ok (.iload_n 2, 1) := by decide +kernel
theorem dX6_merge_120 : decode cX6_merge 120 = .ok (.invokevirtual 121, 3) := by decide +kernel
theorem dX6_merge_123 : decode cX6_merge 123 = .ok (.aload_n 0, 1) := by decide +kernel
theorem dX6_merge_124 : decode cX6_merge 124 = .ok (.getfield 10, 3) := by decide +kernel
theorem dX6_merge_127 : decode cX6_merge 127 = .ok (.getfield 97, 3) := by decide +kernel
theorem dX6_merge_130 : decode cX6_merge 130 = .ok (.iload_n 3, 1) := by decide +kernel
theorem dX6_merge_131 : decode cX6_merge 131 = .ok (.iload 4, 2) := by decide +kernel
theorem dX6_merge_133 : decode cX6_merge 133 = .ok (.invokevirtual 149, 3) := by decide +kernel
theorem dX6_merge_136 : decode cX6_merge 136 = .ok (.iload 5, 2) := by decide +kernel
theorem dX6_merge_138 : decode cX6_merge 138 = .ok (.ireturn, 1) := by decide +kernel
theorem dX6_useDefault_0 : decode cX6_useDefault 0 = .ok (.aload_n 0, 1) := by decide +kernel
theorem dX6_useDefault_1 : decode cX6_useDefault 1 = .ok (.getfield 10, 3) := by decide +kernel
theorem dX6_useDefault_4 : decode cX6_useDefault 4 = .ok (.getfield 152, 3) := by decide +kernel
theorem dX6_useDefault_7 : decode cX6_useDefault 7 = .ok (.iload_n 1, 1) := by decide +kernel
theorem dX6_useDefault_8 : decode cX6_useDefault 8 = .ok (.if_icmp .ne 7, 3) := by decide +kernel
theorem dX6_useDefault_11 : decode cX6_useDefault 11 = .ok (.sipush (-1005), 3) := by decide +kernel
theorem dX6_useDefault_14 : decode cX6_useDefault 14 = .ok (.ireturn, 1) := by decide +kernel
theorem dX6_useDefault_15 : decode cX6_useDefault 15 = .ok (.iload_n 1, 1) := by decide +kernel
theorem dX6_useDefault_16 : decode cX6_useDefault 16 = .ok (.ifCond .ne 22, 3) := by decide +kernel
theorem dX6_useDefault_19 : decode cX6_useDefault 19 = .ok (.aload_n 0, 1) := by decide +kernel
theorem dX6_useDefault_20 : decode cX6_useDefault 20 = .ok (.getfield 10, 3) := by decide +kernel
theorem dX6_useDefault_23 : decode cX6_useDefault 23 = .ok (.getfield 53, 3) := by decide +kernel
theorem dX6_useDefault_26 : decode cX6_useDefault 26 = .ok (.bipush 60, 2) := by decide +kernel
theorem dX6_useDefault_28 : decode cX6_useDefault 28 = .ok (.invokevirtual 57, 3) := by decide +kernel
theorem dX6_useDefault_31 : decode cX6_useDefault 31 = .ok (.ifCond .le 7, 3) := by decide +kernel
theorem dX6_useDefault_34 : decode cX6_useDefault 34 = .ok (.sipush (-1004), 3) := by decide +kernel
theorem dX6_useDefault_37 : decode cX6_useDefault 37 = .ok (.ireturn, 1) := by decide +kernel
theorem dX6_useDefault_38 : decode cX6_useDefault 38 = .ok (.aload_n 0, 1) := by decide +kernel
theorem dX6_useDefault_39 : decode cX6_useDefault 39 = .ok (.getfield 19, 3) := by decide +kernel
theorem dX6_useDefault_42 : decode cX6_useDefault 42 = .ok (.aload_n 0, 1) := by decide +kernel
theorem dX6_useDefault_43 : decode cX6_useDefault 43 = .ok (.getfield 10, 3) := by decide +kernel
theorem dX6_useDefault_46 : decode cX6_useDefault 46 = .ok (.invokevirtual 66, 3) := by decide +kernel
theorem dX6_useDefault_49 : decode cX6_useDefault 49 = .ok (.aload_n 0, 1) := by decide +kernel
theorem dX6_useDefault_50 : decode cX6_useDefault 50 = .ok (.getfield 10, 3) := by decide +kernel
theorem dX6_useDefault_53 : decode cX6_useDefault 53 = .ok (.iload_n 1, 1) := by decide +kernel
theorem dX6_useDefault_54 : decode cX6_useDefault 54 = .ok (.putfield 152, 3) := by decide +kernel
theorem dX6_useDefault_57 : decode cX6_useDefault 57 = .ok (.aload_n 0, 1) := by decide +kernel
theorem dX6_useDefault_58 : decode cX6_useDefault 58 = .ok (.getfield 10, 3) := by decide +kernel
theorem dX6_useDefault_61 : decode cX6_useDefault 61 = .ok (.getfield 97, 3) := by decide +kernel
theorem dX6_useDefault_64 : decode cX6_useDefault 64 = .ok (.invokevirtual 156, 3) := by decide +kernel
theorem dX6_useDefault_67 : decode cX6_useDefault 67 = .ok (.ireturn, 1) := by decide +kernel
theorem dX6_mend_0 : decode cX6_mend 0 = .ok (.aload_n 0, 1) := by decide +kernel
theorem dX6_mend_1 : decode cX6_mend 1 = .ok (.getfield 10, 3) := by decide +kernel
theorem dX6_mend_4 : decode cX6_mend 4 = .ok (.invokevirtual 160, 3) := by decide +kernel
theorem dX6_mend_7 : decode cX6_mend 7 = .ok (.istore_n 1, 1) := by decide +kernel
theorem dX6_mend_8 : decode cX6_mend 8 = .ok (.iload_n 1, 1) := by decide +kernel
theorem dX6_mend_9 : decode cX6_mend 9 = .ok (.ifCond .ne 7, 3) := by decide +kernel
theorem dX6_mend_12 : decode cX6_mend 12 = .ok (.sipush (-1005), 3) := by decide +kernel
theorem dX6_mend_15 : decode cX6_mend 15 = .ok (.ireturn, 1) := by decide +kernel
theorem dX6_mend_16 : decode cX6_mend 16 = .ok (.aload_n 0, 1) := by decide +kernel
theorem dX6_mend_17 : decode cX6_mend 17 = .ok (.getfield 10, 3) := by decide +kernel
theorem dX6_mend_20 : decode cX6_mend 20 = .ok (.invokevirtual 163, 3) := by decide +kernel
theorem dX6_mend_23 : decode cX6_mend 23 = .ok (.ifCond .eq 7, 3) := by decide +kernel
theorem dX6_mend_26 : decode cX6_mend 26 = .ok (.sipush (-1004), 3) := by decide +kernel
theorem dX6_mend_29 : decode cX6_mend 29 = .ok (.ireturn, 1) := by decide +kernel
theorem dX6_mend_30 : decode cX6_mend 30 = .ok (.aload_n 0, 1) := by decide +kernel
theorem dX6_mend_31 : decode cX6_mend 31 = .ok (.invokevirtual 166, 3) := by decide +kernel
theorem dX6_mend_34 : decode cX6_mend 34 = .ok (.ifCond .ne 7, 3) := by decide +kernel
theorem dX6_mend_37 : decode cX6_mend 37 = .ok (.sipush (-1003), 3) := by decide +kernel
theorem dX6_mend_40 : decode cX6_mend 40 = .ok (.ireturn, 1) := by decide +kernel
theorem dX6_mend_41 : decode cX6_mend 41 = .ok (.aload_n 0, 1) := by decide +kernel
theorem dX6_mend_42 : decode cX6_mend 42 = .ok (.getfield 19, 3) := by decide +kernel
theorem dX6_mend_45 : decode cX6_mend 45 = .ok (.aload_n 0, 1) := by decide +kernel
theorem dX6_mend_46 : decode cX6_mend 46 = .ok (.getfield 10, 3) := by decide +kernel
theorem dX6_mend_49 : decode cX6_mend 49 = .ok (.invokevirtual 66, 3) := by decide +kernel
theorem dX6_mend_52 : decode cX6_mend 52 = .ok (.aload_n 0, 1) := by decide +kernel
theorem dX6_mend_53 : decode cX6_mend 53 = .ok (.getfield 10, 3) := by decide +kernel
theorem dX6_mend_56 : decode cX6_mend 56 = .ok (.invokevirtual 169, 3) := by decide +kernel
theorem dX6_mend_59 : decode cX6_mend 59 = .ok (.iload_n 1, 1) := by decide +kernel
theorem dX6_mend_60 : decode cX6_mend 60 = .ok (.ireturn, 1) := by decide +kernel
theorem dX6_set_0 : decode cX6_set 0 = .ok (.iload_n 1, 1) := by decide +kernel
theorem dX6_set_1 : decode cX6_set 1 = .ok (.ifCond .lt 25, 3) := by decide +kernel
theorem dX6_set_4 : decode cX6_set 4 = .ok (.iload_n 1, 1) := by decide +kernel
theorem dX6_set_5 : decode cX6_set 5 = .ok (.iconst 1, 1) := by decide +kernel
theorem dX6_set_6 : decode cX6_set 6 = .ok (.if_icmp .gt 20, 3) := by decide +kernel
theorem dX6_set_9 : decode cX6_set 9 = .ok (.iload_n 2, 1) := by decide +kernel
theorem dX6_set_10 : decode cX6_set 10 = .ok (.ifCond .lt 16, 3) := by decide +kernel
theorem dX6_set_13 : decode cX6_set 13 = .ok (.iload_n 2, 1) := by decide +kernel
theorem dX6_set_14 : decode cX6_set 14 = .ok (.iload_n 1, 1) := by decide +kernel
theorem dX6_set_15 : decode cX6_set 15 = .ok (.ifCond .ne 7, 3) := by decide +kernel
theorem dX6_set_18 : decode cX6_set 18 = .ok (.iconst 2, 1) := by decide +kernel
theorem dX6_set_19 : decode cX6_set 19 = .ok (.goto 4, 3) := by decide +kernel
theorem dX6_set_22 : decode cX6_set 22 = .ok (.iconst 1, 1) := by decide +kernel
theorem dX6_set_23 : decode cX6_set 23 = .ok (.if_icmp .le 7, 3) := by decide +kernel
theorem dX6_set_26 : decode cX6_set 26 = .ok (.sipush (-1002), 3) := by decide +kernel
theorem dX6_set_29 : decode cX6_set 29 = .ok (.ireturn, 1) := by decide +kernel
theorem dX6_set_30 : decode cX6_set 30 = .ok (.iload_n 1, 1) := by decide +kernel
theorem dX6_set_31 : decode cX6_set 31 = .ok (.ifCond .ne 13, 3) := by decide +kernel
theorem dX6_set_34 : decode cX6_set 34 = .ok (.aload_n 0, 1) := by decide +kernel
theorem dX6_set_35 : decode cX6_set 35 = .ok (.getfield 10, 3) := by decide +kernel
theorem dX6_set_38 : decode cX6_set 38 = .ok (.getfield 172, 3) := by decide +kernel
theorem dX6_set_41 : decode cX6_set 41 = .ok (.goto 10, 3) := by decide +kernel
theorem dX6_set_44 : decode cX6_set 44 = .ok (.aload_n 0, 1) := by decide +kernel
theorem dX6_set_45 : decode cX6_set 45 = .ok (.getfield 10, 3) := by decide +kernel
theorem dX6_set_48 : decode cX6_set 48 = .ok (.getfield 106, 3) := by decide +kernel
theorem dX6_set_51 : decode cX6_set 51 = .ok (.istore_n 3, 1) := by decide +kernel
theorem dX6_set_52 : decode cX6_set 52 = .ok (.iload_n 3, 1) := by decide +kernel
theorem dX6_set_53 : decode cX6_set 53 = .ok (.iload_n 2, 1) := by decide +kernel
theorem dX6_set_54 : decode cX6_set 54 = .ok (.if_icmp .ne 7, 3) := by decide +kernel
theorem dX6_set_57 : decode cX6_set 57 = .ok (.sipush (-1005), 3) := by decide +kernel
theorem dX6_set_60 : decode cX6_set 60 = .ok (.ireturn, 1) := by decide +kernel
theorem dX6_set_61 : decode cX6_set 61 = .ok (.aload_n 0, 1) := by decide +kernel
theorem dX6_set_62 : decode cX6_set 62 = .ok (.getfield 19, 3) := by decide +kernel
theorem dX6_set_65 : decode cX6_set 65 = .ok (.aload_n 0, 1) := by decide +kernel
theorem dX6_set_66 : decode cX6_set 66 = .ok (.getfield 10, 3) := by decide +kernel
theorem dX6_set_69 : decode cX6_set 69 = .ok (.invokevirtual 66, 3) := by decide +kernel
theorem dX6_set_72 : decode cX6_set 72 = .ok (.iload_n 1, 1) := by decide +kernel
theorem dX6_set_73 : decode cX6_set 73 = .ok (.ifCond .ne 14, 3) := by decide +kernel
theorem dX6_set_76 : decode cX6_set 76 = .ok (.aload_n 0, 1) := by decide +kernel
theorem dX6_set_77 : decode cX6_set 77 = .ok (.getfield 10, 3) := by decide +kernel
theorem dX6_set_80 : decode cX6_set 80 = .ok (.iload_n 2, 1) := by decide +kernel
theorem dX6_set_81 : decode cX6_set 81 = .ok (.putfield 172, 3) := by decide +kernel
theorem dX6_set_84 : decode cX6_set 84 = .ok (.goto 11, 3) := by decide +kernel
theorem dX6_set_87 : decode cX6_set 87 = .ok (.aload_n 0, 1) := by decide +kernel
theorem dX6_set_88 : decode cX6_set 88 = .ok (.getfield 10, 3) := by decide +kernel
theorem dX6_set_91 : decode cX6_set 91 = .ok (.iload_n 2, 1) := by decide +kernel
theorem dX6_set_92 : decode cX6_set 92 = .ok (.putfield 106, 3) := by decide +kernel
theorem dX6_set_95 : decode cX6_set 95 = .ok (.iload_n 3, 1) := by decide +kernel
theorem dX6_set_96 : decode cX6_set 96 = .ok (.ireturn, 1) := by decide +kernel
theorem dX6_type_0 : decode cX6_type 0 = .ok (.aload_n 0, 1) := by decide +kernel
theorem dX6_type_1 : decode cX6_type 1 = .ok (.getfield 26, 3) := by decide +kernel
theorem dX6_type_4 : decode cX6_type 4 = .ok (.getfield 175, 3) := by decide +kernel
theorem dX6_type_7 : decode cX6_type 7 = .ok (.bipush 60, 2) := by decide +kernel
theorem dX6_type_9 : decode cX6_type 9 = .ok (.if_icmp .lt 7, 3) := by decide +kernel
theorem dX6_type_12 : decode cX6_type 12 = .ok (.sipush (-1003), 3) := by decide +kernel
theorem dX6_type_15 : decode cX6_type 15 = .ok (.ireturn, 1) := by decide +kernel
theorem dX6_type_16 : decode cX6_type 16 = .ok (.aload_n 0, 1) := by decide +kernel
theorem dX6_type_17 : decode cX6_type 17 = .ok (.getfield 26, 3) := by decide +kernel
theorem dX6_type_20 : decode cX6_type 20 = .ok (.iload_n 1, 1) := by decide +kernel
theorem dX6_type_21 : decode cX6_type 21 = .ok (.invokevirtual 178, 3) := by decide +kernel
theorem dX6_type_24 : decode cX6_type 24 = .ok (.aload_n 0, 1) := by decide +kernel
theorem dX6_type_25 : decode cX6_type 25 = .ok (.getfield 26, 3) := by decide +kernel
theorem dX6_type_28 : decode cX6_type 28 = .ok (.getfield 175, 3) := by decide +kernel
theorem dX6_type_31 : decode cX6_type 31 = .ok (.ireturn, 1) := by decide +kernel
theorem dX6_clearText_0 : decode cX6_clearText 0 = .ok (.aload_n 0, 1) := by decide +kernel
theorem dX6_clearText_1 : decode cX6_clearText 1 = .ok (.getfield 26, 3) := by decide +kernel
theorem dX6_clearText_4 : decode cX6_clearText 4 = .ok (.getfield 175, 3) := by decide +kernel
theorem dX6_clearText_7 : decode cX6_clearText 7 = .ok (.istore_n 1, 1) := by decide +kernel
theorem dX6_clearText_8 : decode cX6_clearText 8 = .ok (.aload_n 0, 1) := by decide +kernel
theorem dX6_clearText_9 : decode cX6_clearText 9 = .ok (.getfield 26, 3) := by decide +kernel
theorem dX6_clearText_12 : decode cX6_clearText 12 = .ok (.invokevirtual 182, 3) := by decide +kernel
theorem dX6_clearText_15 : decode cX6_clearText 15 = .ok (.iload_n 1, 1) := by decide +kernel
theorem dX6_clearText_16 : decode cX6_clearText 16 = .ok (.ireturn, 1) := by decide +kernel
theorem dX6_undo_0 : decode cX6_undo 0 = .ok (.aload_n 0, 1) := by decide +kernel
theorem dX6_undo_1 : decode cX6_undo 1 = .ok (.getfield 19, 3) := by decide +kernel
theorem dX6_undo_4 : decode cX6_undo 4 = .ok (.getfield 188, 3) := by decide +kernel
theorem dX6_undo_7 : decode cX6_undo 7 = .ok (.ifCond .ne 7, 3) := by decide +kernel
theorem dX6_undo_10 : decode cX6_undo 10 = .ok (.sipush (-1005), 3) := by decide +kernel
theorem dX6_undo_13 : decode cX6_undo 13 = .ok (.ireturn, 1) := by decide +kernel
theorem dX6_undo_14 : decode cX6_undo 14 = .ok (.aload_n 0, 1) := by decide +kernel
theorem dX6_undo_15 : decode cX6_undo 15 = .ok (.getfield 19, 3) := by decide +kernel
theorem dX6_undo_18 : decode cX6_undo 18 = .ok (.aload_n 0, 1) := by decide +kernel
theorem dX6_undo_19 : decode cX6_undo 19 = .ok (.getfield 10, 3) := by decide +kernel
theorem dX6_undo_22 : decode cX6_undo 22 = .ok (.invokevirtual 191, 3) := by decide +kernel
theorem dX6_undo_25 : decode cX6_undo 25 = .ok (.aload_n 0, 1) := by decide +kernel
theorem dX6_undo_26 : decode cX6_undo 26 = .ok (.getfield 19, 3) := by decide +kernel
theorem dX6_undo_29 : decode cX6_undo 29 = .ok (.getfield 188, 3) := by decide +kernel
theorem dX6_undo_32 : decode cX6_undo 32 = .ok (.ireturn, 1) := by decide +kernel
theorem dX6_row_0 : decode cX6_row 0 = .ok (.aload_n 0, 1) := by decide +kernel
theorem dX6_row_1 : decode cX6_row 1 = .ok (.getfield 10, 3) := by decide +kernel
theorem dX6_row_4 : decode cX6_row 4 = .ok (.getfield 53, 3) := by decide +kernel
theorem dX6_row_7 : decode cX6_row 7 = .ok (.iload_n 1, 1) := by decide +kernel
theorem dX6_row_8 : decode cX6_row 8 = .ok (.invokevirtual 74, 3) := by decide +kernel
theorem dX6_row_11 : decode cX6_row 11 = .ok (.ifCond .ne 7, 3) := by decide +kernel
theorem dX6_row_14 : decode cX6_row 14 = .ok (.sipush (-1001), 3) := by decide +kernel
theorem dX6_row_17 : decode cX6_row 17 = .ok (.ireturn, 1) := by decide +kernel
theorem dX6_row_18 : decode cX6_row 18 = .ok (.iload_n 2, 1) := by decide +kernel
theorem dX6_row_19 : decode cX6_row 19 = .ok (.tableswitch 105 0 4 #[33, 45, 57, 69, 88], 33) := by decide +kernel
theorem dX6_row_52 : decode cX6_row 52 = .ok (.aload_n 0, 1) := by decide +kernel
theorem dX6_row_53 : decode cX6_row 53 = .ok (.getfield 10, 3) := by decide +kernel
theorem dX6_row_56 : decode cX6_row 56 = .ok (.getfield 53, 3) := by decide +kernel
theorem dX6_row_59 : decode cX6_row 59 = .ok (.iload_n 1, 1) := by decide +kernel
theorem dX6_row_60 : decode cX6_row 60 = .ok (.invokevirtual 81, 3) := by decide +kernel
theorem dX6_row_63 : decode cX6_row 63 = .ok (.ireturn, 1) := by decide +kernel
theorem dX6_row_64 : decode cX6_row 64 = .ok (.aload_n 0, 1) := by decide +kernel
theorem dX6_row_65 : decode cX6_row 65 = .ok (.getfield 10, 3) := by decide +kernel
theorem dX6_row_68 : decode cX6_row 68 = .ok (.getfield 53, 3) := by decide +kernel
theorem dX6_row_71 : decode cX6_row 71 = .ok (.iload_n 1, 1) := by decide +kernel
theorem dX6_row_72 : decode cX6_row 72 = .ok (.invokevirtual 207, 3) := by decide +kernel
theorem dX6_row_75 : decode cX6_row 75 = .ok (.ireturn, 1) := by decide +kernel
theorem dX6_row_76 : decode cX6_row 76 = .ok (.aload_n 0, 1) := by decide +kernel
theorem dX6_row_77 : decode cX6_row 77 = .ok (.getfield 10, 3) := by decide +kernel
theorem dX6_row_80 : decode cX6_row 80 = .ok (.getfield 53, 3) := by decide +kernel
theorem dX6_row_83 : decode cX6_row 83 = .ok (.iload_n 1, 1) := by decide +kernel
theorem dX6_row_84 : decode cX6_row 84 = .ok (.invokevirtual 84, 3) := by decide +kernel
theorem dX6_row_87 : decode cX6_row 87 = .ok (.ireturn, 1) := by decide +kernel
theorem dX6_row_88 : decode cX6_row 88 = .ok (.aload_n 0, 1) := by decide +kernel
theorem dX6_row_89 : decode cX6_row 89 = .ok (.getfield 10, 3) := by decide +kernel
theorem dX6_row_92 : decode cX6_row 92 = .ok (.aload_n 0, 1) := by decide +kernel
theorem dX6_row_93 : decode cX6_row 93 = .ok (.getfield 10, 3) := by decide +kernel
theorem dX6_row_96 : decode cX6_row 96 = .ok (.getfield 53, 3) := by decide +kernel
theorem dX6_row_99 : decode cX6_row 99 = .ok (.iload_n 1, 1) := by decide +kernel
theorem dX6_row_100 : decode cX6_row 100 = .ok (.invokevirtual 81, 3) := by decide +kernel
theorem dX6_row_103 : decode cX6_row 103 = .ok (.invokevirtual 49, 3) := by decide +kernel
theorem dX6_row_106 : decode cX6_row 106 = .ok (.ireturn, 1) := by decide +kernel
theorem dX6_row_107 : decode cX6_row 107 = .ok (.aload_n 0, 1) := by decide +kernel
theorem dX6_row_108 : decode cX6_row 108 = .ok (.getfield 10, 3) := by decide +kernel
theorem dX6_row_111 : decode cX6_row 111 = .ok (.iload_n 1, 1) := by decide +kernel
theorem dX6_row_112 : decode cX6_row 112 = .ok (.invokevirtual 210, 3) := by decide +kernel
theorem dX6_row_115 : decode cX6_row 115 = .ok (.ifCond .eq 7, 3) := by decide +kernel
theorem dX6_row_118 : decode cX6_row 118 = .ok (.iconst 1, 1) := by decide +kernel
theorem dX6_row_119 : decode cX6_row 119 = .ok (.goto 4, 3) := by decide +kernel
theorem dX6_row_122 : decode cX6_row 122 = .ok (.iconst 0, 1) := by decide +kernel
theorem dX6_row_123 : decode cX6_row 123 = .ok (.ireturn, 1) := by decide +kernel
theorem dX6_row_124 : decode cX6_row 124 = .ok (.sipush (-1002), 3) := by decide +kernel
theorem dX6_row_127 : decode cX6_row 127 = .ok (.ireturn, 1) := by decide +kernel
theorem dX6_slice_0 : decode cX6_slice 0 = .ok (.aload_n 0, 1) := by decide +kernel
theorem dX6_slice_1 : decode cX6_slice 1 = .ok (.iload_n 1, 1) := by decide +kernel
theorem dX6_slice_2 : decode cX6_slice 2 = .ok (.invokevirtual 213, 3) := by decide +kernel
theorem dX6_slice_5 : decode cX6_slice 5 = .ok (.ifCond .ne 7, 3) := by decide +kernel
theorem dX6_slice_8 : decode cX6_slice 8 = .ok (.sipush (-1001), 3) := by decide +kernel
theorem dX6_slice_11 : decode cX6_slice 11 = .ok (.ireturn, 1) := by decide +kernel
theorem dX6_slice_12 : decode cX6_slice 12 = .ok (.aload_n 0, 1) := by decide +kernel
theorem dX6_slice_13 : decode cX6_slice 13 = .ok (.getfield 10, 3) := by decide +kernel
theorem dX6_slice_16 : decode cX6_slice 16 = .ok (.getfield 97, 3) := by decide +kernel
theorem dX6_slice_19 : decode cX6_slice 19 = .ok (.iload_n 1, 1) := by decide +kernel
theorem dX6_slice_20 : decode cX6_slice 20 = .ok (.invokevirtual 130, 3) := by decide +kernel
theorem dX6_slice_23 : decode cX6_slice 23 = .ok (.istore_n 3, 1) := by decide +kernel
theorem dX6_slice_24 : decode cX6_slice 24 = .ok (.iload_n 2, 1) := by decide +kernel
theorem dX6_slice_25 : decode cX6_slice 25 = .ok (.tableswitch 152 0 6 #[43, 68, 93, 105, 112, 131, 143], 43) := by decide +kernel
theorem dX6_slice_68 : decode cX6_slice 68 = .ok (.iload_n 3, 1) := by decide +kernel
theorem dX6_slice_69 : decode cX6_slice 69 = .ok (.sipush (-1005), 3) := by decide +kernel
theorem dX6_slice_72 : decode cX6_slice 72 = .ok (.if_icmp .ne 9, 3) := by decide +kernel
theorem dX6_slice_75 : decode cX6_slice 75 = .ok (.sipush (-1005), 3) := by decide +kernel
theorem dX6_slice_78 : decode cX6_slice 78 = .ok (.goto 14, 3) := by decide +kernel
theorem dX6_slice_81 : decode cX6_slice 81 = .ok (.aload_n 0, 1) := by decide +kernel
theorem dX6_slice_82 : decode cX6_slice 82 = .ok (.getfield 10, 3) := by decide +kernel
theorem dX6_slice_85 : decode cX6_slice 85 = .ok (.getfield 97, 3) := by decide +kernel
theorem dX6_slice_88 : decode cX6_slice 88 = .ok (.iload_n 3, 1) := by decide +kernel
theorem dX6_slice_89 : decode cX6_slice 89 = .ok (.invokevirtual 133, 3) := by decide +kernel
theorem dX6_slice_92 : decode cX6_slice 92 = .ok (.ireturn, 1) := by decide +kernel
theorem dX6_slice_93 : decode cX6_slice 93 = .ok (.iload_n 3, 1) := by decide +kernel
theorem dX6_slice_94 : decode cX6_slice 94 = .ok (.sipush (-1005), 3) := by decide +kernel
theorem dX6_slice_97 : decode cX6_slice 97 = .ok (.if_icmp .ne 9, 3) := by decide +kernel
theorem dX6_slice_100 : decode cX6_slice 100 = .ok (.sipush (-1005), 3) := by decide +kernel
theorem dX6_slice_103 : decode cX6_slice 103 = .ok (.goto 14, 3) := by decide +kernel
theorem dX6_slice_106 : decode cX6_slice 106 = .ok (.aload_n 0, 1) := by decide +kernel
theorem dX6_slice_107 : decode cX6_slice 107 = .ok (.getfield 10, 3) := by decide +kernel
theorem dX6_slice_110 : decode cX6_slice 110 = .ok (.getfield 97, 3) := by decide +kernel
theorem dX6_slice_113 : decode cX6_slice 113 = .ok (.iload_n 3, 1) := by decide +kernel
theorem dX6_slice_114 : decode cX6_slice 114 = .ok (.invokevirtual 136, 3) := by decide +kernel
theorem dX6_slice_117 : decode cX6_slice 117 = .ok (.ireturn, 1) := by decide +kernel
theorem dX6_slice_118 : decode cX6_slice 118 = .ok (.aload_n 0, 1) := by decide +kernel
theorem dX6_slice_119 : decode cX6_slice 119 = .ok (.getfield 10, 3) := by decide +kernel
theorem dX6_slice_122 : decode cX6_slice 122 = .ok (.getfield 53, 3) := by decide +kernel
theorem dX6_slice_125 : decode cX6_slice 125 = .ok (.iload_n 1, 1) := by decide +kernel
theorem dX6_slice_126 : decode cX6_slice 126 = .ok (.invokevirtual 57, 3) := by decide +kernel
theorem dX6_slice_129 : decode cX6_slice 129 = .ok (.ireturn, 1) := by decide +kernel
theorem dX6_slice_130 : decode cX6_slice 130 = .ok (.aload_n 0, 1) := by decide +kernel
theorem dX6_slice_131 : decode cX6_slice 131 = .ok (.iload_n 1, 1) := by decide +kernel
theorem dX6_slice_132 : decode cX6_slice 132 = .ok (.iconst 0, 1) := by decide +kernel
theorem dX6_slice_133 : decode cX6_slice 133 = .ok (.invokevirtual 216, 3) := by decide +kernel
theorem dX6_slice_136 : decode cX6_slice 136 = .ok (.ireturn, 1) := by decide +kernel
theorem dX6_slice_137 : decode cX6_slice 137 = .ok (.aload_n 0, 1) := by decide +kernel
theorem dX6_slice_138 : decode cX6_slice 138 = .ok (.iload_n 1, 1) := by decide +kernel
theorem dX6_slice_139 : decode cX6_slice 139 = .ok (.aload_n 0, 1) := by decide +kernel
theorem dX6_slice_140 : decode cX6_slice 140 = .ok (.getfield 10, 3) := by decide +kernel
theorem dX6_slice_143 : decode cX6_slice 143 = .ok (.getfield 53, 3) := by decide +kernel
theorem dX6_slice_146 : decode cX6_slice 146 = .ok (.iload_n 1, 1) := by decide +kernel
theorem dX6_slice_147 : decode cX6_slice 147 = .ok (.invokevirtual 57, 3) := by decide +kernel
theorem dX6_slice_150 : decode cX6_slice 150 = .ok (.iconst 1, 1) := by decide +kernel
theorem dX6_slice_151 : decode cX6_slice 151 = .ok (.isub, 1) := by decide +kernel
theorem dX6_slice_152 : decode cX6_slice 152 = .ok (.invokevirtual 216, 3) := by decide +kernel
theorem dX6_slice_155 : decode cX6_slice 155 = .ok (.ireturn, 1) := by decide +kernel
theorem dX6_slice_156 : decode cX6_slice 156 = .ok (.aload_n 0, 1) := by decide +kernel
theorem dX6_slice_157 : decode cX6_slice 157 = .ok (.getfield 10, 3) := by decide +kernel
theorem dX6_slice_160 : decode cX6_slice 160 = .ok (.getfield 53, 3) := by decide +kernel
theorem dX6_slice_163 : decode cX6_slice 163 = .ok (.iload_n 1, 1) := by decide +kernel
theorem dX6_slice_164 : decode cX6_slice 164 = .ok (.invokevirtual 219, 3) := by decide +kernel
theorem dX6_slice_167 : decode cX6_slice 167 = .ok (.ireturn, 1) := by decide +kernel
theorem dX6_slice_168 : decode cX6_slice 168 = .ok (.aload_n 0, 1) := by decide +kernel
theorem dX6_slice_169 : decode cX6_slice 169 = .ok (.getfield 10, 3) := by decide +kernel
theorem dX6_slice_172 : decode cX6_slice 172 = .ok (.iload_n 1, 1) := by decide +kernel
theorem dX6_slice_173 : decode cX6_slice 173 = .ok (.invokevirtual 222, 3) := by decide +kernel
theorem dX6_slice_176 : decode cX6_slice 176 = .ok (.ireturn, 1) := by decide +kernel
theorem dX6_slice_177 : decode cX6_slice 177 = .ok (.sipush (-1002), 3) := by decide +kernel
theorem dX6_slice_180 : decode cX6_slice 180 = .ok (.ireturn, 1) := by decide +kernel
theorem dX6_ordered_0 : decode cX6_ordered 0 = .ok (.iload_n 1, 1) := by decide +kernel
theorem dX6_ordered_1 : decode cX6_ordered 1 = .ok (.ifCond .ge 7, 3) := by decide +kernel
theorem dX6_ordered_4 : decode cX6_ordered 4 = .ok (.sipush (-1002), 3) := by decide +kernel
theorem dX6_ordered_7 : decode cX6_ordered 7 = .ok (.ireturn, 1) := by decide +kernel
theorem dX6_ordered_8 : decode cX6_ordered 8 = .ok (.iload_n 1, 1) := by decide +kernel
theorem dX6_ordered_9 : decode cX6_ordered 9 = .ok (.aload_n 0, 1) := by decide +kernel
theorem dX6_ordered_10 : decode cX6_ordered 10 = .ok (.getfield 10, 3) := by decide +kernel
theorem dX6_ordered_13 : decode cX6_ordered 13 = .ok (.getfield 97, 3) := by decide +kernel
theorem dX6_ordered_16 : decode cX6_ordered 16 = .ok (.getfield 197, 3) := by decide +kernel
theorem dX6_ordered_19 : decode cX6_ordered 19 = .ok (.if_icmp .ge 17, 3) := by decide +kernel
theorem dX6_ordered_22 : decode cX6_ordered 22 = .ok (.aload_n 0, 1) := by decide +kernel
theorem dX6_ordered_23 : decode cX6_ordered 23 = .ok (.getfield 10, 3) := by decide +kernel
theorem dX6_ordered_26 : decode cX6_ordered 26 = .ok (.getfield 97, 3) := by decide +kernel
theorem dX6_ordered_29 : decode cX6_ordered 29 = .ok (.iload_n 1, 1) := by decide +kernel
theorem dX6_ordered_30 : decode cX6_ordered 30 = .ok (.invokevirtual 225, 3) := by decide +kernel
theorem dX6_ordered_33 : decode cX6_ordered 33 = .ok (.goto 6, 3) := by decide +kernel
theorem dX6_ordered_36 : decode cX6_ordered 36 = .ok (.sipush (-1005), 3) := by decide +kernel
theorem dX6_ordered_39 : decode cX6_ordered 39 = .ok (.ireturn, 1) := by decide +kernel
theorem dX6_lies_0 : decode cX6_lies 0 = .ok (.aload_n 0, 1) := by decide +kernel
theorem dX6_lies_1 : decode cX6_lies 1 = .ok (.iload_n 1, 1) := by decide +kernel
theorem dX6_lies_2 : decode cX6_lies 2 = .ok (.invokevirtual 213, 3) := by decide +kernel
theorem dX6_lies_5 : decode cX6_lies 5 = .ok (.ifCond .ne 7, 3) := by decide +kernel
theorem dX6_lies_8 : decode cX6_lies 8 = .ok (.sipush (-1001), 3) := by decide +kernel
theorem dX6_lies_11 : decode cX6_lies 11 = .ok (.ireturn, 1) := by decide +kernel
theorem dX6_lies_12 : decode cX6_lies 12 = .ok (.iload_n 2, 1) := by decide +kernel
theorem dX6_lies_13 : decode cX6_lies 13 = .ok (.ifCond .ge 7, 3) := by decide +kernel
theorem dX6_lies_16 : decode cX6_lies 16 = .ok (.sipush (-1002), 3) := by decide +kernel
theorem dX6_lies_19 : decode cX6_lies 19 = .ok (.ireturn, 1) := by decide +kernel
theorem dX6_lies_20 : decode cX6_lies 20 = .ok (.aload_n 0, 1) := by decide +kernel
theorem dX6_lies_21 : decode cX6_lies 21 = .ok (.getfield 10, 3) := by decide +kernel
theorem dX6_lies_24 : decode cX6_lies 24 = .ok (.getfield 53, 3) := by decide +kernel
theorem dX6_lies_27 : decode cX6_lies 27 = .ok (.iload_n 1, 1) := by decide +kernel
theorem dX6_lies_28 : decode cX6_lies 28 = .ok (.iload_n 2, 1) := by decide +kernel
theorem dX6_lies_29 : decode cX6_lies 29 = .ok (.invokevirtual 228, 3) := by decide +kernel
theorem dX6_lies_32 : decode cX6_lies 32 = .ok (.ireturn, 1) := by decide +kernel
theorem dX6_belongs_0 : decode cX6_belongs 0 = .ok (.iload_n 1, 1) := by decide +kernel
theorem dX6_belongs_1 : decode cX6_belongs 1 = .ok (.invokestatic 42, 3) := by decide +kernel
theorem dX6_belongs_4 : decode cX6_belongs 4 = .ok (.ifCond .eq 14, 3) := by decide +kernel
theorem dX6_belongs_7 : decode cX6_belongs 7 = .ok (.aload_n 0, 1) := by decide +kernel
theorem dX6_belongs_8 : decode cX6_belongs 8 = .ok (.getfield 10, 3) := by decide +kernel
theorem dX6_belongs_11 : decode cX6_belongs 11 = .ok (.iload_n 1, 1) := by decide +kernel
theorem dX6_belongs_12 : decode cX6_belongs 12 = .ok (.invokevirtual 49, 3) := by decide +kernel
theorem dX6_belongs_15 : decode cX6_belongs 15 = .ok (.goto 6, 3) := by decide +kernel
theorem dX6_belongs_18 : decode cX6_belongs 18 = .ok (.sipush (-1002), 3) := by decide +kernel
theorem dX6_belongs_21 : decode cX6_belongs 21 = .ok (.ireturn, 1) := by decide +kernel
theorem dX6_gap_0 : decode cX6_gap 0 = .ok (.iload_n 1, 1) := by decide +kernel
theorem dX6_gap_1 : decode cX6_gap 1 = .ok (.ifCond .lt 12, 3) := by decide +kernel
theorem dX6_gap_4 : decode cX6_gap 4 = .ok (.iload_n 2, 1) := by decide +kernel
theorem dX6_gap_5 : decode cX6_gap 5 = .ok (.ifCond .lt 8, 3) := by decide +kernel
theorem dX6_gap_8 : decode cX6_gap 8 = .ok (.iload_n 2, 1) := by decide +kernel
theorem dX6_gap_9 : decode cX6_gap 9 = .ok (.iconst 1, 1) := by decide +kernel
theorem dX6_gap_10 : decode cX6_gap 10 = .ok (.if_icmp .le 7, 3) := by decide +kernel
theorem dX6_gap_13 : decode cX6_gap 13 = .ok (.sipush (-1002), 3) := by decide +kernel
theorem dX6_gap_16 : decode cX6_gap 16 = .ok (.ireturn, 1) := by decide +kernel
theorem dX6_gap_17 : decode cX6_gap 17 = .ok (.aload_n 0, 1) := by decide +kernel
theorem dX6_gap_18 : decode cX6_gap 18 = .ok (.getfield 10, 3) := by decide +kernel
theorem dX6_gap_21 : decode cX6_gap 21 = .ok (.getfield 97, 3) := by decide +kernel
theorem dX6_gap_24 : decode cX6_gap 24 = .ok (.iload_n 1, 1) := by decide +kernel
theorem dX6_gap_25 : decode cX6_gap 25 = .ok (.invokevirtual 231, 3) := by decide +kernel
theorem dX6_gap_28 : decode cX6_gap 28 = .ok (.istore_n 3, 1) := by decide +kernel
theorem dX6_gap_29 : decode cX6_gap 29 = .ok (.iload_n 3, 1) := by decide +kernel
theorem dX6_gap_30 : decode cX6_gap 30 = .ok (.sipush (-1005), 3) := by decide +kernel
theorem dX6_gap_33 : decode cX6_gap 33 = .ok (.if_icmp .ne 7, 3) := by decide +kernel
theorem dX6_gap_36 : decode cX6_gap 36 = .ok (.sipush (-1005), 3) := by decide +kernel
theorem dX6_gap_39 : decode cX6_gap 39 = .ok (.ireturn, 1) := by decide +kernel
theorem dX6_gap_40 : decode cX6_gap 40 = .ok (.iload_n 2, 1) := by decide +kernel
theorem dX6_gap_41 : decode cX6_gap 41 = .ok (.ifCond .ne 17, 3) := by decide +kernel
theorem dX6_gap_44 : decode cX6_gap 44 = .ok (.aload_n 0, 1) := by decide +kernel
theorem dX6_gap_45 : decode cX6_gap 45 = .ok (.getfield 10, 3) := by decide +kernel
theorem dX6_gap_48 : decode cX6_gap 48 = .ok (.getfield 97, 3) := by decide +kernel
theorem dX6_gap_51 : decode cX6_gap 51 = .ok (.iload_n 3, 1) := by decide +kernel
theorem dX6_gap_52 : decode cX6_gap 52 = .ok (.invokevirtual 234, 3) := by decide +kernel
theorem dX6_gap_55 : decode cX6_gap 55 = .ok (.goto 16, 3) := by decide +kernel
theorem dX6_gap_58 : decode cX6_gap 58 = .ok (.aload_n 0, 1) := by decide +kernel
theorem dX6_gap_59 : decode cX6_gap 59 = .ok (.getfield 10, 3) := by decide +kernel
theorem dX6_gap_62 : decode cX6_gap 62 = .ok (.getfield 97, 3) := by decide +kernel
theorem dX6_gap_65 : decode cX6_gap 65 = .ok (.iload_n 3, 1) := by decide +kernel
theorem dX6_gap_66 : decode cX6_gap 66 = .ok (.invokevirtual 237, 3) := by decide +kernel
theorem dX6_gap_69 : decode cX6_gap 69 = .ok (.iconst 1, 1) := by decide +kernel
theorem dX6_gap_70 : decode cX6_gap 70 = .ok (.isub, 1) := by decide +kernel
theorem dX6_gap_71 : decode cX6_gap 71 = .ok (.ireturn, 1) := by decide +kernel
theorem dX6_stray_0 : decode cX6_stray 0 = .ok (.iload_n 1, 1) := by decide +kernel
theorem dX6_stray_1 : decode cX6_stray 1 = .ok (.ifCond .ge 7, 3) := by decide +kernel
theorem dX6_stray_4 : decode cX6_stray 4 = .ok (.sipush (-1002), 3) := by decide +kernel
theorem dX6_stray_7 : decode cX6_stray 7 = .ok (.ireturn, 1) := by decide +kernel
theorem dX6_stray_8 : decode cX6_stray 8 = .ok (.iconst 0, 1) := by decide +kernel
theorem dX6_stray_9 : decode cX6_stray 9 = .ok (.istore_n 2, 1) := by decide +kernel
theorem dX6_stray_10 : decode cX6_stray 10 = .ok (.iconst 0, 1) := by decide +kernel
theorem dX6_stray_11 : decode cX6_stray 11 = .ok (.istore_n 3, 1) := by decide +kernel
theorem dX6_stray_12 : decode cX6_stray 12 = .ok (.iload_n 3, 1) := by decide +kernel
theorem dX6_stray_13 : decode cX6_stray 13 = .ok (.aload_n 0, 1) := by decide +kernel
theorem dX6_stray_14 : decode cX6_stray 14 = .ok (.getfield 10, 3) := by decide +kernel
theorem dX6_stray_17 : decode cX6_stray 17 = .ok (.getfield 53, 3) := by decide +kernel
theorem dX6_stray_20 : decode cX6_stray 20 = .ok (.getfield 62, 3) := by decide +kernel
theorem dX6_stray_23 : decode cX6_stray 23 = .ok (.if_icmp .ge 30, 3) := by decide +kernel
theorem dX6_stray_26 : decode cX6_stray 26 = .ok (.aload_n 0, 1) := by decide +kernel
theorem dX6_stray_27 : decode cX6_stray 27 = .ok (.getfield 10, 3) := by decide +kernel
theorem dX6_stray_30 : decode cX6_stray 30 = .ok (.iload_n 3, 1) := by decide +kernel
theorem dX6_stray_31 : decode cX6_stray 31 = .ok (.invokevirtual 210, 3) := by decide +kernel
theorem dX6_stray_34 : decode cX6_stray 34 = .ok (.ifCond .eq 13, 3) := by decide +kernel
theorem dX6_stray_37 : decode cX6_stray 37 = .ok (.iload_n 2, 1) := by decide +kernel
theorem dX6_stray_38 : decode cX6_stray 38 = .ok (.iload_n 1, 1) := by decide +kernel
theorem dX6_stray_39 : decode cX6_stray 39 = .ok (.if_icmp .ne 5, 3) := by decide +kernel
theorem dX6_stray_42 : decode cX6_stray 42 = .ok (.iload_n 3, 1) := by decide +kernel
theorem dX6_stray_43 : decode cX6_stray 43 = .ok (.ireturn, 1) := by decide +kernel
theorem dX6_stray_44 : decode cX6_stray 44 = .ok (.iinc 2 1, 3) := by decide +kernel
theorem dX6_stray_47 : decode cX6_stray 47 = .ok (.iinc 3 1, 3) := by decide +kernel
theorem dX6_stray_50 : decode cX6_stray 50 = .ok (.goto (-38), 3) := by decide +kernel
theorem dX6_stray_53 : decode cX6_stray 53 = .ok (.sipush (-1005), 3) := by decide +kernel
theorem dX6_stray_56 : decode cX6_stray 56 = .ok (.ireturn, 1) := by decide +kernel
theorem dX6_count_0 : decode cX6_count 0 = .ok (.iload_n 1, 1) := by decide +kernel
theorem dX6_count_1 : decode cX6_count 1 = .ok (.tableswitch 202 0 12 #[67, 78, 89, 100, 113, 124, 132, 148, 159, 170, 178, 186, 194], 67) := by decide +kernel
theorem dX6_count_68 : decode cX6_count 68 = .ok (.aload_n 0, 1) := by decide +kernel
theorem dX6_count_69 : decode cX6_count 69 = .ok (.getfield 10, 3) := by decide +kernel
theorem dX6_count_72 : decode cX6_count 72 = .ok (.getfield 97, 3) := by decide +kernel
theorem dX6_count_75 : decode cX6_count 75 = .ok (.getfield 197, 3) := by decide +kernel
theorem dX6_count_78 : decode cX6_count 78 = .ok (.ireturn, 1) := by decide +kernel
theorem dX6_count_79 : decode cX6_count 79 = .ok (.aload_n 0, 1) := by decide +kernel
theorem dX6_count_80 : decode cX6_count 80 = .ok (.getfield 10, 3) := by decide +kernel
theorem dX6_count_83 : decode cX6_count 83 = .ok (.getfield 97, 3) := by decide +kernel
theorem dX6_count_86 : decode cX6_count 86 = .ok (.getfield 240, 3) := by decide +kernel
theorem dX6_count_89 : decode cX6_count 89 = .ok (.ireturn, 1) := by decide +kernel
theorem dX6_count_90 : decode cX6_count 90 = .ok (.aload_n 0, 1) := by decide +kernel
theorem dX6_count_91 : decode cX6_count 91 = .ok (.getfield 10, 3) := by decide +kernel
theorem dX6_count_94 : decode cX6_count 94 = .ok (.getfield 53, 3) := by decide +kernel
theorem dX6_count_97 : decode cX6_count 97 = .ok (.invokevirtual 241, 3) := by decide +kernel
theorem dX6_count_100 : decode cX6_count 100 = .ok (.ireturn, 1) := by decide +kernel
theorem dX6_count_101 : decode cX6_count 101 = .ok (.aload_n 0, 1) := by decide +kernel
theorem dX6_count_102 : decode cX6_count 102 = .ok (.getfield 10, 3) := by decide +kernel
theorem dX6_count_105 : decode cX6_count 105 = .ok (.getfield 53, 3) := by decide +kernel
theorem dX6_count_108 : decode cX6_count 108 = .ok (.bipush 61, 2) := by decide +kernel
theorem dX6_count_110 : decode cX6_count 110 = .ok (.invokevirtual 57, 3) := by decide +kernel
theorem dX6_count_113 : decode cX6_count 113 = .ok (.ireturn, 1) := by decide +kernel
theorem dX6_count_114 : decode cX6_count 114 = .ok (.aload_n 0, 1) := by decide +kernel
theorem dX6_count_115 : decode cX6_count 115 = .ok (.getfield 10, 3) := by decide +kernel
theorem dX6_count_118 : decode cX6_count 118 = .ok (.getfield 53, 3) := by decide +kernel
theorem dX6_count_121 : decode cX6_count 121 = .ok (.getfield 62, 3) := by decide +kernel
theorem dX6_count_124 : decode cX6_count 124 = .ok (.ireturn, 1) := by decide +kernel
theorem dX6_count_125 : decode cX6_count 125 = .ok (.aload_n 0, 1) := by decide +kernel
theorem dX6_count_126 : decode cX6_count 126 = .ok (.getfield 10, 3) := by decide +kernel
theorem dX6_count_129 : decode cX6_count 129 = .ok (.invokevirtual 160, 3) := by decide +kernel
theorem dX6_count_132 : decode cX6_count 132 = .ok (.ireturn, 1) := by decide +kernel
theorem dX6_count_133 : decode cX6_count 133 = .ok (.aload_n 0, 1) := by decide +kernel
theorem dX6_count_134 : decode cX6_count 134 = .ok (.getfield 10, 3) := by decide +kernel
theorem dX6_count_137 : decode cX6_count 137 = .ok (.getfield 152, 3) := by decide +kernel
theorem dX6_count_140 : decode cX6_count 140 = .ok (.ifCond .eq 7, 3) := by decide +kernel
theorem dX6_count_143 : decode cX6_count 143 = .ok (.iconst 1, 1) := by decide +kernel
theorem dX6_count_144 : decode cX6_count 144 = .ok (.goto 4, 3) := by decide +kernel
theorem dX6_count_147 : decode cX6_count 147 = .ok (.iconst 0, 1) := by decide +kernel
theorem dX6_count_148 : decode cX6_count 148 = .ok (.ireturn, 1) := by decide +kernel
theorem dX6_count_149 : decode cX6_count 149 = .ok (.aload_n 0, 1) := by decide +kernel
theorem dX6_count_150 : decode cX6_count 150 = .ok (.getfield 10, 3) := by decide +kernel
theorem dX6_count_153 : decode cX6_count 153 = .ok (.getfield 97, 3) := by decide +kernel
theorem dX6_count_156 : decode cX6_count 156 = .ok (.invokevirtual 244, 3) := by decide +kernel
theorem dX6_count_159 : decode cX6_count 159 = .ok (.ireturn, 1) := by decide +kernel
theorem dX6_count_160 : decode cX6_count 160 = .ok (.aload_n 0, 1) := by decide +kernel
theorem dX6_count_161 : decode cX6_count 161 = .ok (.getfield 10, 3) := by decide +kernel
theorem dX6_count_164 : decode cX6_count 164 = .ok (.getfield 97, 3) := by decide +kernel
theorem dX6_count_167 : decode cX6_count 167 = .ok (.invokevirtual 156, 3) := by decide +kernel
theorem dX6_count_170 : decode cX6_count 170 = .ok (.ireturn, 1) := by decide +kernel
theorem dX6_count_171 : decode cX6_count 171 = .ok (.aload_n 0, 1) := by decide +kernel
theorem dX6_count_172 : decode cX6_count 172 = .ok (.getfield 10, 3) := by decide +kernel
theorem dX6_count_175 : decode cX6_count 175 = .ok (.getfield 172, 3) := by decide +kernel
theorem dX6_count_178 : decode cX6_count 178 = .ok (.ireturn, 1) := by decide +kernel
theorem dX6_count_179 : decode cX6_count 179 = .ok (.aload_n 0, 1) := by decide +kernel
theorem dX6_count_180 : decode cX6_count 180 = .ok (.getfield 10, 3) := by decide +kernel
theorem dX6_count_183 : decode cX6_count 183 = .ok (.getfield 106, 3) := by decide +kernel
theorem dX6_count_186 : decode cX6_count 186 = .ok (.ireturn, 1) := by decide +kernel
theorem dX6_count_187 : decode cX6_count 187 = .ok (.aload_n 0, 1) := by decide +kernel
theorem dX6_count_188 : decode cX6_count 188 = .ok (.getfield 19, 3) := by decide +kernel
theorem dX6_count_191 : decode cX6_count 191 = .ok (.getfield 188, 3) := by decide +kernel
theorem dX6_count_194 : decode cX6_count 194 = .ok (.ireturn, 1) := by decide +kernel
theorem dX6_count_195 : decode cX6_count 195 = .ok (.aload_n 0, 1) := by decide +kernel
theorem dX6_count_196 : decode cX6_count 196 = .ok (.getfield 26, 3) := by decide +kernel
theorem dX6_count_199 : decode cX6_count 199 = .ok (.getfield 175, 3) := by decide +kernel
theorem dX6_count_202 : decode cX6_count 202 = .ok (.ireturn, 1) := by decide +kernel
theorem dX6_count_203 : decode cX6_count 203 = .ok (.sipush (-1002), 3) := by decide +kernel
theorem dX6_count_206 : decode cX6_count 206 = .ok (.ireturn, 1) := by decide +kernel
theorem dX6_ask_0 : decode cX6_ask 0 = .ok (.aload_n 0, 1) := by decide +kernel
theorem dX6_ask_1 : decode cX6_ask 1 = .ok (.getfield 26, 3) := by decide +kernel
theorem dX6_ask_4 : decode cX6_ask 4 = .ok (.invokevirtual 247, 3) := by decide +kernel
theorem dX6_ask_7 : decode cX6_ask 7 = .ok (.ifCond .eq 7, 3) := by decide +kernel
theorem dX6_ask_10 : decode cX6_ask 10 = .ok (.sipush (-1001), 3) := by decide +kernel
theorem dX6_ask_13 : decode cX6_ask 13 = .ok (.ireturn, 1) := by decide +kernel
theorem dX6_ask_14 : decode cX6_ask 14 = .ok (.aload_n 0, 1) := by decide +kernel
theorem dX6_ask_15 : decode cX6_ask 15 = .ok (.aload_n 0, 1) := by decide +kernel
theorem dX6_ask_16 : decode cX6_ask 16 = .ok (.getfield 10, 3) := by decide +kernel
theorem dX6_ask_19 : decode cX6_ask 19 = .ok (.getfield 172, 3) := by decide +kernel
theorem dX6_ask_22 : decode cX6_ask 22 = .ok (.invokevirtual 250, 3) := by decide +kernel
theorem dX6_ask_25 : decode cX6_ask 25 = .ok (.iload_n 1, 1) := by decide +kernel
theorem dX6_ask_26 : decode cX6_ask 26 = .ok (.tableswitch 73 0 5 #[38, 43, 48, 53, 58, 63], 38) := by decide +kernel
theorem dX6_ask_64 : decode cX6_ask 64 = .ok (.aload_n 0, 1) := by decide +kernel
theorem dX6_ask_65 : decode cX6_ask 65 = .ok (.invokevirtual 253, 3) := by decide +kernel
theorem dX6_ask_68 : decode cX6_ask 68 = .ok (.ireturn, 1) := by decide +kernel
theorem dX6_ask_69 : decode cX6_ask 69 = .ok (.aload_n 0, 1) := by decide +kernel
theorem dX6_ask_70 : decode cX6_ask 70 = .ok (.invokevirtual 256, 3) := by decide +kernel
theorem dX6_ask_73 : decode cX6_ask 73 = .ok (.ireturn, 1) := by decide +kernel
theorem dX6_ask_74 : decode cX6_ask 74 = .ok (.aload_n 0, 1) := by decide +kernel
theorem dX6_ask_75 : decode cX6_ask 75 = .ok (.invokevirtual 259, 3) := by decide +kernel
theorem dX6_ask_78 : decode cX6_ask 78 = .ok (.ireturn, 1) := by decide +kernel
theorem dX6_ask_79 : decode cX6_ask 79 = .ok (.aload_n 0, 1) := by decide +kernel
theorem dX6_ask_80 : decode cX6_ask 80 = .ok (.invokevirtual 262, 3) := by decide +kernel
theorem dX6_ask_83 : decode cX6_ask 83 = .ok (.ireturn, 1) := by decide +kernel
theorem dX6_ask_84 : decode cX6_ask 84 = .ok (.aload_n 0, 1) := by decide +kernel
theorem dX6_ask_85 : decode cX6_ask 85 = .ok (.invokevirtual 265, 3) := by decide +kernel
theorem dX6_ask_88 : decode cX6_ask 88 = .ok (.ireturn, 1) := by decide +kernel
theorem dX6_ask_89 : decode cX6_ask 89 = .ok (.aload_n 0, 1) := by decide +kernel
theorem dX6_ask_90 : decode cX6_ask 90 = .ok (.invokevirtual 265, 3) := by decide +kernel
theorem dX6_ask_93 : decode cX6_ask 93 = .ok (.aload_n 0, 1) := by decide +kernel
theorem dX6_ask_94 : decode cX6_ask 94 = .ok (.invokevirtual 253, 3) := by decide +kernel
theorem dX6_ask_97 : decode cX6_ask 97 = .ok (.isub, 1) := by decide +kernel
theorem dX6_ask_98 : decode cX6_ask 98 = .ok (.ireturn, 1) := by decide +kernel
theorem dX6_ask_99 : decode cX6_ask 99 = .ok (.sipush (-1002), 3) := by decide +kernel
theorem dX6_ask_102 : decode cX6_ask 102 = .ok (.ireturn, 1) := by decide +kernel
theorem dX6_answer_0 : decode cX6_answer 0 = .ok (.aload_n 0, 1) := by decide +kernel
theorem dX6_answer_1 : decode cX6_answer 1 = .ok (.getfield 26, 3) := by decide +kernel
theorem dX6_answer_4 : decode cX6_answer 4 = .ok (.invokevirtual 247, 3) := by decide +kernel
theorem dX6_answer_7 : decode cX6_answer 7 = .ok (.ifCond .eq 7, 3) := by decide +kernel
theorem dX6_answer_10 : decode cX6_answer 10 = .ok (.sipush (-1001), 3) := by decide +kernel
theorem dX6_answer_13 : decode cX6_answer 13 = .ok (.ireturn, 1) := by decide +kernel
theorem dX6_answer_14 : decode cX6_answer 14 = .ok (.iload_n 1, 1) := by decide +kernel
theorem dX6_answer_15 : decode cX6_answer 15 = .ok (.ifCond .ge 7, 3) := by decide +kernel
theorem dX6_answer_18 : decode cX6_answer 18 = .ok (.sipush (-1002), 3) := by decide +kernel
theorem dX6_answer_21 : decode cX6_answer 21 = .ok (.ireturn, 1) := by decide +kernel
theorem dX6_answer_22 : decode cX6_answer 22 = .ok (.aload_n 0, 1) := by decide +kernel
theorem dX6_answer_23 : decode cX6_answer 23 = .ok (.aload_n 0, 1) := by decide +kernel
theorem dX6_answer_24 : decode cX6_answer 24 = .ok (.getfield 10, 3) := by decide +kernel
theorem dX6_answer_27 : decode cX6_answer 27 = .ok (.getfield 172, 3) := by decide +kernel
theorem dX6_answer_30 : decode cX6_answer 30 = .ok (.invokevirtual 250, 3) := by decide +kernel
theorem dX6_answer_33 : decode cX6_answer 33 = .ok (.iconst 0, 1) := by decide +kernel
theorem dX6_answer_34 : decode cX6_answer 34 = .ok (.istore_n 2, 1) := by decide +kernel
theorem dX6_answer_35 : decode cX6_answer 35 = .ok (.iconst 0, 1) := by decide +kernel
theorem dX6_answer_36 : decode cX6_answer 36 = .ok (.istore_n 3, 1) := by decide +kernel
theorem dX6_answer_37 : decode cX6_answer 37 = .ok (.iload_n 3, 1) := by decide +kernel
theorem dX6_answer_38 : decode cX6_answer 38 = .ok (.aload_n 0, 1) := by decide +kernel
theorem dX6_answer_39 : decode cX6_answer 39 = .ok (.getfield 10, 3) := by decide +kernel
theorem dX6_answer_42 : decode cX6_answer 42 = .ok (.getfield 53, 3) := by decide +kernel
theorem dX6_answer_45 : decode cX6_answer 45 = .ok (.getfield 62, 3) := by decide +kernel
theorem dX6_answer_48 : decode cX6_answer 48 = .ok (.if_icmp .ge 27, 3) := by decide +kernel
theorem dX6_answer_51 : decode cX6_answer 51 = .ok (.aload_n 0, 1) := by decide +kernel
theorem dX6_answer_52 : decode cX6_answer 52 = .ok (.iload_n 3, 1) := by decide +kernel
theorem dX6_answer_53 : decode cX6_answer 53 = .ok (.invokevirtual 268, 3) := by decide +kernel
theorem dX6_answer_56 : decode cX6_answer 56 = .ok (.ifCond .eq 13, 3) := by decide +kernel
theorem dX6_answer_59 : decode cX6_answer 59 = .ok (.iload_n 2, 1) := by decide +kernel
theorem dX6_answer_60 : decode cX6_answer 60 = .ok (.iload_n 1, 1) := by decide +kernel
theorem dX6_answer_61 : decode cX6_answer 61 = .ok (.if_icmp .ne 5, 3) := by decide +kernel
theorem dX6_answer_64 : decode cX6_answer 64 = .ok (.iload_n 3, 1) := by decide +kernel
theorem dX6_answer_65 : decode cX6_answer 65 = .ok (.ireturn, 1) := by decide +kernel
theorem dX6_answer_66 : decode cX6_answer 66 = .ok (.iinc 2 1, 3) := by decide +kernel
theorem dX6_answer_69 : decode cX6_answer 69 = .ok (.iinc 3 1, 3) := by decide +kernel
theorem dX6_answer_72 : decode cX6_answer 72 = .ok (.goto (-35), 3) := by decide +kernel
theorem dX6_answer_75 : decode cX6_answer 75 = .ok (.sipush (-1005), 3) := by decide +kernel
theorem dX6_answer_78 : decode cX6_answer 78 = .ok (.ireturn, 1) := by decide +kernel
theorem dX6_passes_0 : decode cX6_passes 0 = .ok (.aload_n 0, 1) := by decide +kernel
theorem dX6_passes_1 : decode cX6_passes 1 = .ok (.getfield 10, 3) := by decide +kernel
theorem dX6_passes_4 : decode cX6_passes 4 = .ok (.getfield 53, 3) := by decide +kernel
theorem dX6_passes_7 : decode cX6_passes 7 = .ok (.iload_n 1, 1) := by decide +kernel
theorem dX6_passes_8 : decode cX6_passes 8 = .ok (.invokevirtual 74, 3) := by decide +kernel
theorem dX6_passes_11 : decode cX6_passes 11 = .ok (.ifCond .eq 13, 3) := by decide +kernel
theorem dX6_passes_14 : decode cX6_passes 14 = .ok (.aload_n 0, 1) := by decide +kernel
theorem dX6_passes_15 : decode cX6_passes 15 = .ok (.getfield 26, 3) := by decide +kernel
theorem dX6_passes_18 : decode cX6_passes 18 = .ok (.invokevirtual 247, 3) := by decide +kernel
theorem dX6_passes_21 : decode cX6_passes 21 = .ok (.ifCond .eq 7, 3) := by decide +kernel
theorem dX6_passes_24 : decode cX6_passes 24 = .ok (.sipush (-1001), 3) := by decide +kernel
theorem dX6_passes_27 : decode cX6_passes 27 = .ok (.ireturn, 1) := by decide +kernel
theorem dX6_passes_28 : decode cX6_passes 28 = .ok (.aload_n 0, 1) := by decide +kernel
theorem dX6_passes_29 : decode cX6_passes 29 = .ok (.iload_n 1, 1) := by decide +kernel
theorem dX6_passes_30 : decode cX6_passes 30 = .ok (.invokevirtual 274, 3) := by decide +kernel
theorem dX6_passes_33 : decode cX6_passes 33 = .ok (.ifCond .eq 7, 3) := by decide +kernel
theorem dX6_passes_36 : decode cX6_passes 36 = .ok (.iconst 1, 1) := by decide +kernel
theorem dX6_passes_37 : decode cX6_passes 37 = .ok (.goto 4, 3) := by decide +kernel
theorem dX6_passes_40 : decode cX6_passes 40 = .ok (.iconst 0, 1) := by decide +kernel
theorem dX6_passes_41 : decode cX6_passes 41 = .ok (.ireturn, 1) := by decide +kernel
theorem dX6_spared_0 : decode cX6_spared 0 = .ok (.aload_n 0, 1) := by decide +kernel
theorem dX6_spared_1 : decode cX6_spared 1 = .ok (.getfield 26, 3) := by decide +kernel
theorem dX6_spared_4 : decode cX6_spared 4 = .ok (.invokevirtual 247, 3) := by decide +kernel
theorem dX6_spared_7 : decode cX6_spared 7 = .ok (.ifCond .eq 7, 3) := by decide +kernel
theorem dX6_spared_10 : decode cX6_spared 10 = .ok (.ldc2_w 277, 3) := by decide +kernel
theorem dX6_spared_13 : decode cX6_spared 13 = .ok (.dreturn, 1) := by decide +kernel
theorem dX6_spared_14 : decode cX6_spared 14 = .ok (.aload_n 0, 1) := by decide +kernel
theorem dX6_spared_15 : decode cX6_spared 15 = .ok (.getfield 10, 3) := by decide +kernel
theorem dX6_spared_18 : decode cX6_spared 18 = .ok (.getfield 53, 3) := by decide +kernel
theorem dX6_spared_21 : decode cX6_spared 21 = .ok (.invokevirtual 241, 3) := by decide +kernel
theorem dX6_spared_24 : decode cX6_spared 24 = .ok (.istore_n 1, 1) := by decide +kernel
theorem dX6_spared_25 : decode cX6_spared 25 = .ok (.iload_n 1, 1) := by decide +kernel
theorem dX6_spared_26 : decode cX6_spared 26 = .ok (.ifCond .gt 5, 3) := by decide +kernel
theorem dX6_spared_29 : decode cX6_spared 29 = .ok (.dconst 0, 1) := by decide +kernel
theorem dX6_spared_30 : decode cX6_spared 30 = .ok (.dreturn, 1) := by decide +kernel
theorem dX6_spared_31 : decode cX6_spared 31 = .ok (.aload_n 0, 1) := by decide +kernel
theorem dX6_spared_32 : decode cX6_spared 32 = .ok (.aload_n 0, 1) := by decide +kernel
theorem dX6_spared_33 : decode cX6_spared 33 = .ok (.getfield 10, 3) := by decide +kernel
theorem dX6_spared_36 : decode cX6_spared 36 = .ok (.getfield 172, 3) := by decide +kernel
theorem dX6_spared_39 : decode cX6_spared 39 = .ok (.invokevirtual 250, 3) := by decide +kernel
theorem dX6_spared_42 : decode cX6_spared 42 = .ok (.dconst 1, 1) := by decide +kernel
theorem dX6_spared_43 : decode cX6_spared 43 = .ok (.aload_n 0, 1) := by decide +kernel
theorem dX6_spared_44 : decode cX6_spared 44 = .ok (.invokevirtual 262, 3) := by decide +kernel
theorem dX6_spared_47 : decode cX6_spared 47 = .ok (.i2d, 1) := by decide +kernel
theorem dX6_spared_48 : decode cX6_spared 48 = .ok (.iload_n 1, 1) := by decide +kernel
theorem dX6_spared_49 : decode cX6_spared 49 = .ok (.i2d, 1) := by decide +kernel
theorem dX6_spared_50 : decode cX6_spared 50 = .ok (.ddiv, 1) := by decide +kernel
theorem dX6_spared_51 : decode cX6_spared 51 = .ok (.dsub, 1) := by decide +kernel
theorem dX6_spared_52 : decode cX6_spared 52 = .ok (.dreturn, 1) := by decide +kernel
theorem dX6_unfit_0 : decode cX6_unfit 0 = .ok (.aload_n 0, 1) := by decide +kernel
theorem dX6_unfit_1 : decode cX6_unfit 1 = .ok (.getfield 10, 3) := by decide +kernel
theorem dX6_unfit_4 : decode cX6_unfit 4 = .ok (.getfield 97, 3) := by decide +kernel
theorem dX6_unfit_7 : decode cX6_unfit 7 = .ok (.iload_n 1, 1) := by decide +kernel
theorem dX6_unfit_8 : decode cX6_unfit 8 = .ok (.invokevirtual 130, 3) := by decide +kernel
theorem dX6_unfit_11 : decode cX6_unfit 11 = .ok (.istore_n 2, 1) := by decide +kernel
theorem dX6_unfit_12 : decode cX6_unfit 12 = .ok (.iload_n 2, 1) := by decide +kernel
theorem dX6_unfit_13 : decode cX6_unfit 13 = .ok (.sipush (-1005), 3) := by decide +kernel
theorem dX6_unfit_16 : decode cX6_unfit 16 = .ok (.if_icmp .ne 7, 3) := by decide +kernel
theorem dX6_unfit_19 : decode cX6_unfit 19 = .ok (.sipush (-1001), 3) := by decide +kernel
theorem dX6_unfit_22 : decode cX6_unfit 22 = .ok (.ireturn, 1) := by decide +kernel
theorem dX6_unfit_23 : decode cX6_unfit 23 = .ok (.aload_n 0, 1) := by decide +kernel
theorem dX6_unfit_24 : decode cX6_unfit 24 = .ok (.getfield 10, 3) := by decide +kernel
theorem dX6_unfit_27 : decode cX6_unfit 27 = .ok (.aload_n 0, 1) := by decide +kernel
theorem dX6_unfit_28 : decode cX6_unfit 28 = .ok (.getfield 10, 3) := by decide +kernel
theorem dX6_unfit_31 : decode cX6_unfit 31 = .ok (.getfield 97, 3) := by decide +kernel
theorem dX6_unfit_34 : decode cX6_unfit 34 = .ok (.iload_n 2, 1) := by decide +kernel
theorem dX6_unfit_35 : decode cX6_unfit 35 = .ok (.invokevirtual 133, 3) := by decide +kernel
theorem dX6_unfit_38 : decode cX6_unfit 38 = .ok (.aload_n 0, 1) := by decide +kernel
theorem dX6_unfit_39 : decode cX6_unfit 39 = .ok (.getfield 10, 3) := by decide +kernel
theorem dX6_unfit_42 : decode cX6_unfit 42 = .ok (.getfield 97, 3) := by decide +kernel
theorem dX6_unfit_45 : decode cX6_unfit 45 = .ok (.iload_n 2, 1) := by decide +kernel
theorem dX6_unfit_46 : decode cX6_unfit 46 = .ok (.invokevirtual 136, 3) := by decide +kernel
theorem dX6_unfit_49 : decode cX6_unfit 49 = .ok (.invokevirtual 127, 3) := by decide +kernel
theorem dX6_unfit_52 : decode cX6_unfit 52 = .ok (.ireturn, 1) := by decide +kernel
theorem dX6_bestSplit_0 : decode cX6_bestSplit 0 = .ok (.aload_n 0, 1) := by decide +kernel
theorem dX6_bestSplit_1 : decode cX6_bestSplit 1 = .ok (.getfield 10, 3) := by decide +kernel
theorem dX6_bestSplit_4 : decode cX6_bestSplit 4 = .ok (.getfield 97, 3) := by decide +kernel
theorem dX6_bestSplit_7 : decode cX6_bestSplit 7 = .ok (.iload_n 1, 1) := by decide +kernel
theorem dX6_bestSplit_8 : decode cX6_bestSplit 8 = .ok (.invokevirtual 130, 3) := by decide +kernel
theorem dX6_bestSplit_11 : decode cX6_bestSplit 11 = .ok (.istore_n 2, 1) := by decide +kernel
theorem dX6_bestSplit_12 : decode cX6_bestSplit 12 = .ok (.iload_n 2, 1) := by decide +kernel
theorem dX6_bestSplit_13 : decode cX6_bestSplit 13 = .ok (.sipush (-1005), 3) := by decide +kernel
theorem dX6_bestSplit_16 : decode cX6_bestSplit 16 = .ok (.if_icmp .ne 7, 3) := by decide +kernel
theorem dX6_bestSplit_19 : decode cX6_bestSplit 19 = .ok (.sipush (-1001), 3) := by decide +kernel
theorem dX6_bestSplit_22 : decode cX6_bestSplit 22 = .ok (.ireturn, 1) := by decide +kernel
theorem dX6_bestSplit_23 : decode cX6_bestSplit 23 = .ok (.aload_n 0, 1) := by decide +kernel
theorem dX6_bestSplit_24 : decode cX6_bestSplit 24 = .ok (.getfield 10, 3) := by decide +kernel
theorem dX6_bestSplit_27 : decode cX6_bestSplit 27 = .ok (.getfield 97, 3) := by decide +kernel
theorem dX6_bestSplit_30 : decode cX6_bestSplit 30 = .ok (.iload_n 2, 1) := by decide +kernel
theorem dX6_bestSplit_31 : decode cX6_bestSplit 31 = .ok (.invokevirtual 133, 3) := by decide +kernel
theorem dX6_bestSplit_34 : decode cX6_bestSplit 34 = .ok (.istore_n 3, 1) := by decide +kernel
theorem dX6_bestSplit_35 : decode cX6_bestSplit 35 = .ok (.aload_n 0, 1) := by decide +kernel
theorem dX6_bestSplit_36 : decode cX6_bestSplit 36 = .ok (.getfield 10, 3) := by decide +kernel
theorem dX6_bestSplit_39 : decode cX6_bestSplit 39 = .ok (.getfield 97, 3) := by decide +kernel
theorem dX6_bestSplit_42 : decode cX6_bestSplit 42 = .ok (.iload_n 2, 1) := by decide +kernel
theorem dX6_bestSplit_43 : decode cX6_bestSplit 43 = .ok (.invokevirtual 136, 3) := by decide +kernel
theorem dX6_bestSplit_46 : decode cX6_bestSplit 46 = .ok (.istore 4, 2) := by decide +kernel
theorem dX6_bestSplit_48 : decode cX6_bestSplit 48 = .ok (.iload 4, 2) := by decide +kernel
theorem dX6_bestSplit_50 : decode cX6_bestSplit 50 = .ok (.iload_n 3, 1) := by decide +kernel
theorem dX6_bestSplit_51 : decode cX6_bestSplit 51 = .ok (.isub, 1) := by decide +kernel
theorem dX6_bestSplit_52 : decode cX6_bestSplit 52 = .ok (.iconst 2, 1) := by decide +kernel
theorem dX6_bestSplit_53 : decode cX6_bestSplit 53 = .ok (.if_icmp .ge 7, 3) := by decide +kernel
theorem dX6_bestSplit_56 : decode cX6_bestSplit 56 = .ok (.sipush (-1005), 3) := by decide +kernel
theorem dX6_bestSplit_59 : decode cX6_bestSplit 59 = .ok (.ireturn, 1) := by decide +kernel
theorem dX6_bestSplit_60 : decode cX6_bestSplit 60 = .ok (.aload_n 0, 1) := by decide +kernel
theorem dX6_bestSplit_61 : decode cX6_bestSplit 61 = .ok (.getfield 10, 3) := by decide +kernel
theorem dX6_bestSplit_64 : decode cX6_bestSplit 64 = .ok (.getfield 53, 3) := by decide +kernel
theorem dX6_bestSplit_67 : decode cX6_bestSplit 67 = .ok (.iload_n 1, 1) := by decide +kernel
theorem dX6_bestSplit_68 : decode cX6_bestSplit 68 = .ok (.invokevirtual 57, 3) := by decide +kernel
theorem dX6_bestSplit_71 : decode cX6_bestSplit 71 = .ok (.istore 5, 2) := by decide +kernel
theorem dX6_bestSplit_73 : decode cX6_bestSplit 73 = .ok (.iload_n 3, 1) := by decide +kernel
theorem dX6_bestSplit_74 : decode cX6_bestSplit 74 = .ok (.iconst 1, 1) := by decide +kernel
theorem dX6_bestSplit_75 : decode cX6_bestSplit 75 = .ok (.iadd, 1) := by decide +kernel
theorem dX6_bestSplit_76 : decode cX6_bestSplit 76 = .ok (.istore 6, 2) := by decide +kernel
theorem dX6_bestSplit_78 : decode cX6_bestSplit 78 = .ok (.aload_n 0, 1) := by decide +kernel
theorem dX6_bestSplit_79 : decode cX6_bestSplit 79 = .ok (.iload_n 1, 1) := by decide +kernel
theorem dX6_bestSplit_80 : decode cX6_bestSplit 80 = .ok (.iload 6, 2) := by decide +kernel
theorem dX6_bestSplit_82 : decode cX6_bestSplit 82 = .ok (.iload 5, 2) := by decide +kernel
theorem dX6_bestSplit_84 : decode cX6_bestSplit 84 = .ok (.invokevirtual 279, 3) := by decide +kernel
theorem dX6_bestSplit_87 : decode cX6_bestSplit 87 = .ok (.istore 7, 2) := by decide +kernel
theorem dX6_bestSplit_89 : decode cX6_bestSplit 89 = .ok (.iconst 0, 1) := by decide +kernel
theorem dX6_bestSplit_90 : decode cX6_bestSplit 90 = .ok (.istore 8, 2) := by decide +kernel
theorem dX6_bestSplit_92 : decode cX6_bestSplit 92 = .ok (.iload 8, 2) := by decide +kernel
theorem dX6_bestSplit_94 : decode cX6_bestSplit 94 = .ok (.aload_n 0, 1) := by decide +kernel
theorem dX6_bestSplit_95 : decode cX6_bestSplit 95 = .ok (.getfield 10, 3) := by decide +kernel
theorem dX6_bestSplit_98 : decode cX6_bestSplit 98 = .ok (.getfield 53, 3) := by decide +kernel
theorem dX6_bestSplit_101 : decode cX6_bestSplit 101 = .ok (.getfield 62, 3) := by decide +kernel
theorem dX6_bestSplit_104 : decode cX6_bestSplit 104 = .ok (.if_icmp .ge 94, 3) := by decide +kernel
theorem dX6_bestSplit_107 : decode cX6_bestSplit 107 = .ok (.aload_n 0, 1) := by decide +kernel
theorem dX6_bestSplit_108 : decode cX6_bestSplit 108 = .ok (.getfield 10, 3) := by decide +kernel
theorem dX6_bestSplit_111 : decode cX6_bestSplit 111 = .ok (.getfield 53, 3) := by decide +kernel
theorem dX6_bestSplit_114 : decode cX6_bestSplit 114 = .ok (.iload 8, 2) := by decide +kernel
theorem dX6_bestSplit_116 : decode cX6_bestSplit 116 = .ok (.invokevirtual 81, 3) := by decide +kernel
theorem dX6_bestSplit_119 : decode cX6_bestSplit 119 = .ok (.iconst 1, 1) := by decide +kernel
theorem dX6_bestSplit_120 : decode cX6_bestSplit 120 = .ok (.iadd, 1) := by decide +kernel
theorem dX6_bestSplit_121 : decode cX6_bestSplit 121 = .ok (.istore 9, 2) := by decide +kernel
theorem dX6_bestSplit_123 : decode cX6_bestSplit 123 = .ok (.aload_n 0, 1) := by decide +kernel
theorem dX6_bestSplit_124 : decode cX6_bestSplit 124 = .ok (.getfield 10, 3) := by decide +kernel
theorem dX6_bestSplit_127 : decode cX6_bestSplit 127 = .ok (.getfield 53, 3) := by decide +kernel
theorem dX6_bestSplit_130 : decode cX6_bestSplit 130 = .ok (.iload 8, 2) := by decide +kernel
theorem dX6_bestSplit_132 : decode cX6_bestSplit 132 = .ok (.invokevirtual 84, 3) := by decide +kernel
theorem dX6_bestSplit_135 : decode cX6_bestSplit 135 = .ok (.iload_n 1, 1) := by decide +kernel
theorem dX6_bestSplit_136 : decode cX6_bestSplit 136 = .ok (.if_icmp .ne 56, 3) := by decide +kernel
theorem dX6_bestSplit_139 : decode cX6_bestSplit 139 = .ok (.iload 9, 2) := by decide +kernel
theorem dX6_bestSplit_141 : decode cX6_bestSplit 141 = .ok (.iload_n 3, 1) := by decide +kernel
theorem dX6_bestSplit_142 : decode cX6_bestSplit 142 = .ok (.if_icmp .le 50, 3) := by decide +kernel
theorem dX6_bestSplit_145 : decode cX6_bestSplit 145 = .ok (.iload 9, 2) := by decide +kernel
theorem dX6_bestSplit_147 : decode cX6_bestSplit 147 = .ok (.iload 4, 2) := by decide +kernel
theorem dX6_bestSplit_149 : decode cX6_bestSplit 149 = .ok (.if_icmp .ge 43, 3) := by decide +kernel
theorem dX6_bestSplit_152 : decode cX6_bestSplit 152 = .ok (.aload_n 0, 1) := by decide +kernel
theorem dX6_bestSplit_153 : decode cX6_bestSplit 153 = .ok (.iload_n 1, 1) := by decide +kernel
theorem dX6_bestSplit_154 : decode cX6_bestSplit 154 = .ok (.iload 9, 2) := by decide +kernel
theorem dX6_bestSplit_156 : decode cX6_bestSplit 156 = .ok (.iload 5, 2) := by decide +kernel
theorem dX6_bestSplit_158 : decode cX6_bestSplit 158 = .ok (.invokevirtual 279, 3) := by decide +kernel
theorem dX6_bestSplit_161 : decode cX6_bestSplit 161 = .ok (.istore 10, 2) := by decide +kernel
theorem dX6_bestSplit_163 : decode cX6_bestSplit 163 = .ok (.iload 10, 2) := by decide +kernel
theorem dX6_bestSplit_165 : decode cX6_bestSplit 165 = .ok (.iload 7, 2) := by decide +kernel
theorem dX6_bestSplit_167 : decode cX6_bestSplit 167 = .ok (.if_icmp .lt 17, 3) := by decide +kernel
theorem dX6_bestSplit_170 : decode cX6_bestSplit 170 = .ok (.iload 10, 2) := by decide +kernel
theorem dX6_bestSplit_172 : decode cX6_bestSplit 172 = .ok (.iload 7, 2) := by decide +kernel
theorem dX6_bestSplit_174 : decode cX6_bestSplit 174 = .ok (.if_icmp .ne 18, 3) := by decide +kernel
theorem dX6_bestSplit_177 : decode cX6_bestSplit 177 = .ok (.iload 9, 2) := by decide +kernel
theorem dX6_bestSplit_179 : decode cX6_bestSplit 179 = .ok (.iload 6, 2) := by decide +kernel
theorem dX6_bestSplit_181 : decode cX6_bestSplit 181 = .ok (.if_icmp .ge 11, 3) := by decide +kernel
theorem dX6_bestSplit_184 : decode cX6_bestSplit 184 = .ok (.iload 9, 2) := by decide +kernel
theorem dX6_bestSplit_186 : decode cX6_bestSplit 186 = .ok (.istore 6, 2) := by decide +kernel
theorem dX6_bestSplit_188 : decode cX6_bestSplit 188 = .ok (.iload 10, 2) := by decide +kernel
theorem dX6_bestSplit_190 : decode cX6_bestSplit 190 = .ok (.istore 7, 2) := by decide +kernel
theorem dX6_bestSplit_192 : decode cX6_bestSplit 192 = .ok (.iinc 8 1, 3) := by decide +kernel
theorem dX6_bestSplit_195 : decode cX6_bestSplit 195 = .ok (.goto (-103), 3) := by decide +kernel
theorem dX6_bestSplit_198 : decode cX6_bestSplit 198 = .ok (.iload 6, 2) := by decide +kernel
theorem dX6_bestSplit_200 : decode cX6_bestSplit 200 = .ok (.ireturn, 1) := by decide +kernel
theorem dX6_heaviest_0 : decode cX6_heaviest 0 = .ok (.sipush (-1005), 3) := by decide +kernel
theorem dX6_heaviest_3 : decode cX6_heaviest 3 = .ok (.istore_n 1, 1) := by decide +kernel
theorem dX6_heaviest_4 : decode cX6_heaviest 4 = .ok (.iconst (-1), 1) := by decide +kernel
theorem dX6_heaviest_5 : decode cX6_heaviest 5 = .ok (.istore_n 2, 1) := by decide +kernel
theorem dX6_heaviest_6 : decode cX6_heaviest 6 = .ok (.iconst 0, 1) := by decide +kernel
theorem dX6_heaviest_7 : decode cX6_heaviest 7 = .ok (.istore_n 3, 1) := by decide +kernel
theorem dX6_heaviest_8 : decode cX6_heaviest 8 = .ok (.iload_n 3, 1) := by decide +kernel
theorem dX6_heaviest_9 : decode cX6_heaviest 9 = .ok (.aload_n 0, 1) := by decide +kernel
theorem dX6_heaviest_10 : decode cX6_heaviest 10 = .ok (.getfield 10, 3) := by decide +kernel
theorem dX6_heaviest_13 : decode cX6_heaviest 13 = .ok (.getfield 97, 3) := by decide +kernel
theorem dX6_heaviest_16 : decode cX6_heaviest 16 = .ok (.getfield 197, 3) := by decide +kernel
theorem dX6_heaviest_19 : decode cX6_heaviest 19 = .ok (.if_icmp .ge 60, 3) := by decide +kernel
theorem dX6_heaviest_22 : decode cX6_heaviest 22 = .ok (.aload_n 0, 1) := by decide +kernel
theorem dX6_heaviest_23 : decode cX6_heaviest 23 = .ok (.getfield 10, 3) := by decide +kernel
theorem dX6_heaviest_26 : decode cX6_heaviest 26 = .ok (.getfield 97, 3) := by decide +kernel
theorem dX6_heaviest_29 : decode cX6_heaviest 29 = .ok (.iload_n 3, 1) := by decide +kernel
theorem dX6_heaviest_30 : decode cX6_heaviest 30 = .ok (.invokevirtual 225, 3) := by decide +kernel
theorem dX6_heaviest_33 : decode cX6_heaviest 33 = .ok (.istore 4, 2) := by decide +kernel
theorem dX6_heaviest_35 : decode cX6_heaviest 35 = .ok (.aload_n 0, 1) := by decide +kernel
theorem dX6_heaviest_36 : decode cX6_heaviest 36 = .ok (.getfield 10, 3) := by decide +kernel
theorem dX6_heaviest_39 : decode cX6_heaviest 39 = .ok (.getfield 53, 3) := by decide +kernel
theorem dX6_heaviest_42 : decode cX6_heaviest 42 = .ok (.iload 4, 2) := by decide +kernel
theorem dX6_heaviest_44 : decode cX6_heaviest 44 = .ok (.invokevirtual 57, 3) := by decide +kernel
theorem dX6_heaviest_47 : decode cX6_heaviest 47 = .ok (.istore 5, 2) := by decide +kernel
theorem dX6_heaviest_49 : decode cX6_heaviest 49 = .ok (.iload 5, 2) := by decide +kernel
theorem dX6_heaviest_51 : decode cX6_heaviest 51 = .ok (.iload_n 2, 1) := by decide +kernel
theorem dX6_heaviest_52 : decode cX6_heaviest 52 = .ok (.if_icmp .gt 15, 3) := by decide +kernel
theorem dX6_heaviest_55 : decode cX6_heaviest 55 = .ok (.iload 5, 2) := by decide +kernel
theorem dX6_heaviest_57 : decode cX6_heaviest 57 = .ok (.iload_n 2, 1) := by decide +kernel
theorem dX6_heaviest_58 : decode cX6_heaviest 58 = .ok (.if_icmp .ne 15, 3) := by decide +kernel
theorem dX6_heaviest_61 : decode cX6_heaviest 61 = .ok (.iload 4, 2) := by decide +kernel
theorem dX6_heaviest_63 : decode cX6_heaviest 63 = .ok (.iload_n 1, 1) := by decide +kernel
theorem dX6_heaviest_64 : decode cX6_heaviest 64 = .ok (.if_icmp .ge 9, 3) := by decide +kernel
theorem dX6_heaviest_67 : decode cX6_heaviest 67 = .ok (.iload 4, 2) := by decide +kernel
theorem dX6_heaviest_69 : decode cX6_heaviest 69 = .ok (.istore_n 1, 1) := by decide +kernel
theorem dX6_heaviest_70 : decode cX6_heaviest 70 = .ok (.iload 5, 2) := by decide +kernel
theorem dX6_heaviest_72 : decode cX6_heaviest 72 = .ok (.istore_n 2, 1) := by decide +kernel
theorem dX6_heaviest_73 : decode cX6_heaviest 73 = .ok (.iinc 3 1, 3) := by decide +kernel
theorem dX6_heaviest_76 : decode cX6_heaviest 76 = .ok (.goto (-68), 3) := by decide +kernel
theorem dX6_heaviest_79 : decode cX6_heaviest 79 = .ok (.iload_n 1, 1) := by decide +kernel
theorem dX6_heaviest_80 : decode cX6_heaviest 80 = .ok (.ireturn, 1) := by decide +kernel
theorem dX6_isKey_0 : decode cX6_isKey 0 = .ok (.iload_n 0, 1) := by decide +kernel
theorem dX6_isKey_1 : decode cX6_isKey 1 = .ok (.ifCond .lt 14, 3) := by decide +kernel
theorem dX6_isKey_4 : decode cX6_isKey 4 = .ok (.iload_n 0, 1) := by decide +kernel
theorem dX6_isKey_5 : decode cX6_isKey 5 = .ok (.sipush 1000, 3) := by decide +kernel
theorem dX6_isKey_8 : decode cX6_isKey 8 = .ok (.if_icmp .ge 7, 3) := by decide +kernel
theorem dX6_isKey_11 : decode cX6_isKey 11 = .ok (.iconst 1, 1) := by decide +kernel
theorem dX6_isKey_12 : decode cX6_isKey 12 = .ok (.goto 4, 3) := by decide +kernel
theorem dX6_isKey_15 : decode cX6_isKey 15 = .ok (.iconst 0, 1) := by decide +kernel
theorem dX6_isKey_16 : decode cX6_isKey 16 = .ok (.ireturn, 1) := by decide +kernel
theorem dX6_isValue_0 : decode cX6_isValue 0 = .ok (.iload_n 0, 1) := by decide +kernel
theorem dX6_isValue_1 : decode cX6_isValue 1 = .ok (.sipush (-999), 3) := by decide +kernel
theorem dX6_isValue_4 : decode cX6_isValue 4 = .ok (.if_icmp .lt 14, 3) := by decide +kernel
theorem dX6_isValue_7 : decode cX6_isValue 7 = .ok (.iload_n 0, 1) := by decide +kernel
theorem dX6_isValue_8 : decode cX6_isValue 8 = .ok (.sipush 999, 3) := by decide +kernel
theorem dX6_isValue_11 : decode cX6_isValue 11 = .ok (.if_icmp .gt 7, 3) := by decide +kernel
theorem dX6_isValue_14 : decode cX6_isValue 14 = .ok (.iconst 1, 1) := by decide +kernel
theorem dX6_isValue_15 : decode cX6_isValue 15 = .ok (.goto 4, 3) := by decide +kernel
theorem dX6_isValue_18 : decode cX6_isValue 18 = .ok (.iconst 0, 1) := by decide +kernel
theorem dX6_isValue_19 : decode cX6_isValue 19 = .ok (.ireturn, 1) := by decide +kernel
theorem dX6_areBounds_0 : decode cX6_areBounds 0 = .ok (.iload_n 0, 1) := by decide +kernel
theorem dX6_areBounds_1 : decode cX6_areBounds 1 = .ok (.invokestatic 42, 3) := by decide +kernel
theorem dX6_areBounds_4 : decode cX6_areBounds 4 = .ok (.ifCond .eq 19, 3) := by decide +kernel
theorem dX6_areBounds_7 : decode cX6_areBounds 7 = .ok (.iload_n 1, 1) := by decide +kernel
theorem dX6_areBounds_8 : decode cX6_areBounds 8 = .ok (.iload_n 0, 1) := by decide +kernel
theorem dX6_areBounds_9 : decode cX6_areBounds 9 = .ok (.if_icmp .le 14, 3) := by decide +kernel
theorem dX6_areBounds_12 : decode cX6_areBounds 12 = .ok (.iload_n 1, 1) := by decide +kernel
theorem dX6_areBounds_13 : decode cX6_areBounds 13 = .ok (.sipush 1000, 3) := by decide +kernel
theorem dX6_areBounds_16 : decode cX6_areBounds 16 = .ok (.if_icmp .gt 7, 3) := by decide +kernel
theorem dX6_areBounds_19 : decode cX6_areBounds 19 = .ok (.iconst 1, 1) := by decide +kernel
theorem dX6_areBounds_20 : decode cX6_areBounds 20 = .ok (.goto 4, 3) := by decide +kernel
theorem dX6_areBounds_23 : decode cX6_areBounds 23 = .ok (.iconst 0, 1) := by decide +kernel
theorem dX6_areBounds_24 : decode cX6_areBounds 24 = .ok (.ireturn, 1) := by decide +kernel
theorem dX6_isPlace_0 : decode cX6_isPlace 0 = .ok (.iload_n 1, 1) := by decide +kernel
theorem dX6_isPlace_1 : decode cX6_isPlace 1 = .ok (.bipush 60, 2) := by decide +kernel
theorem dX6_isPlace_3 : decode cX6_isPlace 3 = .ok (.if_icmp .eq 23, 3) := by decide +kernel
theorem dX6_isPlace_6 : decode cX6_isPlace 6 = .ok (.iload_n 1, 1) := by decide +kernel
theorem dX6_isPlace_7 : decode cX6_isPlace 7 = .ok (.bipush 61, 2) := by decide +kernel
theorem dX6_isPlace_9 : decode cX6_isPlace 9 = .ok (.if_icmp .eq 17, 3) := by decide +kernel
theorem dX6_isPlace_12 : decode cX6_isPlace 12 = .ok (.aload_n 0, 1) := by decide +kernel
theorem dX6_isPlace_13 : decode cX6_isPlace 13 = .ok (.getfield 10, 3) := by decide +kernel
theorem dX6_isPlace_16 : decode cX6_isPlace 16 = .ok (.getfield 97, 3) := by decide +kernel
theorem dX6_isPlace_19 : decode cX6_isPlace 19 = .ok (.iload_n 1, 1) := by decide +kernel
theorem dX6_isPlace_20 : decode cX6_isPlace 20 = .ok (.invokevirtual 120, 3) := by decide +kernel
theorem dX6_isPlace_23 : decode cX6_isPlace 23 = .ok (.ifCond .eq 7, 3) := by decide +kernel
theorem dX6_isPlace_26 : decode cX6_isPlace 26 = .ok (.iconst 1, 1) := by decide +kernel
theorem dX6_isPlace_27 : decode cX6_isPlace 27 = .ok (.goto 4, 3) := by decide +kernel
theorem dX6_isPlace_30 : decode cX6_isPlace 30 = .ok (.iconst 0, 1) := by decide +kernel
theorem dX6_isPlace_31 : decode cX6_isPlace 31 = .ok (.ireturn, 1) := by decide +kernel
theorem dX6_keyOfRanked_0 : decode cX6_keyOfRanked 0 = .ok (.aload_n 0, 1) := by decide +kernel
theorem dX6_keyOfRanked_1 : decode cX6_keyOfRanked 1 = .ok (.getfield 10, 3) := by decide +kernel
theorem dX6_keyOfRanked_4 : decode cX6_keyOfRanked 4 = .ok (.getfield 53, 3) := by decide +kernel
theorem dX6_keyOfRanked_7 : decode cX6_keyOfRanked 7 = .ok (.iload_n 1, 1) := by decide +kernel
theorem dX6_keyOfRanked_8 : decode cX6_keyOfRanked 8 = .ok (.iload_n 2, 1) := by decide +kernel
theorem dX6_keyOfRanked_9 : decode cX6_keyOfRanked 9 = .ok (.invokevirtual 228, 3) := by decide +kernel
theorem dX6_keyOfRanked_12 : decode cX6_keyOfRanked 12 = .ok (.istore_n 3, 1) := by decide +kernel
theorem dX6_keyOfRanked_13 : decode cX6_keyOfRanked 13 = .ok (.iload_n 3, 1) := by decide +kernel
theorem dX6_keyOfRanked_14 : decode cX6_keyOfRanked 14 = .ok (.sipush (-1005), 3) := by decide +kernel
theorem dX6_keyOfRanked_17 : decode cX6_keyOfRanked 17 = .ok (.if_icmp .ne 9, 3) := by decide +kernel
theorem dX6_keyOfRanked_20 : decode cX6_keyOfRanked 20 = .ok (.sipush (-1005), 3) := by decide +kernel
theorem dX6_keyOfRanked_23 : decode cX6_keyOfRanked 23 = .ok (.goto 14, 3) := by decide +kernel
theorem dX6_keyOfRanked_26 : decode cX6_keyOfRanked 26 = .ok (.aload_n 0, 1) := by decide +kernel
theorem dX6_keyOfRanked_27 : decode cX6_keyOfRanked 27 = .ok (.getfield 10, 3) := by decide +kernel
theorem dX6_keyOfRanked_30 : decode cX6_keyOfRanked 30 = .ok (.getfield 53, 3) := by decide +kernel
theorem dX6_keyOfRanked_33 : decode cX6_keyOfRanked 33 = .ok (.iload_n 3, 1) := by decide +kernel
theorem dX6_keyOfRanked_34 : decode cX6_keyOfRanked 34 = .ok (.invokevirtual 81, 3) := by decide +kernel
theorem dX6_keyOfRanked_37 : decode cX6_keyOfRanked 37 = .ok (.ireturn, 1) := by decide +kernel
theorem dX6_straysFit_0 : decode cX6_straysFit 0 = .ok (.aload_n 0, 1) := by decide +kernel
theorem dX6_straysFit_1 : decode cX6_straysFit 1 = .ok (.getfield 39, 3) := by decide +kernel
theorem dX6_straysFit_4 : decode cX6_straysFit 4 = .ok (.invokevirtual 282, 3) := by decide +kernel
theorem dX6_straysFit_7 : decode cX6_straysFit 7 = .ok (.iconst 0, 1) := by decide +kernel
theorem dX6_straysFit_8 : decode cX6_straysFit 8 = .ok (.istore_n 1, 1) := by decide +kernel
theorem dX6_straysFit_9 : decode cX6_straysFit 9 = .ok (.iload_n 1, 1) := by decide +kernel
theorem dX6_straysFit_10 : decode cX6_straysFit 10 = .ok (.aload_n 0, 1) := by decide +kernel
theorem dX6_straysFit_11 : decode cX6_straysFit 11 = .ok (.getfield 10, 3) := by decide +kernel
theorem dX6_straysFit_14 : decode cX6_straysFit 14 = .ok (.getfield 53, 3) := by decide +kernel
theorem dX6_straysFit_17 : decode cX6_straysFit 17 = .ok (.getfield 62, 3) := by decide +kernel
theorem dX6_straysFit_20 : decode cX6_straysFit 20 = .ok (.if_icmp .ge 39, 3) := by decide +kernel
theorem dX6_straysFit_23 : decode cX6_straysFit 23 = .ok (.aload_n 0, 1) := by decide +kernel
theorem dX6_straysFit_24 : decode cX6_straysFit 24 = .ok (.getfield 10, 3) := by decide +kernel
theorem dX6_straysFit_27 : decode cX6_straysFit 27 = .ok (.getfield 53, 3) := by decide +kernel
theorem dX6_straysFit_30 : decode cX6_straysFit 30 = .ok (.iload_n 1, 1) := by decide +kernel
theorem dX6_straysFit_31 : decode cX6_straysFit 31 = .ok (.invokevirtual 84, 3) := by decide +kernel
theorem dX6_straysFit_34 : decode cX6_straysFit 34 = .ok (.istore_n 2, 1) := by decide +kernel
theorem dX6_straysFit_35 : decode cX6_straysFit 35 = .ok (.aload_n 0, 1) := by decide +kernel
theorem dX6_straysFit_36 : decode cX6_straysFit 36 = .ok (.getfield 39, 3) := by decide +kernel
theorem dX6_straysFit_39 : decode cX6_straysFit 39 = .ok (.iload_n 2, 1) := by decide +kernel
theorem dX6_straysFit_40 : decode cX6_straysFit 40 = .ok (.aload_n 0, 1) := by decide +kernel
theorem dX6_straysFit_41 : decode cX6_straysFit 41 = .ok (.getfield 39, 3) := by decide +kernel
theorem dX6_straysFit_44 : decode cX6_straysFit 44 = .ok (.iload_n 2, 1) := by decide +kernel
theorem dX6_straysFit_45 : decode cX6_straysFit 45 = .ok (.invokevirtual 271, 3) := by decide +kernel
theorem dX6_straysFit_48 : decode cX6_straysFit 48 = .ok (.iconst 1, 1) := by decide +kernel
theorem dX6_straysFit_49 : decode cX6_straysFit 49 = .ok (.iadd, 1) := by decide +kernel
theorem dX6_straysFit_50 : decode cX6_straysFit 50 = .ok (.invokevirtual 285, 3) := by decide +kernel
theorem dX6_straysFit_53 : decode cX6_straysFit 53 = .ok (.iinc 1 1, 3) := by decide +kernel
theorem dX6_straysFit_56 : decode cX6_straysFit 56 = .ok (.goto (-47), 3) := by decide +kernel
theorem dX6_straysFit_59 : decode cX6_straysFit 59 = .ok (.iconst 0, 1) := by decide +kernel
theorem dX6_straysFit_60 : decode cX6_straysFit 60 = .ok (.istore_n 1, 1) := by decide +kernel
theorem dX6_straysFit_61 : decode cX6_straysFit 61 = .ok (.iload_n 1, 1) := by decide +kernel
theorem dX6_straysFit_62 : decode cX6_straysFit 62 = .ok (.aload_n 0, 1) := by decide +kernel
theorem dX6_straysFit_63 : decode cX6_straysFit 63 = .ok (.getfield 10, 3) := by decide +kernel
theorem dX6_straysFit_66 : decode cX6_straysFit 66 = .ok (.getfield 53, 3) := by decide +kernel
theorem dX6_straysFit_69 : decode cX6_straysFit 69 = .ok (.getfield 62, 3) := by decide +kernel
theorem dX6_straysFit_72 : decode cX6_straysFit 72 = .ok (.if_icmp .ge 102, 3) := by decide +kernel
theorem dX6_straysFit_75 : decode cX6_straysFit 75 = .ok (.aload_n 0, 1) := by decide +kernel
theorem dX6_straysFit_76 : decode cX6_straysFit 76 = .ok (.getfield 10, 3) := by decide +kernel
theorem dX6_straysFit_79 : decode cX6_straysFit 79 = .ok (.iload_n 1, 1) := by decide +kernel
theorem dX6_straysFit_80 : decode cX6_straysFit 80 = .ok (.invokevirtual 210, 3) := by decide +kernel
theorem dX6_straysFit_83 : decode cX6_straysFit 83 = .ok (.ifCond .eq 85, 3) := by decide +kernel
theorem dX6_straysFit_86 : decode cX6_straysFit 86 = .ok (.aload_n 0, 1) := by decide +kernel
theorem dX6_straysFit_87 : decode cX6_straysFit 87 = .ok (.getfield 10, 3) := by decide +kernel
theorem dX6_straysFit_90 : decode cX6_straysFit 90 = .ok (.getfield 53, 3) := by decide +kernel
theorem dX6_straysFit_93 : decode cX6_straysFit 93 = .ok (.iload_n 1, 1) := by decide +kernel
theorem dX6_straysFit_94 : decode cX6_straysFit 94 = .ok (.invokevirtual 84, 3) := by decide +kernel
theorem dX6_straysFit_97 : decode cX6_straysFit 97 = .ok (.istore_n 2, 1) := by decide +kernel
theorem dX6_straysFit_98 : decode cX6_straysFit 98 = .ok (.aload_n 0, 1) := by decide +kernel
theorem dX6_straysFit_99 : decode cX6_straysFit 99 = .ok (.getfield 10, 3) := by decide +kernel
theorem dX6_straysFit_102 : decode cX6_straysFit 102 = .ok (.aload_n 0, 1) := by decide +kernel
theorem dX6_straysFit_103 : decode cX6_straysFit 103 = .ok (.getfield 10, 3) := by decide +kernel
theorem dX6_straysFit_106 : decode cX6_straysFit 106 = .ok (.getfield 53, 3) := by decide +kernel
theorem dX6_straysFit_109 : decode cX6_straysFit 109 = .ok (.iload_n 1, 1) := by decide +kernel
theorem dX6_straysFit_110 : decode cX6_straysFit 110 = .ok (.invokevirtual 81, 3) := by decide +kernel
theorem dX6_straysFit_113 : decode cX6_straysFit 113 = .ok (.invokevirtual 49, 3) := by decide +kernel
theorem dX6_straysFit_116 : decode cX6_straysFit 116 = .ok (.istore_n 3, 1) := by decide +kernel
theorem dX6_straysFit_117 : decode cX6_straysFit 117 = .ok (.aload_n 0, 1) := by decide +kernel
theorem dX6_straysFit_118 : decode cX6_straysFit 118 = .ok (.getfield 39, 3) := by decide +kernel
theorem dX6_straysFit_121 : decode cX6_straysFit 121 = .ok (.iload_n 3, 1) := by decide +kernel
theorem dX6_straysFit_122 : decode cX6_straysFit 122 = .ok (.invokevirtual 271, 3) := by decide +kernel
theorem dX6_straysFit_125 : decode cX6_straysFit 125 = .ok (.bipush 30, 2) := by decide +kernel
theorem dX6_straysFit_127 : decode cX6_straysFit 127 = .ok (.if_icmp .lt 5, 3) := by decide +kernel
theorem dX6_straysFit_130 : decode cX6_straysFit 130 = .ok (.iconst 0, 1) := by decide +kernel
theorem dX6_straysFit_131 : decode cX6_straysFit 131 = .ok (.ireturn, 1) := by decide +kernel
theorem dX6_straysFit_132 : decode cX6_straysFit 132 = .ok (.aload_n 0, 1) := by decide +kernel
theorem dX6_straysFit_133 : decode cX6_straysFit 133 = .ok (.getfield 39, 3) := by decide +kernel
theorem dX6_straysFit_136 : decode cX6_straysFit 136 = .ok (.iload_n 2, 1) := by decide +kernel
theorem dX6_straysFit_137 : decode cX6_straysFit 137 = .ok (.aload_n 0, 1) := by decide +kernel
theorem dX6_straysFit_138 : decode cX6_straysFit 138 = .ok (.getfield 39, 3) := by decide +kernel
theorem dX6_straysFit_141 : decode cX6_straysFit 141 = .ok (.iload_n 2, 1) := by decide +kernel
theorem dX6_straysFit_142 : decode cX6_straysFit 142 = .ok (.invokevirtual 271, 3) := by decide +kernel
theorem dX6_straysFit_145 : decode cX6_straysFit 145 = .ok (.iconst 1, 1) := by decide +kernel
theorem dX6_straysFit_146 : decode cX6_straysFit 146 = .ok (.isub, 1) := by decide +kernel
theorem dX6_straysFit_147 : decode cX6_straysFit 147 = .ok (.invokevirtual 285, 3) := by decide +kernel
theorem dX6_straysFit_150 : decode cX6_straysFit 150 = .ok (.aload_n 0, 1) := by decide +kernel
theorem dX6_straysFit_151 : decode cX6_straysFit 151 = .ok (.getfield 39, 3) := by decide +kernel
theorem dX6_straysFit_154 : decode cX6_straysFit 154 = .ok (.iload_n 3, 1) := by decide +kernel
theorem dX6_straysFit_155 : decode cX6_straysFit 155 = .ok (.aload_n 0, 1) := by decide +kernel
theorem dX6_straysFit_156 : decode cX6_straysFit 156 = .ok (.getfield 39, 3) := by decide +kernel
theorem dX6_straysFit_159 : decode cX6_straysFit 159 = .ok (.iload_n 3, 1) := by decide +kernel
theorem dX6_straysFit_160 : decode cX6_straysFit 160 = .ok (.invokevirtual 271, 3) := by decide +kernel
theorem dX6_straysFit_163 : decode cX6_straysFit 163 = .ok (.iconst 1, 1) := by decide +kernel
theorem dX6_straysFit_164 : decode cX6_straysFit 164 = .ok (.iadd, 1) := by decide +kernel
theorem dX6_straysFit_165 : decode cX6_straysFit 165 = .ok (.invokevirtual 285, 3) := by decide +kernel
theorem dX6_straysFit_168 : decode cX6_straysFit 168 = .ok (.iinc 1 1, 3) := by decide +kernel
theorem dX6_straysFit_171 : decode cX6_straysFit 171 = .ok (.goto (-110), 3) := by decide +kernel
theorem dX6_straysFit_174 : decode cX6_straysFit 174 = .ok (.iconst 1, 1) := by decide +kernel
theorem dX6_straysFit_175 : decode cX6_straysFit 175 = .ok (.ireturn, 1) := by decide +kernel
theorem dX6_unevenness_0 : decode cX6_unevenness 0 = .ok (.aload_n 0, 1) := by decide +kernel
theorem dX6_unevenness_1 : decode cX6_unevenness 1 = .ok (.getfield 10, 3) := by decide +kernel
theorem dX6_unevenness_4 : decode cX6_unevenness 4 = .ok (.getfield 53, 3) := by decide +kernel
theorem dX6_unevenness_7 : decode cX6_unevenness 7 = .ok (.iload_n 1, 1) := by decide +kernel
theorem dX6_unevenness_8 : decode cX6_unevenness 8 = .ok (.iconst 0, 1) := by decide +kernel
theorem dX6_unevenness_9 : decode cX6_unevenness 9 = .ok (.iload_n 2, 1) := by decide +kernel
theorem dX6_unevenness_10 : decode cX6_unevenness 10 = .ok (.invokevirtual 94, 3) := by decide +kernel
theorem dX6_unevenness_13 : decode cX6_unevenness 13 = .ok (.istore 4, 2) := by decide +kernel
theorem dX6_unevenness_15 : decode cX6_unevenness 15 = .ok (.iload_n 3, 1) := by decide +kernel
theorem dX6_unevenness_16 : decode cX6_unevenness 16 = .ok (.iconst 2, 1) := by decide +kernel
theorem dX6_unevenness_17 : decode cX6_unevenness 17 = .ok (.iload 4, 2) := by decide +kernel
theorem dX6_unevenness_19 : decode cX6_unevenness 19 = .ok (.imul, 1) := by decide +kernel
theorem dX6_unevenness_20 : decode cX6_unevenness 20 = .ok (.isub, 1) := by decide +kernel
theorem dX6_unevenness_21 : decode cX6_unevenness 21 = .ok (.invokestatic 288, 3) := by decide +kernel
theorem dX6_unevenness_24 : decode cX6_unevenness 24 = .ok (.ireturn, 1) := by decide +kernel
theorem dX6_markLooked_0 : decode cX6_markLooked 0 = .ok (.aload_n 0, 1) := by decide +kernel
theorem dX6_markLooked_1 : decode cX6_markLooked 1 = .ok (.getfield 35, 3) := by decide +kernel
theorem dX6_markLooked_4 : decode cX6_markLooked 4 = .ok (.invokevirtual 282, 3) := by decide +kernel
theorem dX6_markLooked_7 : decode cX6_markLooked 7 = .ok (.iconst 0, 1) := by decide +kernel
theorem dX6_markLooked_8 : decode cX6_markLooked 8 = .ok (.istore_n 2, 1) := by decide +kernel
theorem dX6_markLooked_9 : decode cX6_markLooked 9 = .ok (.iload_n 2, 1) := by decide +kernel
theorem dX6_markLooked_10 : decode cX6_markLooked 10 = .ok (.aload_n 0, 1) := by decide +kernel
theorem dX6_markLooked_11 : decode cX6_markLooked 11 = .ok (.getfield 10, 3) := by decide +kernel
theorem dX6_markLooked_14 : decode cX6_markLooked 14 = .ok (.getfield 97, 3) := by decide +kernel
theorem dX6_markLooked_17 : decode cX6_markLooked 17 = .ok (.getfield 197, 3) := by decide +kernel
theorem dX6_markLooked_20 : decode cX6_markLooked 20 = .ok (.if_icmp .ge 37, 3) := by decide +kernel
theorem dX6_markLooked_23 : decode cX6_markLooked 23 = .ok (.aload_n 0, 1) := by decide +kernel
theorem dX6_markLooked_24 : decode cX6_markLooked 24 = .ok (.iload_n 2, 1) := by decide +kernel
theorem dX6_markLooked_25 : decode cX6_markLooked 25 = .ok (.iload_n 1, 1) := by decide +kernel
theorem dX6_markLooked_26 : decode cX6_markLooked 26 = .ok (.invokevirtual 293, 3) := by decide +kernel
theorem dX6_markLooked_29 : decode cX6_markLooked 29 = .ok (.ifCond .eq 22, 3) := by decide +kernel
theorem dX6_markLooked_32 : decode cX6_markLooked 32 = .ok (.aload_n 0, 1) := by decide +kernel
theorem dX6_markLooked_33 : decode cX6_markLooked 33 = .ok (.getfield 35, 3) := by decide +kernel
theorem dX6_markLooked_36 : decode cX6_markLooked 36 = .ok (.aload_n 0, 1) := by decide +kernel
theorem dX6_markLooked_37 : decode cX6_markLooked 37 = .ok (.getfield 10, 3) := by decide +kernel
theorem dX6_markLooked_40 : decode cX6_markLooked 40 = .ok (.getfield 97, 3) := by decide +kernel
theorem dX6_markLooked_43 : decode cX6_markLooked 43 = .ok (.iload_n 2, 1) := by decide +kernel
theorem dX6_markLooked_44 : decode cX6_markLooked 44 = .ok (.invokevirtual 225, 3) := by decide +kernel
theorem dX6_markLooked_47 : decode cX6_markLooked 47 = .ok (.iconst 1, 1) := by decide +kernel
theorem dX6_markLooked_48 : decode cX6_markLooked 48 = .ok (.invokevirtual 285, 3) := by decide +kernel
theorem dX6_markLooked_51 : decode cX6_markLooked 51 = .ok (.iinc 2 1, 3) := by decide +kernel
theorem dX6_markLooked_54 : decode cX6_markLooked 54 = .ok (.goto (-45), 3) := by decide +kernel
theorem dX6_markLooked_57 : decode cX6_markLooked 57 = .ok (.aload_n 0, 1) := by decide +kernel
theorem dX6_markLooked_58 : decode cX6_markLooked 58 = .ok (.getfield 10, 3) := by decide +kernel
theorem dX6_markLooked_61 : decode cX6_markLooked 61 = .ok (.getfield 152, 3) := by decide +kernel
theorem dX6_markLooked_64 : decode cX6_markLooked 64 = .ok (.ifCond .eq 25, 3) := by decide +kernel
theorem dX6_markLooked_67 : decode cX6_markLooked 67 = .ok (.iload_n 1, 1) := by decide +kernel
theorem dX6_markLooked_68 : decode cX6_markLooked 68 = .ok (.iconst 2, 1) := by decide +kernel
theorem dX6_markLooked_69 : decode cX6_markLooked 69 = .ok (.if_icmp .ne 10, 3) := by decide +kernel
theorem dX6_markLooked_72 : decode cX6_markLooked 72 = .ok (.aload_n 0, 1) := by decide +kernel
theorem dX6_markLooked_73 : decode cX6_markLooked 73 = .ok (.invokevirtual 296, 3) := by decide +kernel
theorem dX6_markLooked_76 : decode cX6_markLooked 76 = .ok (.ifCond .eq 13, 3) := by decide +kernel
theorem dX6_markLooked_79 : decode cX6_markLooked 79 = .ok (.aload_n 0, 1) := by decide +kernel
theorem dX6_markLooked_80 : decode cX6_markLooked 80 = .ok (.getfield 35, 3) := by decide +kernel
theorem dX6_markLooked_83 : decode cX6_markLooked 83 = .ok (.bipush 60, 2) := by decide +kernel
theorem dX6_markLooked_85 : decode cX6_markLooked 85 = .ok (.iconst 1, 1) := by decide +kernel
theorem dX6_markLooked_86 : decode cX6_markLooked 86 = .ok (.invokevirtual 285, 3) := by decide +kernel
theorem dX6_markLooked_89 : decode cX6_markLooked 89 = .ok (.return_, 1) := by decide +kernel
theorem dX6_sliceMayHold_0 : decode cX6_sliceMayHold 0 = .ok (.aload_n 0, 1) := by decide +kernel
theorem dX6_sliceMayHold_1 : decode cX6_sliceMayHold 1 = .ok (.getfield 10, 3) := by decide +kernel
theorem dX6_sliceMayHold_4 : decode cX6_sliceMayHold 4 = .ok (.getfield 97, 3) := by decide +kernel
theorem dX6_sliceMayHold_7 : decode cX6_sliceMayHold 7 = .ok (.iload_n 1, 1) := by decide +kernel
theorem dX6_sliceMayHold_8 : decode cX6_sliceMayHold 8 = .ok (.invokevirtual 133, 3) := by decide +kernel
theorem dX6_sliceMayHold_11 : decode cX6_sliceMayHold 11 = .ok (.istore_n 3, 1) := by decide +kernel
theorem dX6_sliceMayHold_12 : decode cX6_sliceMayHold 12 = .ok (.aload_n 0, 1) := by decide +kernel
theorem dX6_sliceMayHold_13 : decode cX6_sliceMayHold 13 = .ok (.getfield 10, 3) := by decide +kernel
theorem dX6_sliceMayHold_16 : decode cX6_sliceMayHold 16 = .ok (.getfield 97, 3) := by decide +kernel
theorem dX6_sliceMayHold_19 : decode cX6_sliceMayHold 19 = .ok (.iload_n 1, 1) := by decide +kernel
theorem dX6_sliceMayHold_20 : decode cX6_sliceMayHold 20 = .ok (.invokevirtual 136, 3) := by decide +kernel
theorem dX6_sliceMayHold_23 : decode cX6_sliceMayHold 23 = .ok (.iconst 1, 1) := by decide +kernel
theorem dX6_sliceMayHold_24 : decode cX6_sliceMayHold 24 = .ok (.isub, 1) := by decide +kernel
theorem dX6_sliceMayHold_25 : decode cX6_sliceMayHold 25 = .ok (.istore 4, 2) := by decide +kernel
theorem dX6_sliceMayHold_27 : decode cX6_sliceMayHold 27 = .ok (.iload_n 2, 1) := by decide +kernel
theorem dX6_sliceMayHold_28 : decode cX6_sliceMayHold 28 = .ok (.lookupswitch 60 #[(1, 28), (2, 49)], 28) := by decide +kernel
theorem dX6_sliceMayHold_56 : decode cX6_sliceMayHold 56 = .ok (.aload_n 0, 1) := by decide +kernel
theorem dX6_sliceMayHold_57 : decode cX6_sliceMayHold 57 = .ok (.getfield 26, 3) := by decide +kernel
theorem dX6_sliceMayHold_60 : decode cX6_sliceMayHold 60 = .ok (.iload_n 3, 1) := by decide +kernel
theorem dX6_sliceMayHold_61 : decode cX6_sliceMayHold 61 = .ok (.iload 4, 2) := by decide +kernel
theorem dX6_sliceMayHold_63 : decode cX6_sliceMayHold 63 = .ok (.iconst 0, 1) := by decide +kernel
theorem dX6_sliceMayHold_64 : decode cX6_sliceMayHold 64 = .ok (.iconst 0, 1) := by decide +kernel
theorem dX6_sliceMayHold_65 : decode cX6_sliceMayHold 65 = .ok (.invokevirtual 299, 3) := by decide +kernel
theorem dX6_sliceMayHold_68 : decode cX6_sliceMayHold 68 = .ok (.ifCond .eq 7, 3) := by decide +kernel
theorem dX6_sliceMayHold_71 : decode cX6_sliceMayHold 71 = .ok (.iconst 1, 1) := by decide +kernel
theorem dX6_sliceMayHold_72 : decode cX6_sliceMayHold 72 = .ok (.goto 4, 3) := by decide +kernel
theorem dX6_sliceMayHold_75 : decode cX6_sliceMayHold 75 = .ok (.iconst 0, 1) := by decide +kernel
theorem dX6_sliceMayHold_76 : decode cX6_sliceMayHold 76 = .ok (.ireturn, 1) := by decide +kernel
theorem dX6_sliceMayHold_77 : decode cX6_sliceMayHold 77 = .ok (.aload_n 0, 1) := by decide +kernel
theorem dX6_sliceMayHold_78 : decode cX6_sliceMayHold 78 = .ok (.getfield 26, 3) := by decide +kernel
theorem dX6_sliceMayHold_81 : decode cX6_sliceMayHold 81 = .ok (.iload_n 3, 1) := by decide +kernel
theorem dX6_sliceMayHold_82 : decode cX6_sliceMayHold 82 = .ok (.iload 4, 2) := by decide +kernel
theorem dX6_sliceMayHold_84 : decode cX6_sliceMayHold 84 = .ok (.invokevirtual 303, 3) := by decide +kernel
theorem dX6_sliceMayHold_87 : decode cX6_sliceMayHold 87 = .ok (.ireturn, 1) := by decide +kernel
theorem dX6_sliceMayHold_88 : decode cX6_sliceMayHold 88 = .ok (.iconst 1, 1) := by decide +kernel
theorem dX6_sliceMayHold_89 : decode cX6_sliceMayHold 89 = .ok (.ireturn, 1) := by decide +kernel
theorem dX6_someFreeKeyMayHold_0 : decode cX6_someFreeKeyMayHold 0 = .ok (.iconst 0, 1) := by decide +kernel
theorem dX6_someFreeKeyMayHold_1 : decode cX6_someFreeKeyMayHold 1 = .ok (.istore_n 1, 1) := by decide +kernel
theorem dX6_someFreeKeyMayHold_2 : decode cX6_someFreeKeyMayHold 2 = .ok (.iload_n 1, 1) := by decide +kernel
theorem dX6_someFreeKeyMayHold_3 : decode cX6_someFreeKeyMayHold 3 = .ok (.aload_n 0, 1) := by decide +kernel
theorem dX6_someFreeKeyMayHold_4 : decode cX6_someFreeKeyMayHold 4 = .ok (.getfield 10, 3) := by decide +kernel
theorem dX6_someFreeKeyMayHold_7 : decode cX6_someFreeKeyMayHold 7 = .ok (.getfield 97, 3) := by decide +kernel
theorem dX6_someFreeKeyMayHold_10 : decode cX6_someFreeKeyMayHold 10 = .ok (.getfield 197, 3) := by decide +kernel
theorem dX6_someFreeKeyMayHold_13 : decode cX6_someFreeKeyMayHold 13 = .ok (.if_icmp .gt 54, 3) := by decide +kernel
theorem dX6_someFreeKeyMayHold_16 : decode cX6_someFreeKeyMayHold 16 = .ok (.aload_n 0, 1) := by decide +kernel
theorem dX6_someFreeKeyMayHold_17 : decode cX6_someFreeKeyMayHold 17 = .ok (.getfield 10, 3) := by decide +kernel
theorem dX6_someFreeKeyMayHold_20 : decode cX6_someFreeKeyMayHold 20 = .ok (.getfield 97, 3) := by decide +kernel
theorem dX6_someFreeKeyMayHold_23 : decode cX6_someFreeKeyMayHold 23 = .ok (.iload_n 1, 1) := by decide +kernel
theorem dX6_someFreeKeyMayHold_24 : decode cX6_someFreeKeyMayHold 24 = .ok (.invokevirtual 234, 3) := by decide +kernel
theorem dX6_someFreeKeyMayHold_27 : decode cX6_someFreeKeyMayHold 27 = .ok (.istore_n 2, 1) := by decide +kernel
theorem dX6_someFreeKeyMayHold_28 : decode cX6_someFreeKeyMayHold 28 = .ok (.aload_n 0, 1) := by decide +kernel
theorem dX6_someFreeKeyMayHold_29 : decode cX6_someFreeKeyMayHold 29 = .ok (.getfield 10, 3) := by decide +kernel
theorem dX6_someFreeKeyMayHold_32 : decode cX6_someFreeKeyMayHold 32 = .ok (.getfield 97, 3) := by decide +kernel
theorem dX6_someFreeKeyMayHold_35 : decode cX6_someFreeKeyMayHold 35 = .ok (.iload_n 1, 1) := by decide +kernel
theorem dX6_someFreeKeyMayHold_36 : decode cX6_someFreeKeyMayHold 36 = .ok (.invokevirtual 237, 3) := by decide +kernel
theorem dX6_someFreeKeyMayHold_39 : decode cX6_someFreeKeyMayHold 39 = .ok (.iconst 1, 1) := by decide +kernel
theorem dX6_someFreeKeyMayHold_40 : decode cX6_someFreeKeyMayHold 40 = .ok (.isub, 1) := by decide +kernel
theorem dX6_someFreeKeyMayHold_41 : decode cX6_someFreeKeyMayHold 41 = .ok (.istore_n 3, 1) := by decide +kernel
theorem dX6_someFreeKeyMayHold_42 : decode cX6_someFreeKeyMayHold 42 = .ok (.iload_n 2, 1) := by decide +kernel
theorem dX6_someFreeKeyMayHold_43 : decode cX6_someFreeKeyMayHold 43 = .ok (.iload_n 3, 1) := by decide +kernel
theorem dX6_someFreeKeyMayHold_44 : decode cX6_someFreeKeyMayHold 44 = .ok (.if_icmp .gt 17, 3) := by decide +kernel
theorem dX6_someFreeKeyMayHold_47 : decode cX6_someFreeKeyMayHold 47 = .ok (.aload_n 0, 1) := by decide +kernel
theorem dX6_someFreeKeyMayHold_48 : decode cX6_someFreeKeyMayHold 48 = .ok (.getfield 26, 3) := by decide +kernel
theorem dX6_someFreeKeyMayHold_51 : decode cX6_someFreeKeyMayHold 51 = .ok (.iload_n 2, 1) := by decide +kernel
theorem dX6_someFreeKeyMayHold_52 : decode cX6_someFreeKeyMayHold 52 = .ok (.iload_n 3, 1) := by decide +kernel
theorem dX6_someFreeKeyMayHold_53 : decode cX6_someFreeKeyMayHold 53 = .ok (.invokevirtual 303, 3) := by decide +kernel
theorem dX6_someFreeKeyMayHold_56 : decode cX6_someFreeKeyMayHold 56 = .ok (.ifCond .eq 5, 3) := by decide +kernel
theorem dX6_someFreeKeyMayHold_59 : decode cX6_someFreeKeyMayHold 59 = .ok (.iconst 1, 1) := by decide +kernel
theorem dX6_someFreeKeyMayHold_60 : decode cX6_someFreeKeyMayHold 60 = .ok (.ireturn, 1) := by decide +kernel
theorem dX6_someFreeKeyMayHold_61 : decode cX6_someFreeKeyMayHold 61 = .ok (.iinc 1 1, 3) := by decide +kernel
theorem dX6_someFreeKeyMayHold_64 : decode cX6_someFreeKeyMayHold 64 = .ok (.goto (-62), 3) := by decide +kernel
theorem dX6_someFreeKeyMayHold_67 : decode cX6_someFreeKeyMayHold 67 = .ok (.iconst 0, 1) := by decide +kernel
theorem dX6_someFreeKeyMayHold_68 : decode cX6_someFreeKeyMayHold 68 = .ok (.ireturn, 1) := by decide +kernel
theorem dX6_isLooked_0 : decode cX6_isLooked 0 = .ok (.aload_n 0, 1) := by decide +kernel
theorem dX6_isLooked_1 : decode cX6_isLooked 1 = .ok (.getfield 35, 3) := by decide +kernel
theorem dX6_isLooked_4 : decode cX6_isLooked 4 = .ok (.aload_n 0, 1) := by decide +kernel
theorem dX6_isLooked_5 : decode cX6_isLooked 5 = .ok (.getfield 10, 3) := by decide +kernel
theorem dX6_isLooked_8 : decode cX6_isLooked 8 = .ok (.getfield 53, 3) := by decide +kernel
theorem dX6_isLooked_11 : decode cX6_isLooked 11 = .ok (.iload_n 1, 1) := by decide +kernel
theorem dX6_isLooked_12 : decode cX6_isLooked 12 = .ok (.invokevirtual 84, 3) := by decide +kernel
theorem dX6_isLooked_15 : decode cX6_isLooked 15 = .ok (.invokevirtual 271, 3) := by decide +kernel
theorem dX6_isLooked_18 : decode cX6_isLooked 18 = .ok (.iconst 1, 1) := by decide +kernel
theorem dX6_isLooked_19 : decode cX6_isLooked 19 = .ok (.if_icmp .ne 7, 3) := by decide +kernel
theorem dX6_isLooked_22 : decode cX6_isLooked 22 = .ok (.iconst 1, 1) := by decide +kernel
theorem dX6_isLooked_23 : decode cX6_isLooked 23 = .ok (.goto 4, 3) := by decide +kernel
theorem dX6_isLooked_26 : decode cX6_isLooked 26 = .ok (.iconst 0, 1) := by decide +kernel
theorem dX6_isLooked_27 : decode cX6_isLooked 27 = .ok (.ireturn, 1) := by decide +kernel
theorem dX6_rowPasses_0 : decode cX6_rowPasses 0 = .ok (.aload_n 0, 1) := by decide +kernel
theorem dX6_rowPasses_1 : decode cX6_rowPasses 1 = .ok (.getfield 10, 3) := by decide +kernel
theorem dX6_rowPasses_4 : decode cX6_rowPasses 4 = .ok (.getfield 53, 3) := by decide +kernel
theorem dX6_rowPasses_7 : decode cX6_rowPasses 7 = .ok (.iload_n 1, 1) := by decide +kernel
theorem dX6_rowPasses_8 : decode cX6_rowPasses 8 = .ok (.invokevirtual 81, 3) := by decide +kernel
theorem dX6_rowPasses_11 : decode cX6_rowPasses 11 = .ok (.istore_n 2, 1) := by decide +kernel
theorem dX6_rowPasses_12 : decode cX6_rowPasses 12 = .ok (.aload_n 0, 1) := by decide +kernel
theorem dX6_rowPasses_13 : decode cX6_rowPasses 13 = .ok (.getfield 26, 3) := by decide +kernel
theorem dX6_rowPasses_16 : decode cX6_rowPasses 16 = .ok (.iload_n 2, 1) := by decide +kernel
theorem dX6_rowPasses_17 : decode cX6_rowPasses 17 = .ok (.iload_n 2, 1) := by decide +kernel
theorem dX6_rowPasses_18 : decode cX6_rowPasses 18 = .ok (.iconst 1, 1) := by decide +kernel
theorem dX6_rowPasses_19 : decode cX6_rowPasses 19 = .ok (.aload_n 0, 1) := by decide +kernel
theorem dX6_rowPasses_20 : decode cX6_rowPasses 20 = .ok (.getfield 10, 3) := by decide +kernel
theorem dX6_rowPasses_23 : decode cX6_rowPasses 23 = .ok (.getfield 53, 3) := by decide +kernel
theorem dX6_rowPasses_26 : decode cX6_rowPasses 26 = .ok (.iload_n 1, 1) := by decide +kernel
theorem dX6_rowPasses_27 : decode cX6_rowPasses 27 = .ok (.invokevirtual 207, 3) := by decide +kernel
theorem dX6_rowPasses_30 : decode cX6_rowPasses 30 = .ok (.invokevirtual 299, 3) := by decide +kernel
theorem dX6_rowPasses_33 : decode cX6_rowPasses 33 = .ok (.iconst 2, 1) := by decide +kernel
theorem dX6_rowPasses_34 : decode cX6_rowPasses 34 = .ok (.if_icmp .ne 7, 3) := by decide +kernel
theorem dX6_rowPasses_37 : decode cX6_rowPasses 37 = .ok (.iconst 1, 1) := by decide +kernel
theorem dX6_rowPasses_38 : decode cX6_rowPasses 38 = .ok (.goto 4, 3) := by decide +kernel
theorem dX6_rowPasses_41 : decode cX6_rowPasses 41 = .ok (.iconst 0, 1) := by decide +kernel
theorem dX6_rowPasses_42 : decode cX6_rowPasses 42 = .ok (.ireturn, 1) := by decide +kernel
theorem dX6_isAnswer_0 : decode cX6_isAnswer 0 = .ok (.aload_n 0, 1) := by decide +kernel
theorem dX6_isAnswer_1 : decode cX6_isAnswer 1 = .ok (.iload_n 1, 1) := by decide +kernel
theorem dX6_isAnswer_2 : decode cX6_isAnswer 2 = .ok (.invokevirtual 306, 3) := by decide +kernel
theorem dX6_isAnswer_5 : decode cX6_isAnswer 5 = .ok (.ifCond .eq 15, 3) := by decide +kernel
theorem dX6_isAnswer_8 : decode cX6_isAnswer 8 = .ok (.aload_n 0, 1) := by decide +kernel
theorem dX6_isAnswer_9 : decode cX6_isAnswer 9 = .ok (.iload_n 1, 1) := by decide +kernel
theorem dX6_isAnswer_10 : decode cX6_isAnswer 10 = .ok (.invokevirtual 274, 3) := by decide +kernel
theorem dX6_isAnswer_13 : decode cX6_isAnswer 13 = .ok (.ifCond .eq 7, 3) := by decide +kernel
theorem dX6_isAnswer_16 : decode cX6_isAnswer 16 = .ok (.iconst 1, 1) := by decide +kernel
theorem dX6_isAnswer_17 : decode cX6_isAnswer 17 = .ok (.goto 4, 3) := by decide +kernel
theorem dX6_isAnswer_20 : decode cX6_isAnswer 20 = .ok (.iconst 0, 1) := by decide +kernel
theorem dX6_isAnswer_21 : decode cX6_isAnswer 21 = .ok (.ireturn, 1) := by decide +kernel
theorem dX6_answerAmount_0 : decode cX6_answerAmount 0 = .ok (.iconst 0, 1) := by decide +kernel
theorem dX6_answerAmount_1 : decode cX6_answerAmount 1 = .ok (.istore_n 1, 1) := by decide +kernel
theorem dX6_answerAmount_2 : decode cX6_answerAmount 2 = .ok (.iconst 0, 1) := by decide +kernel
theorem dX6_answerAmount_3 : decode cX6_answerAmount 3 = .ok (.istore_n 2, 1) := by decide +kernel
theorem dX6_answerAmount_4 : decode cX6_answerAmount 4 = .ok (.iload_n 2, 1) := by decide +kernel
theorem dX6_answerAmount_5 : decode cX6_answerAmount 5 = .ok (.aload_n 0, 1) := by decide +kernel
theorem dX6_answerAmount_6 : decode cX6_answerAmount 6 = .ok (.getfield 10, 3) := by decide +kernel
theorem dX6_answerAmount_9 : decode cX6_answerAmount 9 = .ok (.getfield 53, 3) := by decide +kernel
theorem dX6_answerAmount_12 : decode cX6_answerAmount 12 = .ok (.getfield 62, 3) := by decide +kernel
theorem dX6_answerAmount_15 : decode cX6_answerAmount 15 = .ok (.if_icmp .ge 20, 3) := by decide +kernel
theorem dX6_answerAmount_18 : decode cX6_answerAmount 18 = .ok (.aload_n 0, 1) := by decide +kernel
theorem dX6_answerAmount_19 : decode cX6_answerAmount 19 = .ok (.iload_n 2, 1) := by decide +kernel
theorem dX6_answerAmount_20 : decode cX6_answerAmount 20 = .ok (.invokevirtual 268, 3) := by decide +kernel
theorem dX6_answerAmount_23 : decode cX6_answerAmount 23 = .ok (.ifCond .eq 6, 3) := by decide +kernel
theorem dX6_answerAmount_26 : decode cX6_answerAmount 26 = .ok (.iinc 1 1, 3) := by decide +kernel
theorem dX6_answerAmount_29 : decode cX6_answerAmount 29 = .ok (.iinc 2 1, 3) := by decide +kernel
theorem dX6_answerAmount_32 : decode cX6_answerAmount 32 = .ok (.goto (-28), 3) := by decide +kernel
theorem dX6_answerAmount_35 : decode cX6_answerAmount 35 = .ok (.iload_n 1, 1) := by decide +kernel
theorem dX6_answerAmount_36 : decode cX6_answerAmount 36 = .ok (.ireturn, 1) := by decide +kernel
theorem dX6_answerSum_0 : decode cX6_answerSum 0 = .ok (.iconst 0, 1) := by decide +kernel
theorem dX6_answerSum_1 : decode cX6_answerSum 1 = .ok (.istore_n 1, 1) := by decide +kernel
theorem dX6_answerSum_2 : decode cX6_answerSum 2 = .ok (.iconst 0, 1) := by decide +kernel
theorem dX6_answerSum_3 : decode cX6_answerSum 3 = .ok (.istore_n 2, 1) := by decide +kernel
theorem dX6_answerSum_4 : decode cX6_answerSum 4 = .ok (.iload_n 2, 1) := by decide +kernel
theorem dX6_answerSum_5 : decode cX6_answerSum 5 = .ok (.aload_n 0, 1) := by decide +kernel
theorem dX6_answerSum_6 : decode cX6_answerSum 6 = .ok (.getfield 10, 3) := by decide +kernel
theorem dX6_answerSum_9 : decode cX6_answerSum 9 = .ok (.getfield 53, 3) := by decide +kernel
theorem dX6_answerSum_12 : decode cX6_answerSum 12 = .ok (.getfield 62, 3) := by decide +kernel
theorem dX6_answerSum_15 : decode cX6_answerSum 15 = .ok (.if_icmp .ge 31, 3) := by decide +kernel
theorem dX6_answerSum_18 : decode cX6_answerSum 18 = .ok (.aload_n 0, 1) := by decide +kernel
theorem dX6_answerSum_19 : decode cX6_answerSum 19 = .ok (.iload_n 2, 1) := by decide +kernel
theorem dX6_answerSum_20 : decode cX6_answerSum 20 = .ok (.invokevirtual 268, 3) := by decide +kernel
theorem dX6_answerSum_23 : decode cX6_answerSum 23 = .ok (.ifCond .eq 17, 3) := by decide +kernel
theorem dX6_answerSum_26 : decode cX6_answerSum 26 = .ok (.iload_n 1, 1) := by decide +kernel
theorem dX6_answerSum_27 : decode cX6_answerSum 27 = .ok (.aload_n 0, 1) := by decide +kernel
theorem dX6_answerSum_28 : decode cX6_answerSum 28 = .ok (.getfield 10, 3) := by decide +kernel
theorem dX6_answerSum_31 : decode cX6_answerSum 31 = .ok (.getfield 53, 3) := by decide +kernel
theorem dX6_answerSum_34 : decode cX6_answerSum 34 = .ok (.iload_n 2, 1) := by decide +kernel
theorem dX6_answerSum_35 : decode cX6_answerSum 35 = .ok (.invokevirtual 207, 3) := by decide +kernel
theorem dX6_answerSum_38 : decode cX6_answerSum 38 = .ok (.iadd, 1) := by decide +kernel
theorem dX6_answerSum_39 : decode cX6_answerSum 39 = .ok (.istore_n 1, 1) := by decide +kernel
theorem dX6_answerSum_40 : decode cX6_answerSum 40 = .ok (.iinc 2 1, 3) := by decide +kernel
theorem dX6_answerSum_43 : decode cX6_answerSum 43 = .ok (.goto (-39), 3) := by decide +kernel
theorem dX6_answerSum_46 : decode cX6_answerSum 46 = .ok (.iload_n 1, 1) := by decide +kernel
theorem dX6_answerSum_47 : decode cX6_answerSum 47 = .ok (.ireturn, 1) := by decide +kernel
theorem dX6_wholeAmount_0 : decode cX6_wholeAmount 0 = .ok (.iconst 0, 1) := by decide +kernel
theorem dX6_wholeAmount_1 : decode cX6_wholeAmount 1 = .ok (.istore_n 1, 1) := by decide +kernel
theorem dX6_wholeAmount_2 : decode cX6_wholeAmount 2 = .ok (.iconst 0, 1) := by decide +kernel
theorem dX6_wholeAmount_3 : decode cX6_wholeAmount 3 = .ok (.istore_n 2, 1) := by decide +kernel
theorem dX6_wholeAmount_4 : decode cX6_wholeAmount 4 = .ok (.iload_n 2, 1) := by decide +kernel
theorem dX6_wholeAmount_5 : decode cX6_wholeAmount 5 = .ok (.aload_n 0, 1) := by decide +kernel
theorem dX6_wholeAmount_6 : decode cX6_wholeAmount 6 = .ok (.getfield 10, 3) := by decide +kernel
theorem dX6_wholeAmount_9 : decode cX6_wholeAmount 9 = .ok (.getfield 53, 3) := by decide +kernel
theorem dX6_wholeAmount_12 : decode cX6_wholeAmount 12 = .ok (.getfield 62, 3) := by decide +kernel
theorem dX6_wholeAmount_15 : decode cX6_wholeAmount 15 = .ok (.if_icmp .ge 34, 3) := by decide +kernel
theorem dX6_wholeAmount_18 : decode cX6_wholeAmount 18 = .ok (.aload_n 0, 1) := by decide +kernel
theorem dX6_wholeAmount_19 : decode cX6_wholeAmount 19 = .ok (.getfield 10, 3) := by decide +kernel
theorem dX6_wholeAmount_22 : decode cX6_wholeAmount 22 = .ok (.getfield 53, 3) := by decide +kernel
theorem dX6_wholeAmount_25 : decode cX6_wholeAmount 25 = .ok (.iload_n 2, 1) := by decide +kernel
theorem dX6_wholeAmount_26 : decode cX6_wholeAmount 26 = .ok (.invokevirtual 309, 3) := by decide +kernel
theorem dX6_wholeAmount_29 : decode cX6_wholeAmount 29 = .ok (.ifCond .eq 14, 3) := by decide +kernel
theorem dX6_wholeAmount_32 : decode cX6_wholeAmount 32 = .ok (.aload_n 0, 1) := by decide +kernel
theorem dX6_wholeAmount_33 : decode cX6_wholeAmount 33 = .ok (.iload_n 2, 1) := by decide +kernel
theorem dX6_wholeAmount_34 : decode cX6_wholeAmount 34 = .ok (.invokevirtual 274, 3) := by decide +kernel
theorem dX6_wholeAmount_37 : decode cX6_wholeAmount 37 = .ok (.ifCond .eq 6, 3) := by decide +kernel
theorem dX6_wholeAmount_40 : decode cX6_wholeAmount 40 = .ok (.iinc 1 1, 3) := by decide +kernel
theorem dX6_wholeAmount_43 : decode cX6_wholeAmount 43 = .ok (.iinc 2 1, 3) := by decide +kernel
theorem dX6_wholeAmount_46 : decode cX6_wholeAmount 46 = .ok (.goto (-42), 3) := by decide +kernel
theorem dX6_wholeAmount_49 : decode cX6_wholeAmount 49 = .ok (.iload_n 1, 1) := by decide +kernel
theorem dX6_wholeAmount_50 : decode cX6_wholeAmount 50 = .ok (.ireturn, 1) := by decide +kernel
theorem dX6_lookedPlaces_0 : decode cX6_lookedPlaces 0 = .ok (.iconst 0, 1) := by decide +kernel
theorem dX6_lookedPlaces_1 : decode cX6_lookedPlaces 1 = .ok (.istore_n 1, 1) := by decide +kernel
theorem dX6_lookedPlaces_2 : decode cX6_lookedPlaces 2 = .ok (.iconst 0, 1) := by decide +kernel
theorem dX6_lookedPlaces_3 : decode cX6_lookedPlaces 3 = .ok (.istore_n 2, 1) := by decide +kernel
theorem dX6_lookedPlaces_4 : decode cX6_lookedPlaces 4 = .ok (.iload_n 2, 1) := by decide +kernel
theorem dX6_lookedPlaces_5 : decode cX6_lookedPlaces 5 = .ok (.bipush 62, 2) := by decide +kernel
theorem dX6_lookedPlaces_7 : decode cX6_lookedPlaces 7 = .ok (.if_icmp .ge 20, 3) := by decide +kernel
theorem dX6_lookedPlaces_10 : decode cX6_lookedPlaces 10 = .ok (.iload_n 1, 1) := by decide +kernel
theorem dX6_lookedPlaces_11 : decode cX6_lookedPlaces 11 = .ok (.aload_n 0, 1) := by decide +kernel
theorem dX6_lookedPlaces_12 : decode cX6_lookedPlaces 12 = .ok (.getfield 35, 3) := by decide +kernel
theorem dX6_lookedPlaces_15 : decode cX6_lookedPlaces 15 = .ok (.iload_n 2, 1) := by decide +kernel
theorem dX6_lookedPlaces_16 : decode cX6_lookedPlaces 16 = .ok (.invokevirtual 271, 3) := by decide +kernel
theorem dX6_lookedPlaces_19 : decode cX6_lookedPlaces 19 = .ok (.iadd, 1) := by decide +kernel
theorem dX6_lookedPlaces_20 : decode cX6_lookedPlaces 20 = .ok (.istore_n 1, 1) := by decide +kernel
theorem dX6_lookedPlaces_21 : decode cX6_lookedPlaces 21 = .ok (.iinc 2 1, 3) := by decide +kernel
theorem dX6_lookedPlaces_24 : decode cX6_lookedPlaces 24 = .ok (.goto (-20), 3) := by decide +kernel
theorem dX6_lookedPlaces_27 : decode cX6_lookedPlaces 27 = .ok (.iload_n 1, 1) := by decide +kernel
theorem dX6_lookedPlaces_28 : decode cX6_lookedPlaces 28 = .ok (.ireturn, 1) := by decide +kernel
theorem dX6_lookedRows_0 : decode cX6_lookedRows 0 = .ok (.iconst 0, 1) := by decide +kernel
theorem dX6_lookedRows_1 : decode cX6_lookedRows 1 = .ok (.istore_n 1, 1) := by decide +kernel
theorem dX6_lookedRows_2 : decode cX6_lookedRows 2 = .ok (.iconst 0, 1) := by decide +kernel
theorem dX6_lookedRows_3 : decode cX6_lookedRows 3 = .ok (.istore_n 2, 1) := by decide +kernel
theorem dX6_lookedRows_4 : decode cX6_lookedRows 4 = .ok (.iload_n 2, 1) := by decide +kernel
theorem dX6_lookedRows_5 : decode cX6_lookedRows 5 = .ok (.aload_n 0, 1) := by decide +kernel
theorem dX6_lookedRows_6 : decode cX6_lookedRows 6 = .ok (.getfield 10, 3) := by decide +kernel
theorem dX6_lookedRows_9 : decode cX6_lookedRows 9 = .ok (.getfield 53, 3) := by decide +kernel
theorem dX6_lookedRows_12 : decode cX6_lookedRows 12 = .ok (.getfield 62, 3) := by decide +kernel
theorem dX6_lookedRows_15 : decode cX6_lookedRows 15 = .ok (.if_icmp .ge 20, 3) := by decide +kernel
theorem dX6_lookedRows_18 : decode cX6_lookedRows 18 = .ok (.aload_n 0, 1) := by decide +kernel
theorem dX6_lookedRows_19 : decode cX6_lookedRows 19 = .ok (.iload_n 2, 1) := by decide +kernel
theorem dX6_lookedRows_20 : decode cX6_lookedRows 20 = .ok (.invokevirtual 306, 3) := by decide +kernel
theorem dX6_lookedRows_23 : decode cX6_lookedRows 23 = .ok (.ifCond .eq 6, 3) := by decide +kernel
theorem dX6_lookedRows_26 : decode cX6_lookedRows 26 = .ok (.iinc 1 1, 3) := by decide +kernel
theorem dX6_lookedRows_29 : decode cX6_lookedRows 29 = .ok (.iinc 2 1, 3) := by decide +kernel
theorem dX6_lookedRows_32 : decode cX6_lookedRows 32 = .ok (.goto (-28), 3) := by decide +kernel
theorem dX6_lookedRows_35 : decode cX6_lookedRows 35 = .ok (.iload_n 1, 1) := by decide +kernel
theorem dX6_lookedRows_36 : decode cX6_lookedRows 36 = .ok (.ireturn, 1) := by decide +kernel
