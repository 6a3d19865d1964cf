theorem dX0_init_0 : decode cX0_init 0 = .ok (.aload_n 0, 1) := by decide +kernel
theorem dX0_init_1 : decode cX0_init 1 = .ok (.invokespecial 3, 3) := by decide +kernel
theorem dX0_init_4 : decode cX0_init 4 = .ok (.aload_n 0, 1) := by decide +kernel
theorem dX0_init_5 : decode cX0_init 5 = .ok (.sipush 149, 3) := by decide +kernel
theorem dX0_init_8 : decode cX0_init 8 = .ok (.newarray .int, 2) := by decide +kernel
theorem dX0_init_10 : decode cX0_init 10 = .ok (.putfield 11, 3) := by decide +kernel
theorem dX0_init_13 : decode cX0_init 13 = .ok (.aload_n 0, 1) := by decide +kernel
theorem dX0_init_14 : decode cX0_init 14 = .ok (.sipush 150, 3) := by decide +kernel
theorem dX0_init_17 : decode cX0_init 17 = .ok (.newarray .int, 2) := by decide +kernel
theorem dX0_init_19 : decode cX0_init 19 = .ok (.putfield 15, 3) := by decide +kernel
theorem dX0_init_22 : decode cX0_init 22 = .ok (.aload_n 0, 1) := by decide +kernel
theorem dX0_init_23 : decode cX0_init 23 = .ok (.aload_n 1, 1) := by decide +kernel
theorem dX0_init_24 : decode cX0_init 24 = .ok (.putfield 18, 3) := by decide +kernel
theorem dX0_init_27 : decode cX0_init 27 = .ok (.aload_n 0, 1) := by decide +kernel
theorem dX0_init_28 : decode cX0_init 28 = .ok (.aload_n 2, 1) := by decide +kernel
theorem dX0_init_29 : decode cX0_init 29 = .ok (.putfield 22, 3) := by decide +kernel
theorem dX0_init_32 : decode cX0_init 32 = .ok (.aload_n 0, 1) := by decide +kernel
theorem dX0_init_33 : decode cX0_init 33 = .ok (.aload_n 3, 1) := by decide +kernel
theorem dX0_init_34 : decode cX0_init 34 = .ok (.putfield 26, 3) := by decide +kernel
theorem dX0_init_37 : decode cX0_init 37 = .ok (.aload_n 0, 1) := by decide +kernel
theorem dX0_init_38 : decode cX0_init 38 = .ok (.aload 4, 2) := by decide +kernel
theorem dX0_init_40 : decode cX0_init 40 = .ok (.putfield 30, 3) := by decide +kernel
theorem dX0_init_43 : decode cX0_init 43 = .ok (.return_, 1) := by decide +kernel
theorem dX0_gatherBeside_0 : decode cX0_gatherBeside 0 = .ok (.aload_n 0, 1) := by decide +kernel
theorem dX0_gatherBeside_1 : decode cX0_gatherBeside 1 = .ok (.getfield 11, 3) := by decide +kernel
theorem dX0_gatherBeside_4 : decode cX0_gatherBeside 4 = .ok (.iconst 0, 1) := by decide +kernel
theorem dX0_gatherBeside_5 : decode cX0_gatherBeside 5 = .ok (.invokestatic 34, 3) := by decide +kernel
theorem dX0_gatherBeside_8 : decode cX0_gatherBeside 8 = .ok (.iconst 0, 1) := by decide +kernel
theorem dX0_gatherBeside_9 : decode cX0_gatherBeside 9 = .ok (.istore_n 2, 1) := by decide +kernel
theorem dX0_gatherBeside_10 : decode cX0_gatherBeside 10 = .ok (.iload_n 2, 1) := by decide +kernel
theorem dX0_gatherBeside_11 : decode cX0_gatherBeside 11 = .ok (.aload_n 0, 1) := by decide +kernel
theorem dX0_gatherBeside_12 : decode cX0_gatherBeside 12 = .ok (.getfield 30, 3) := by decide +kernel
theorem dX0_gatherBeside_15 : decode cX0_gatherBeside 15 = .ok (.invokevirtual 40, 3) := by decide +kernel
theorem dX0_gatherBeside_18 : decode cX0_gatherBeside 18 = .ok (.if_icmp .ge 30, 3) := by decide +kernel
theorem dX0_gatherBeside_21 : decode cX0_gatherBeside 21 = .ok (.iload_n 2, 1) := by decide +kernel
theorem dX0_gatherBeside_22 : decode cX0_gatherBeside 22 = .ok (.iload_n 1, 1) := by decide +kernel
theorem dX0_gatherBeside_23 : decode cX0_gatherBeside 23 = .ok (.if_icmp .eq 19, 3) := by decide +kernel
theorem dX0_gatherBeside_26 : decode cX0_gatherBeside 26 = .ok (.aload_n 0, 1) := by decide +kernel
theorem dX0_gatherBeside_27 : decode cX0_gatherBeside 27 = .ok (.getfield 30, 3) := by decide +kernel
theorem dX0_gatherBeside_30 : decode cX0_gatherBeside 30 = .ok (.iload_n 2, 1) := by decide +kernel
theorem dX0_gatherBeside_31 : decode cX0_gatherBeside 31 = .ok (.invokevirtual 46, 3) := by decide +kernel
theorem dX0_gatherBeside_34 : decode cX0_gatherBeside 34 = .ok (.ifCond .eq 8, 3) := by decide +kernel
theorem dX0_gatherBeside_37 : decode cX0_gatherBeside 37 = .ok (.aload_n 0, 1) := by decide +kernel
theorem dX0_gatherBeside_38 : decode cX0_gatherBeside 38 = .ok (.iload_n 2, 1) := by decide +kernel
theorem dX0_gatherBeside_39 : decode cX0_gatherBeside 39 = .ok (.invokevirtual 50, 3) := by decide +kernel
theorem dX0_gatherBeside_42 : decode cX0_gatherBeside 42 = .ok (.iinc 2 1, 3) := by decide +kernel
theorem dX0_gatherBeside_45 : decode cX0_gatherBeside 45 = .ok (.goto (-35), 3) := by decide +kernel
theorem dX0_gatherBeside_48 : decode cX0_gatherBeside 48 = .ok (.return_, 1) := by decide +kernel
theorem dX0_canRead_0 : decode cX0_canRead 0 = .ok (.aload_n 0, 1) := by decide +kernel
theorem dX0_canRead_1 : decode cX0_canRead 1 = .ok (.bipush 85, 2) := by decide +kernel
theorem dX0_canRead_3 : decode cX0_canRead 3 = .ok (.iload_n 1, 1) := by decide +kernel
theorem dX0_canRead_4 : decode cX0_canRead 4 = .ok (.iadd, 1) := by decide +kernel
theorem dX0_canRead_5 : decode cX0_canRead 5 = .ok (.invokevirtual 54, 3) := by decide +kernel
theorem dX0_canRead_8 : decode cX0_canRead 8 = .ok (.iload_n 2, 1) := by decide +kernel
theorem dX0_canRead_9 : decode cX0_canRead 9 = .ok (.iand, 1) := by decide +kernel
theorem dX0_canRead_10 : decode cX0_canRead 10 = .ok (.istore_n 3, 1) := by decide +kernel
theorem dX0_canRead_11 : decode cX0_canRead 11 = .ok (.iload_n 1, 1) := by decide +kernel
theorem dX0_canRead_12 : decode cX0_canRead 12 = .ok (.invokestatic 58, 3) := by decide +kernel
theorem dX0_canRead_15 : decode cX0_canRead 15 = .ok (.istore 4, 2) := by decide +kernel
theorem dX0_canRead_17 : decode cX0_canRead 17 = .ok (.iconst 3, 1) := by decide +kernel
theorem dX0_canRead_18 : decode cX0_canRead 18 = .ok (.istore 5, 2) := by decide +kernel
theorem dX0_canRead_20 : decode cX0_canRead 20 = .ok (.iload 5, 2) := by decide +kernel
theorem dX0_canRead_22 : decode cX0_canRead 22 = .ok (.ifCond .le 29, 3) := by decide +kernel
theorem dX0_canRead_25 : decode cX0_canRead 25 = .ok (.iload_n 3, 1) := by decide +kernel
theorem dX0_canRead_26 : decode cX0_canRead 26 = .ok (.ifCond .eq 25, 3) := by decide +kernel
theorem dX0_canRead_29 : decode cX0_canRead 29 = .ok (.aload_n 0, 1) := by decide +kernel
theorem dX0_canRead_30 : decode cX0_canRead 30 = .ok (.iload 4, 2) := by decide +kernel
theorem dX0_canRead_32 : decode cX0_canRead 32 = .ok (.invokevirtual 54, 3) := by decide +kernel
theorem dX0_canRead_35 : decode cX0_canRead 35 = .ok (.iload_n 2, 1) := by decide +kernel
theorem dX0_canRead_36 : decode cX0_canRead 36 = .ok (.iand, 1) := by decide +kernel
theorem dX0_canRead_37 : decode cX0_canRead 37 = .ok (.istore_n 3, 1) := by decide +kernel
theorem dX0_canRead_38 : decode cX0_canRead 38 = .ok (.iload 4, 2) := by decide +kernel
theorem dX0_canRead_40 : decode cX0_canRead 40 = .ok (.invokestatic 61, 3) := by decide +kernel
theorem dX0_canRead_43 : decode cX0_canRead 43 = .ok (.istore 4, 2) := by decide +kernel
theorem dX0_canRead_45 : decode cX0_canRead 45 = .ok (.iinc 5 (-1), 3) := by decide +kernel
theorem dX0_canRead_48 : decode cX0_canRead 48 = .ok (.goto (-28), 3) := by decide +kernel
theorem dX0_canRead_51 : decode cX0_canRead 51 = .ok (.iload_n 3, 1) := by decide +kernel
theorem dX0_canRead_52 : decode cX0_canRead 52 = .ok (.ifCond .eq 7, 3) := by decide +kernel
theorem dX0_canRead_55 : decode cX0_canRead 55 = .ok (.iconst 1, 1) := by decide +kernel
theorem dX0_canRead_56 : decode cX0_canRead 56 = .ok (.goto 4, 3) := by decide +kernel
theorem dX0_canRead_59 : decode cX0_canRead 59 = .ok (.iconst 0, 1) := by decide +kernel
theorem dX0_canRead_60 : decode cX0_canRead 60 = .ok (.ireturn, 1) := by decide +kernel
theorem dX0_countReadable_0 : decode cX0_countReadable 0 = .ok (.iconst 0, 1) := by decide +kernel
theorem dX0_countReadable_1 : decode cX0_countReadable 1 = .ok (.istore_n 2, 1) := by decide +kernel
theorem dX0_countReadable_2 : decode cX0_countReadable 2 = .ok (.iconst 0, 1) := by decide +kernel
theorem dX0_countReadable_3 : decode cX0_countReadable 3 = .ok (.istore_n 3, 1) := by decide +kernel
theorem dX0_countReadable_4 : decode cX0_countReadable 4 = .ok (.iload_n 3, 1) := by decide +kernel
theorem dX0_countReadable_5 : decode cX0_countReadable 5 = .ok (.bipush 64, 2) := by decide +kernel
theorem dX0_countReadable_7 : decode cX0_countReadable 7 = .ok (.if_icmp .ge 21, 3) := by decide +kernel
theorem dX0_countReadable_10 : decode cX0_countReadable 10 = .ok (.aload_n 0, 1) := by decide +kernel
theorem dX0_countReadable_11 : decode cX0_countReadable 11 = .ok (.iload_n 3, 1) := by decide +kernel
theorem dX0_countReadable_12 : decode cX0_countReadable 12 = .ok (.iload_n 1, 1) := by decide +kernel
theorem dX0_countReadable_13 : decode cX0_countReadable 13 = .ok (.invokevirtual 64, 3) := by decide +kernel
theorem dX0_countReadable_16 : decode cX0_countReadable 16 = .ok (.ifCond .eq 6, 3) := by decide +kernel
theorem dX0_countReadable_19 : decode cX0_countReadable 19 = .ok (.iinc 2 1, 3) := by decide +kernel
theorem dX0_countReadable_22 : decode cX0_countReadable 22 = .ok (.iinc 3 1, 3) := by decide +kernel
theorem dX0_countReadable_25 : decode cX0_countReadable 25 = .ok (.goto (-21), 3) := by decide +kernel
theorem dX0_countReadable_28 : decode cX0_countReadable 28 = .ok (.iload_n 2, 1) := by decide +kernel
theorem dX0_countReadable_29 : decode cX0_countReadable 29 = .ok (.ireturn, 1) := by decide +kernel
theorem dX0_leastMedia_0 : decode cX0_leastMedia 0 = .ok (.aload_n 0, 1) := by decide +kernel
theorem dX0_leastMedia_1 : decode cX0_leastMedia 1 = .ok (.bipush 85, 2) := by decide +kernel
theorem dX0_leastMedia_3 : decode cX0_leastMedia 3 = .ok (.iload_n 1, 1) := by decide +kernel
theorem dX0_leastMedia_4 : decode cX0_leastMedia 4 = .ok (.iadd, 1) := by decide +kernel
theorem dX0_leastMedia_5 : decode cX0_leastMedia 5 = .ok (.invokevirtual 54, 3) := by decide +kernel
theorem dX0_leastMedia_8 : decode cX0_leastMedia 8 = .ok (.invokestatic 68, 3) := by decide +kernel
theorem dX0_leastMedia_11 : decode cX0_leastMedia 11 = .ok (.istore_n 2, 1) := by decide +kernel
theorem dX0_leastMedia_12 : decode cX0_leastMedia 12 = .ok (.iload_n 1, 1) := by decide +kernel
theorem dX0_leastMedia_13 : decode cX0_leastMedia 13 = .ok (.invokestatic 58, 3) := by decide +kernel
theorem dX0_leastMedia_16 : decode cX0_leastMedia 16 = .ok (.istore_n 3, 1) := by decide +kernel
theorem dX0_leastMedia_17 : decode cX0_leastMedia 17 = .ok (.iconst 3, 1) := by decide +kernel
theorem dX0_leastMedia_18 : decode cX0_leastMedia 18 = .ok (.istore 4, 2) := by decide +kernel
theorem dX0_leastMedia_20 : decode cX0_leastMedia 20 = .ok (.iload 4, 2) := by decide +kernel
theorem dX0_leastMedia_22 : decode cX0_leastMedia 22 = .ok (.ifCond .le 27, 3) := by decide +kernel
theorem dX0_leastMedia_25 : decode cX0_leastMedia 25 = .ok (.iload_n 2, 1) := by decide +kernel
theorem dX0_leastMedia_26 : decode cX0_leastMedia 26 = .ok (.aload_n 0, 1) := by decide +kernel
theorem dX0_leastMedia_27 : decode cX0_leastMedia 27 = .ok (.iload_n 3, 1) := by decide +kernel
theorem dX0_leastMedia_28 : decode cX0_leastMedia 28 = .ok (.invokevirtual 54, 3) := by decide +kernel
theorem dX0_leastMedia_31 : decode cX0_leastMedia 31 = .ok (.invokestatic 68, 3) := by decide +kernel
theorem dX0_leastMedia_34 : decode cX0_leastMedia 34 = .ok (.invokestatic 73, 3) := by decide +kernel
theorem dX0_leastMedia_37 : decode cX0_leastMedia 37 = .ok (.istore_n 2, 1) := by decide +kernel
theorem dX0_leastMedia_38 : decode cX0_leastMedia 38 = .ok (.iload_n 3, 1) := by decide +kernel
theorem dX0_leastMedia_39 : decode cX0_leastMedia 39 = .ok (.invokestatic 61, 3) := by decide +kernel
theorem dX0_leastMedia_42 : decode cX0_leastMedia 42 = .ok (.istore_n 3, 1) := by decide +kernel
theorem dX0_leastMedia_43 : decode cX0_leastMedia 43 = .ok (.iinc 4 (-1), 3) := by decide +kernel
theorem dX0_leastMedia_46 : decode cX0_leastMedia 46 = .ok (.goto (-26), 3) := by decide +kernel
theorem dX0_leastMedia_49 : decode cX0_leastMedia 49 = .ok (.iload_n 2, 1) := by decide +kernel
theorem dX0_leastMedia_50 : decode cX0_leastMedia 50 = .ok (.ireturn, 1) := by decide +kernel
theorem dX0_isMissing_0 : decode cX0_isMissing 0 = .ok (.aload_n 0, 1) := by decide +kernel
theorem dX0_isMissing_1 : decode cX0_isMissing 1 = .ok (.iload_n 1, 1) := by decide +kernel
theorem dX0_isMissing_2 : decode cX0_isMissing 2 = .ok (.invokevirtual 54, 3) := by decide +kernel
theorem dX0_isMissing_5 : decode cX0_isMissing 5 = .ok (.istore_n 3, 1) := by decide +kernel
theorem dX0_isMissing_6 : decode cX0_isMissing 6 = .ok (.iload_n 3, 1) := by decide +kernel
theorem dX0_isMissing_7 : decode cX0_isMissing 7 = .ok (.ifCond .eq 19, 3) := by decide +kernel
theorem dX0_isMissing_10 : decode cX0_isMissing 10 = .ok (.iload_n 2, 1) := by decide +kernel
theorem dX0_isMissing_11 : decode cX0_isMissing 11 = .ok (.ifCond .lt 15, 3) := by decide +kernel
theorem dX0_isMissing_14 : decode cX0_isMissing 14 = .ok (.iload_n 3, 1) := by decide +kernel
theorem dX0_isMissing_15 : decode cX0_isMissing 15 = .ok (.iconst 1, 1) := by decide +kernel
theorem dX0_isMissing_16 : decode cX0_isMissing 16 = .ok (.iload_n 2, 1) := by decide +kernel
theorem dX0_isMissing_17 : decode cX0_isMissing 17 = .ok (.ishl, 1) := by decide +kernel
theorem dX0_isMissing_18 : decode cX0_isMissing 18 = .ok (.iand, 1) := by decide +kernel
theorem dX0_isMissing_19 : decode cX0_isMissing 19 = .ok (.ifCond .ne 7, 3) := by decide +kernel
theorem dX0_isMissing_22 : decode cX0_isMissing 22 = .ok (.iconst 1, 1) := by decide +kernel
theorem dX0_isMissing_23 : decode cX0_isMissing 23 = .ok (.goto 4, 3) := by decide +kernel
theorem dX0_isMissing_26 : decode cX0_isMissing 26 = .ok (.iconst 0, 1) := by decide +kernel
theorem dX0_isMissing_27 : decode cX0_isMissing 27 = .ok (.ireturn, 1) := by decide +kernel
theorem dX0_countMissing_0 : decode cX0_countMissing 0 = .ok (.iconst 0, 1) := by decide +kernel
theorem dX0_countMissing_1 : decode cX0_countMissing 1 = .ok (.istore_n 2, 1) := by decide +kernel
theorem dX0_countMissing_2 : decode cX0_countMissing 2 = .ok (.iconst 1, 1) := by decide +kernel
theorem dX0_countMissing_3 : decode cX0_countMissing 3 = .ok (.istore_n 3, 1) := by decide +kernel
theorem dX0_countMissing_4 : decode cX0_countMissing 4 = .ok (.iload_n 3, 1) := by decide +kernel
theorem dX0_countMissing_5 : decode cX0_countMissing 5 = .ok (.sipush 149, 3) := by decide +kernel
theorem dX0_countMissing_8 : decode cX0_countMissing 8 = .ok (.if_icmp .ge 21, 3) := by decide +kernel
theorem dX0_countMissing_11 : decode cX0_countMissing 11 = .ok (.aload_n 0, 1) := by decide +kernel
theorem dX0_countMissing_12 : decode cX0_countMissing 12 = .ok (.iload_n 3, 1) := by decide +kernel
theorem dX0_countMissing_13 : decode cX0_countMissing 13 = .ok (.iload_n 1, 1) := by decide +kernel
theorem dX0_countMissing_14 : decode cX0_countMissing 14 = .ok (.invokevirtual 79, 3) := by decide +kernel
theorem dX0_countMissing_17 : decode cX0_countMissing 17 = .ok (.ifCond .eq 6, 3) := by decide +kernel
theorem dX0_countMissing_20 : decode cX0_countMissing 20 = .ok (.iinc 2 1, 3) := by decide +kernel
theorem dX0_countMissing_23 : decode cX0_countMissing 23 = .ok (.iinc 3 1, 3) := by decide +kernel
theorem dX0_countMissing_26 : decode cX0_countMissing 26 = .ok (.goto (-22), 3) := by decide +kernel
theorem dX0_countMissing_29 : decode cX0_countMissing 29 = .ok (.iload_n 2, 1) := by decide +kernel
theorem dX0_countMissing_30 : decode cX0_countMissing 30 = .ok (.ireturn, 1) := by decide +kernel
theorem dX0_countLive_0 : decode cX0_countLive 0 = .ok (.iconst 0, 1) := by decide +kernel
theorem dX0_countLive_1 : decode cX0_countLive 1 = .ok (.istore_n 2, 1) := by decide +kernel
theorem dX0_countLive_2 : decode cX0_countLive 2 = .ok (.iconst 0, 1) := by decide +kernel
theorem dX0_countLive_3 : decode cX0_countLive 3 = .ok (.istore_n 3, 1) := by decide +kernel
theorem dX0_countLive_4 : decode cX0_countLive 4 = .ok (.iload_n 3, 1) := by decide +kernel
theorem dX0_countLive_5 : decode cX0_countLive 5 = .ok (.aload_n 0, 1) := by decide +kernel
theorem dX0_countLive_6 : decode cX0_countLive 6 = .ok (.getfield 30, 3) := by decide +kernel
theorem dX0_countLive_9 : decode cX0_countLive 9 = .ok (.iload_n 1, 1) := by decide +kernel
theorem dX0_countLive_10 : decode cX0_countLive 10 = .ok (.invokevirtual 82, 3) := by decide +kernel
theorem dX0_countLive_13 : decode cX0_countLive 13 = .ok (.if_icmp .ge 29, 3) := by decide +kernel
theorem dX0_countLive_16 : decode cX0_countLive 16 = .ok (.aload_n 0, 1) := by decide +kernel
theorem dX0_countLive_17 : decode cX0_countLive 17 = .ok (.aload_n 0, 1) := by decide +kernel
theorem dX0_countLive_18 : decode cX0_countLive 18 = .ok (.getfield 30, 3) := by decide +kernel
theorem dX0_countLive_21 : decode cX0_countLive 21 = .ok (.iload_n 1, 1) := by decide +kernel
theorem dX0_countLive_22 : decode cX0_countLive 22 = .ok (.iload_n 3, 1) := by decide +kernel
theorem dX0_countLive_23 : decode cX0_countLive 23 = .ok (.invokevirtual 85, 3) := by decide +kernel
theorem dX0_countLive_26 : decode cX0_countLive 26 = .ok (.invokevirtual 88, 3) := by decide +kernel
theorem dX0_countLive_29 : decode cX0_countLive 29 = .ok (.iconst (-1), 1) := by decide +kernel
theorem dX0_countLive_30 : decode cX0_countLive 30 = .ok (.if_icmp .eq 6, 3) := by decide +kernel
theorem dX0_countLive_33 : decode cX0_countLive 33 = .ok (.iinc 2 1, 3) := by decide +kernel
theorem dX0_countLive_36 : decode cX0_countLive 36 = .ok (.iinc 3 1, 3) := by decide +kernel
theorem dX0_countLive_39 : decode cX0_countLive 39 = .ok (.goto (-35), 3) := by decide +kernel
theorem dX0_countLive_42 : decode cX0_countLive 42 = .ok (.iload_n 2, 1) := by decide +kernel
theorem dX0_countLive_43 : decode cX0_countLive 43 = .ok (.ireturn, 1) := by decide +kernel
theorem dX0_chooseToMigrate_0 : decode cX0_chooseToMigrate 0 = .ok (.aload_n 0, 1) := by decide +kernel
theorem dX0_chooseToMigrate_1 : decode cX0_chooseToMigrate 1 = .ok (.iload_n 1, 1) := by decide +kernel
theorem dX0_chooseToMigrate_2 : decode cX0_chooseToMigrate 2 = .ok (.invokevirtual 91, 3) := by decide +kernel
theorem dX0_chooseToMigrate_5 : decode cX0_chooseToMigrate 5 = .ok (.iconst 0, 1) := by decide +kernel
theorem dX0_chooseToMigrate_6 : decode cX0_chooseToMigrate 6 = .ok (.istore_n 2, 1) := by decide +kernel
theorem dX0_chooseToMigrate_7 : decode cX0_chooseToMigrate 7 = .ok (.iconst 0, 1) := by decide +kernel
theorem dX0_chooseToMigrate_8 : decode cX0_chooseToMigrate 8 = .ok (.istore_n 3, 1) := by decide +kernel
theorem dX0_chooseToMigrate_9 : decode cX0_chooseToMigrate 9 = .ok (.iload_n 3, 1) := by decide +kernel
theorem dX0_chooseToMigrate_10 : decode cX0_chooseToMigrate 10 = .ok (.aload_n 0, 1) := by decide +kernel
theorem dX0_chooseToMigrate_11 : decode cX0_chooseToMigrate 11 = .ok (.getfield 30, 3) := by decide +kernel
theorem dX0_chooseToMigrate_14 : decode cX0_chooseToMigrate 14 = .ok (.iload_n 1, 1) := by decide +kernel
theorem dX0_chooseToMigrate_15 : decode cX0_chooseToMigrate 15 = .ok (.invokevirtual 82, 3) := by decide +kernel
theorem dX0_chooseToMigrate_18 : decode cX0_chooseToMigrate 18 = .ok (.if_icmp .ge 68, 3) := by decide +kernel
theorem dX0_chooseToMigrate_21 : decode cX0_chooseToMigrate 21 = .ok (.aload_n 0, 1) := by decide +kernel
theorem dX0_chooseToMigrate_22 : decode cX0_chooseToMigrate 22 = .ok (.getfield 30, 3) := by decide +kernel
theorem dX0_chooseToMigrate_25 : decode cX0_chooseToMigrate 25 = .ok (.iload_n 1, 1) := by decide +kernel
theorem dX0_chooseToMigrate_26 : decode cX0_chooseToMigrate 26 = .ok (.iload_n 3, 1) := by decide +kernel
theorem dX0_chooseToMigrate_27 : decode cX0_chooseToMigrate 27 = .ok (.invokevirtual 85, 3) := by decide +kernel
theorem dX0_chooseToMigrate_30 : decode cX0_chooseToMigrate 30 = .ok (.istore 4, 2) := by decide +kernel
theorem dX0_chooseToMigrate_32 : decode cX0_chooseToMigrate 32 = .ok (.aload_n 0, 1) := by decide +kernel
theorem dX0_chooseToMigrate_33 : decode cX0_chooseToMigrate 33 = .ok (.iload 4, 2) := by decide +kernel
theorem dX0_chooseToMigrate_35 : decode cX0_chooseToMigrate 35 = .ok (.invokevirtual 88, 3) := by decide +kernel
theorem dX0_chooseToMigrate_38 : decode cX0_chooseToMigrate 38 = .ok (.istore 5, 2) := by decide +kernel
theorem dX0_chooseToMigrate_40 : decode cX0_chooseToMigrate 40 = .ok (.iload 5, 2) := by decide +kernel
theorem dX0_chooseToMigrate_42 : decode cX0_chooseToMigrate 42 = .ok (.iconst (-1), 1) := by decide +kernel
theorem dX0_chooseToMigrate_43 : decode cX0_chooseToMigrate 43 = .ok (.if_icmp .eq 37, 3) := by decide +kernel
theorem dX0_chooseToMigrate_46 : decode cX0_chooseToMigrate 46 = .ok (.aload_n 0, 1) := by decide +kernel
theorem dX0_chooseToMigrate_47 : decode cX0_chooseToMigrate 47 = .ok (.iload 5, 2) := by decide +kernel
theorem dX0_chooseToMigrate_49 : decode cX0_chooseToMigrate 49 = .ok (.invokevirtual 54, 3) := by decide +kernel
theorem dX0_chooseToMigrate_52 : decode cX0_chooseToMigrate 52 = .ok (.ifCond .ne 28, 3) := by decide +kernel
theorem dX0_chooseToMigrate_55 : decode cX0_chooseToMigrate 55 = .ok (.iload_n 2, 1) := by decide +kernel
theorem dX0_chooseToMigrate_56 : decode cX0_chooseToMigrate 56 = .ok (.sipush 150, 3) := by decide +kernel
theorem dX0_chooseToMigrate_59 : decode cX0_chooseToMigrate 59 = .ok (.if_icmp .ge 21, 3) := by decide +kernel
theorem dX0_chooseToMigrate_62 : decode cX0_chooseToMigrate 62 = .ok (.aload_n 0, 1) := by decide +kernel
theorem dX0_chooseToMigrate_63 : decode cX0_chooseToMigrate 63 = .ok (.getfield 15, 3) := by decide +kernel
theorem dX0_chooseToMigrate_66 : decode cX0_chooseToMigrate 66 = .ok (.iload_n 2, 1) := by decide +kernel
theorem dX0_chooseToMigrate_67 : decode cX0_chooseToMigrate 67 = .ok (.iload 4, 2) := by decide +kernel
theorem dX0_chooseToMigrate_69 : decode cX0_chooseToMigrate 69 = .ok (.iastore, 1) := by decide +kernel
theorem dX0_chooseToMigrate_70 : decode cX0_chooseToMigrate 70 = .ok (.iinc 2 1, 3) := by decide +kernel
theorem dX0_chooseToMigrate_73 : decode cX0_chooseToMigrate 73 = .ok (.aload_n 0, 1) := by decide +kernel
theorem dX0_chooseToMigrate_74 : decode cX0_chooseToMigrate 74 = .ok (.iload 5, 2) := by decide +kernel
theorem dX0_chooseToMigrate_76 : decode cX0_chooseToMigrate 76 = .ok (.iload_n 1, 1) := by decide +kernel
theorem dX0_chooseToMigrate_77 : decode cX0_chooseToMigrate 77 = .ok (.invokevirtual 94, 3) := by decide +kernel
theorem dX0_chooseToMigrate_80 : decode cX0_chooseToMigrate 80 = .ok (.iinc 3 1, 3) := by decide +kernel
theorem dX0_chooseToMigrate_83 : decode cX0_chooseToMigrate 83 = .ok (.goto (-74), 3) := by decide +kernel
theorem dX0_chooseToMigrate_86 : decode cX0_chooseToMigrate 86 = .ok (.iload_n 2, 1) := by decide +kernel
theorem dX0_chooseToMigrate_87 : decode cX0_chooseToMigrate 87 = .ok (.ireturn, 1) := by decide +kernel
theorem dX0_chosen_0 : decode cX0_chosen 0 = .ok (.iload_n 1, 1) := by decide +kernel
theorem dX0_chosen_1 : decode cX0_chosen 1 = .ok (.ifCond .lt 19, 3) := by decide +kernel
theorem dX0_chosen_4 : decode cX0_chosen 4 = .ok (.iload_n 1, 1) := by decide +kernel
theorem dX0_chosen_5 : decode cX0_chosen 5 = .ok (.sipush 150, 3) := by decide +kernel
theorem dX0_chosen_8 : decode cX0_chosen 8 = .ok (.if_icmp .ge 12, 3) := by decide +kernel
theorem dX0_chosen_11 : decode cX0_chosen 11 = .ok (.aload_n 0, 1) := by decide +kernel
theorem dX0_chosen_12 : decode cX0_chosen 12 = .ok (.getfield 15, 3) := by decide +kernel
theorem dX0_chosen_15 : decode cX0_chosen 15 = .ok (.iload_n 1, 1) := by decide +kernel
theorem dX0_chosen_16 : decode cX0_chosen 16 = .ok (.iaload, 1) := by decide +kernel
theorem dX0_chosen_17 : decode cX0_chosen 17 = .ok (.goto 4, 3) := by decide +kernel
theorem dX0_chosen_20 : decode cX0_chosen 20 = .ok (.iconst (-1), 1) := by decide +kernel
theorem dX0_chosen_21 : decode cX0_chosen 21 = .ok (.ireturn, 1) := by decide +kernel
theorem dX0_gatherFrom_0 : decode cX0_gatherFrom 0 = .ok (.iconst 0, 1) := by decide +kernel
theorem dX0_gatherFrom_1 : decode cX0_gatherFrom 1 = .ok (.istore_n 2, 1) := by decide +kernel
theorem dX0_gatherFrom_2 : decode cX0_gatherFrom 2 = .ok (.iload_n 2, 1) := by decide +kernel
theorem dX0_gatherFrom_3 : decode cX0_gatherFrom 3 = .ok (.aload_n 0, 1) := by decide +kernel
theorem dX0_gatherFrom_4 : decode cX0_gatherFrom 4 = .ok (.getfield 30, 3) := by decide +kernel
theorem dX0_gatherFrom_7 : decode cX0_gatherFrom 7 = .ok (.iload_n 1, 1) := by decide +kernel
theorem dX0_gatherFrom_8 : decode cX0_gatherFrom 8 = .ok (.invokevirtual 82, 3) := by decide +kernel
theorem dX0_gatherFrom_11 : decode cX0_gatherFrom 11 = .ok (.if_icmp .ge 27, 3) := by decide +kernel
theorem dX0_gatherFrom_14 : decode cX0_gatherFrom 14 = .ok (.aload_n 0, 1) := by decide +kernel
theorem dX0_gatherFrom_15 : decode cX0_gatherFrom 15 = .ok (.aload_n 0, 1) := by decide +kernel
theorem dX0_gatherFrom_16 : decode cX0_gatherFrom 16 = .ok (.aload_n 0, 1) := by decide +kernel
theorem dX0_gatherFrom_17 : decode cX0_gatherFrom 17 = .ok (.getfield 30, 3) := by decide +kernel
theorem dX0_gatherFrom_20 : decode cX0_gatherFrom 20 = .ok (.iload_n 1, 1) := by decide +kernel
theorem dX0_gatherFrom_21 : decode cX0_gatherFrom 21 = .ok (.iload_n 2, 1) := by decide +kernel
theorem dX0_gatherFrom_22 : decode cX0_gatherFrom 22 = .ok (.invokevirtual 85, 3) := by decide +kernel
theorem dX0_gatherFrom_25 : decode cX0_gatherFrom 25 = .ok (.invokevirtual 88, 3) := by decide +kernel
theorem dX0_gatherFrom_28 : decode cX0_gatherFrom 28 = .ok (.iload_n 1, 1) := by decide +kernel
theorem dX0_gatherFrom_29 : decode cX0_gatherFrom 29 = .ok (.invokevirtual 94, 3) := by decide +kernel
theorem dX0_gatherFrom_32 : decode cX0_gatherFrom 32 = .ok (.iinc 2 1, 3) := by decide +kernel
theorem dX0_gatherFrom_35 : decode cX0_gatherFrom 35 = .ok (.goto (-33), 3) := by decide +kernel
theorem dX0_gatherFrom_38 : decode cX0_gatherFrom 38 = .ok (.return_, 1) := by decide +kernel
theorem dX0_cover_0 : decode cX0_cover 0 = .ok (.iload_n 1, 1) := by decide +kernel
theorem dX0_cover_1 : decode cX0_cover 1 = .ok (.ifCond .lt 22, 3) := by decide +kernel
theorem dX0_cover_4 : decode cX0_cover 4 = .ok (.iload_n 1, 1) := by decide +kernel
theorem dX0_cover_5 : decode cX0_cover 5 = .ok (.sipush 149, 3) := by decide +kernel
theorem dX0_cover_8 : decode cX0_cover 8 = .ok (.if_icmp .ge 15, 3) := by decide +kernel
theorem dX0_cover_11 : decode cX0_cover 11 = .ok (.aload_n 0, 1) := by decide +kernel
theorem dX0_cover_12 : decode cX0_cover 12 = .ok (.getfield 11, 3) := by decide +kernel
theorem dX0_cover_15 : decode cX0_cover 15 = .ok (.iload_n 1, 1) := by decide +kernel
theorem dX0_cover_16 : decode cX0_cover 16 = .ok (.dup2, 1) := by decide +kernel
theorem dX0_cover_17 : decode cX0_cover 17 = .ok (.iaload, 1) := by decide +kernel
theorem dX0_cover_18 : decode cX0_cover 18 = .ok (.iconst 1, 1) := by decide +kernel
theorem dX0_cover_19 : decode cX0_cover 19 = .ok (.iload_n 2, 1) := by decide +kernel
theorem dX0_cover_20 : decode cX0_cover 20 = .ok (.ishl, 1) := by decide +kernel
theorem dX0_cover_21 : decode cX0_cover 21 = .ok (.ior, 1) := by decide +kernel
theorem dX0_cover_22 : decode cX0_cover 22 = .ok (.iastore, 1) := by decide +kernel
theorem dX0_cover_23 : decode cX0_cover 23 = .ok (.return_, 1) := by decide +kernel
theorem dX0_maskOf_0 : decode cX0_maskOf 0 = .ok (.iload_n 1, 1) := by decide +kernel
theorem dX0_maskOf_1 : decode cX0_maskOf 1 = .ok (.ifCond .lt 19, 3) := by decide +kernel
theorem dX0_maskOf_4 : decode cX0_maskOf 4 = .ok (.iload_n 1, 1) := by decide +kernel
theorem dX0_maskOf_5 : decode cX0_maskOf 5 = .ok (.sipush 149, 3) := by decide +kernel
theorem dX0_maskOf_8 : decode cX0_maskOf 8 = .ok (.if_icmp .ge 12, 3) := by decide +kernel
theorem dX0_maskOf_11 : decode cX0_maskOf 11 = .ok (.aload_n 0, 1) := by decide +kernel
theorem dX0_maskOf_12 : decode cX0_maskOf 12 = .ok (.getfield 11, 3) := by decide +kernel
theorem dX0_maskOf_15 : decode cX0_maskOf 15 = .ok (.iload_n 1, 1) := by decide +kernel
theorem dX0_maskOf_16 : decode cX0_maskOf 16 = .ok (.iaload, 1) := by decide +kernel
theorem dX0_maskOf_17 : decode cX0_maskOf 17 = .ok (.goto 4, 3) := by decide +kernel
theorem dX0_maskOf_20 : decode cX0_maskOf 20 = .ok (.iconst 0, 1) := by decide +kernel
theorem dX0_maskOf_21 : decode cX0_maskOf 21 = .ok (.ireturn, 1) := by decide +kernel
theorem dX0_spotOf_0 : decode cX0_spotOf 0 = .ok (.aload_n 0, 1) := by decide +kernel
theorem dX0_spotOf_1 : decode cX0_spotOf 1 = .ok (.getfield 30, 3) := by decide +kernel
theorem dX0_spotOf_4 : decode cX0_spotOf 4 = .ok (.iload_n 1, 1) := by decide +kernel
theorem dX0_spotOf_5 : decode cX0_spotOf 5 = .ok (.invokevirtual 98, 3) := by decide +kernel
theorem dX0_spotOf_8 : decode cX0_spotOf 8 = .ok (.istore_n 2, 1) := by decide +kernel
theorem dX0_spotOf_9 : decode cX0_spotOf 9 = .ok (.aload_n 0, 1) := by decide +kernel
theorem dX0_spotOf_10 : decode cX0_spotOf 10 = .ok (.getfield 30, 3) := by decide +kernel
theorem dX0_spotOf_13 : decode cX0_spotOf 13 = .ok (.iload_n 1, 1) := by decide +kernel
theorem dX0_spotOf_14 : decode cX0_spotOf 14 = .ok (.invokevirtual 101, 3) := by decide +kernel
theorem dX0_spotOf_17 : decode cX0_spotOf 17 = .ok (.iconst 1, 1) := by decide +kernel
theorem dX0_spotOf_18 : decode cX0_spotOf 18 = .ok (.if_icmp .ne 60, 3) := by decide +kernel
theorem dX0_spotOf_21 : decode cX0_spotOf 21 = .ok (.aload_n 0, 1) := by decide +kernel
theorem dX0_spotOf_22 : decode cX0_spotOf 22 = .ok (.getfield 22, 3) := by decide +kernel
theorem dX0_spotOf_25 : decode cX0_spotOf 25 = .ok (.aload_n 0, 1) := by decide +kernel
theorem dX0_spotOf_26 : decode cX0_spotOf 26 = .ok (.getfield 30, 3) := by decide +kernel
theorem dX0_spotOf_29 : decode cX0_spotOf 29 = .ok (.iload_n 1, 1) := by decide +kernel
theorem dX0_spotOf_30 : decode cX0_spotOf 30 = .ok (.invokevirtual 104, 3) := by decide +kernel
theorem dX0_spotOf_33 : decode cX0_spotOf 33 = .ok (.invokevirtual 107, 3) := by decide +kernel
theorem dX0_spotOf_36 : decode cX0_spotOf 36 = .ok (.istore_n 3, 1) := by decide +kernel
theorem dX0_spotOf_37 : decode cX0_spotOf 37 = .ok (.iload_n 3, 1) := by decide +kernel
theorem dX0_spotOf_38 : decode cX0_spotOf 38 = .ok (.iconst (-1), 1) := by decide +kernel
theorem dX0_spotOf_39 : decode cX0_spotOf 39 = .ok (.if_icmp .eq 22, 3) := by decide +kernel
theorem dX0_spotOf_42 : decode cX0_spotOf 42 = .ok (.aload_n 0, 1) := by decide +kernel
theorem dX0_spotOf_43 : decode cX0_spotOf 43 = .ok (.getfield 26, 3) := by decide +kernel
theorem dX0_spotOf_46 : decode cX0_spotOf 46 = .ok (.iload_n 3, 1) := by decide +kernel
theorem dX0_spotOf_47 : decode cX0_spotOf 47 = .ok (.invokestatic 58, 3) := by decide +kernel
theorem dX0_spotOf_50 : decode cX0_spotOf 50 = .ok (.invokevirtual 112, 3) := by decide +kernel
theorem dX0_spotOf_53 : decode cX0_spotOf 53 = .ok (.iload_n 2, 1) := by decide +kernel
theorem dX0_spotOf_54 : decode cX0_spotOf 54 = .ok (.if_icmp .ne 7, 3) := by decide +kernel
theorem dX0_spotOf_57 : decode cX0_spotOf 57 = .ok (.iconst 1, 1) := by decide +kernel
theorem dX0_spotOf_58 : decode cX0_spotOf 58 = .ok (.goto 4, 3) := by decide +kernel
theorem dX0_spotOf_61 : decode cX0_spotOf 61 = .ok (.iconst 0, 1) := by decide +kernel
theorem dX0_spotOf_62 : decode cX0_spotOf 62 = .ok (.istore 4, 2) := by decide +kernel
theorem dX0_spotOf_64 : decode cX0_spotOf 64 = .ok (.iload 4, 2) := by decide +kernel
theorem dX0_spotOf_66 : decode cX0_spotOf 66 = .ok (.ifCond .eq 10, 3) := by decide +kernel
theorem dX0_spotOf_69 : decode cX0_spotOf 69 = .ok (.bipush 85, 2) := by decide +kernel
theorem dX0_spotOf_71 : decode cX0_spotOf 71 = .ok (.iload_n 3, 1) := by decide +kernel
theorem dX0_spotOf_72 : decode cX0_spotOf 72 = .ok (.iadd, 1) := by decide +kernel
theorem dX0_spotOf_73 : decode cX0_spotOf 73 = .ok (.goto 4, 3) := by decide +kernel
theorem dX0_spotOf_76 : decode cX0_spotOf 76 = .ok (.iconst (-1), 1) := by decide +kernel
theorem dX0_spotOf_77 : decode cX0_spotOf 77 = .ok (.ireturn, 1) := by decide +kernel
theorem dX0_spotOf_78 : decode cX0_spotOf 78 = .ok (.aload_n 0, 1) := by decide +kernel
theorem dX0_spotOf_79 : decode cX0_spotOf 79 = .ok (.getfield 18, 3) := by decide +kernel
theorem dX0_spotOf_82 : decode cX0_spotOf 82 = .ok (.aload_n 0, 1) := by decide +kernel
theorem dX0_spotOf_83 : decode cX0_spotOf 83 = .ok (.getfield 30, 3) := by decide +kernel
theorem dX0_spotOf_86 : decode cX0_spotOf 86 = .ok (.iload_n 1, 1) := by decide +kernel
theorem dX0_spotOf_87 : decode cX0_spotOf 87 = .ok (.invokevirtual 104, 3) := by decide +kernel
theorem dX0_spotOf_90 : decode cX0_spotOf 90 = .ok (.invokevirtual 117, 3) := by decide +kernel
theorem dX0_spotOf_93 : decode cX0_spotOf 93 = .ok (.istore_n 3, 1) := by decide +kernel
theorem dX0_spotOf_94 : decode cX0_spotOf 94 = .ok (.iload_n 3, 1) := by decide +kernel
theorem dX0_spotOf_95 : decode cX0_spotOf 95 = .ok (.ifCond .le 22, 3) := by decide +kernel
theorem dX0_spotOf_98 : decode cX0_spotOf 98 = .ok (.aload_n 0, 1) := by decide +kernel
theorem dX0_spotOf_99 : decode cX0_spotOf 99 = .ok (.getfield 26, 3) := by decide +kernel
theorem dX0_spotOf_102 : decode cX0_spotOf 102 = .ok (.iload_n 3, 1) := by decide +kernel
theorem dX0_spotOf_103 : decode cX0_spotOf 103 = .ok (.invokestatic 61, 3) := by decide +kernel
theorem dX0_spotOf_106 : decode cX0_spotOf 106 = .ok (.invokevirtual 112, 3) := by decide +kernel
theorem dX0_spotOf_109 : decode cX0_spotOf 109 = .ok (.iload_n 2, 1) := by decide +kernel
theorem dX0_spotOf_110 : decode cX0_spotOf 110 = .ok (.if_icmp .ne 7, 3) := by decide +kernel
theorem dX0_spotOf_113 : decode cX0_spotOf 113 = .ok (.iload_n 3, 1) := by decide +kernel
theorem dX0_spotOf_114 : decode cX0_spotOf 114 = .ok (.goto 4, 3) := by decide +kernel
theorem dX0_spotOf_117 : decode cX0_spotOf 117 = .ok (.iconst (-1), 1) := by decide +kernel
theorem dX0_spotOf_118 : decode cX0_spotOf 118 = .ok (.ireturn, 1) := by decide +kernel
theorem dX1_init_0 : decode cX1_init 0 = .ok (.aload_n 0, 1) := by decide +kernel
theorem dX1_init_1 : decode cX1_init 1 = .ok (.invokespecial 3, 3) := by decide +kernel
theorem dX1_init_4 : decode cX1_init 4 = .ok (.aload_n 0, 1) := by decide +kernel
theorem dX1_init_5 : decode cX1_init 5 = .ok (.bipush 85, 2) := by decide +kernel
theorem dX1_init_7 : decode cX1_init 7 = .ok (.newarray .boolean, 2) := by decide +kernel
theorem dX1_init_9 : decode cX1_init 9 = .ok (.putfield 9, 3) := by decide +kernel
theorem dX1_init_12 : decode cX1_init 12 = .ok (.aload_n 0, 1) := by decide +kernel
theorem dX1_init_13 : decode cX1_init 13 = .ok (.bipush 85, 2) := by decide +kernel
theorem dX1_init_15 : decode cX1_init 15 = .ok (.newarray .boolean, 2) := by decide +kernel
theorem dX1_init_17 : decode cX1_init 17 = .ok (.putfield 15, 3) := by decide +kernel
theorem dX1_init_20 : decode cX1_init 20 = .ok (.aload_n 0, 1) := by decide +kernel
theorem dX1_init_21 : decode cX1_init 21 = .ok (.aload_n 1, 1) := by decide +kernel
theorem dX1_init_22 : decode cX1_init 22 = .ok (.putfield 18, 3) := by decide +kernel
theorem dX1_init_25 : decode cX1_init 25 = .ok (.aload_n 0, 1) := by decide +kernel
theorem dX1_init_26 : decode cX1_init 26 = .ok (.aload_n 2, 1) := by decide +kernel
theorem dX1_init_27 : decode cX1_init 27 = .ok (.putfield 22, 3) := by decide +kernel
theorem dX1_init_30 : decode cX1_init 30 = .ok (.return_, 1) := by decide +kernel
theorem dX1_make_0 : decode cX1_make 0 = .ok (.aload_n 0, 1) := by decide +kernel
theorem dX1_make_1 : decode cX1_make 1 = .ok (.iconst 1, 1) := by decide +kernel
theorem dX1_make_2 : decode cX1_make 2 = .ok (.putfield 26, 3) := by decide +kernel
theorem dX1_make_5 : decode cX1_make 5 = .ok (.aload_n 0, 1) := by decide +kernel
theorem dX1_make_6 : decode cX1_make 6 = .ok (.getfield 22, 3) := by decide +kernel
theorem dX1_make_9 : decode cX1_make 9 = .ok (.invokevirtual 30, 3) := by decide +kernel
theorem dX1_make_12 : decode cX1_make 12 = .ok (.iconst 0, 1) := by decide +kernel
theorem dX1_make_13 : decode cX1_make 13 = .ok (.istore_n 2, 1) := by decide +kernel
theorem dX1_make_14 : decode cX1_make 14 = .ok (.iload_n 2, 1) := by decide +kernel
theorem dX1_make_15 : decode cX1_make 15 = .ok (.bipush 64, 2) := by decide +kernel
theorem dX1_make_17 : decode cX1_make 17 = .ok (.if_icmp .ge 45, 3) := by decide +kernel
theorem dX1_make_20 : decode cX1_make 20 = .ok (.aload_n 0, 1) := by decide +kernel
theorem dX1_make_21 : decode cX1_make 21 = .ok (.getfield 18, 3) := by decide +kernel
theorem dX1_make_24 : decode cX1_make 24 = .ok (.iload_n 2, 1) := by decide +kernel
theorem dX1_make_25 : decode cX1_make 25 = .ok (.invokevirtual 35, 3) := by decide +kernel
theorem dX1_make_28 : decode cX1_make 28 = .ok (.ifCond .ne 8, 3) := by decide +kernel
theorem dX1_make_31 : decode cX1_make 31 = .ok (.iload_n 2, 1) := by decide +kernel
theorem dX1_make_32 : decode cX1_make 32 = .ok (.iload_n 1, 1) := by decide +kernel
theorem dX1_make_33 : decode cX1_make 33 = .ok (.if_icmp .ne 23, 3) := by decide +kernel
theorem dX1_make_36 : decode cX1_make 36 = .ok (.aload_n 0, 1) := by decide +kernel
theorem dX1_make_37 : decode cX1_make 37 = .ok (.iconst 0, 1) := by decide +kernel
theorem dX1_make_38 : decode cX1_make 38 = .ok (.putfield 26, 3) := by decide +kernel
theorem dX1_make_41 : decode cX1_make 41 = .ok (.aload_n 0, 1) := by decide +kernel
theorem dX1_make_42 : decode cX1_make 42 = .ok (.getfield 22, 3) := by decide +kernel
theorem dX1_make_45 : decode cX1_make 45 = .ok (.aload_n 0, 1) := by decide +kernel
theorem dX1_make_46 : decode cX1_make 46 = .ok (.getfield 18, 3) := by decide +kernel
theorem dX1_make_49 : decode cX1_make 49 = .ok (.iload_n 2, 1) := by decide +kernel
theorem dX1_make_50 : decode cX1_make 50 = .ok (.invokevirtual 41, 3) := by decide +kernel
theorem dX1_make_53 : decode cX1_make 53 = .ok (.invokevirtual 45, 3) := by decide +kernel
theorem dX1_make_56 : decode cX1_make 56 = .ok (.iinc 2 1, 3) := by decide +kernel
theorem dX1_make_59 : decode cX1_make 59 = .ok (.goto (-45), 3) := by decide +kernel
theorem dX1_make_62 : decode cX1_make 62 = .ok (.aload_n 0, 1) := by decide +kernel
theorem dX1_make_63 : decode cX1_make 63 = .ok (.getfield 22, 3) := by decide +kernel
theorem dX1_make_66 : decode cX1_make 66 = .ok (.invokevirtual 49, 3) := by decide +kernel
theorem dX1_make_69 : decode cX1_make 69 = .ok (.bipush 84, 2) := by decide +kernel
theorem dX1_make_71 : decode cX1_make 71 = .ok (.istore_n 2, 1) := by decide +kernel
theorem dX1_make_72 : decode cX1_make 72 = .ok (.iload_n 2, 1) := by decide +kernel
theorem dX1_make_73 : decode cX1_make 73 = .ok (.ifCond .lt 65, 3) := by decide +kernel
theorem dX1_make_76 : decode cX1_make 76 = .ok (.aload_n 0, 1) := by decide +kernel
theorem dX1_make_77 : decode cX1_make 77 = .ok (.getfield 15, 3) := by decide +kernel
theorem dX1_make_80 : decode cX1_make 80 = .ok (.iload_n 2, 1) := by decide +kernel
theorem dX1_make_81 : decode cX1_make 81 = .ok (.iload_n 2, 1) := by decide +kernel
theorem dX1_make_82 : decode cX1_make 82 = .ok (.ifCond .eq 21, 3) := by decide +kernel
theorem dX1_make_85 : decode cX1_make 85 = .ok (.aload_n 0, 1) := by decide +kernel
theorem dX1_make_86 : decode cX1_make 86 = .ok (.getfield 22, 3) := by decide +kernel
theorem dX1_make_89 : decode cX1_make 89 = .ok (.aload_n 0, 1) := by decide +kernel
theorem dX1_make_90 : decode cX1_make 90 = .ok (.getfield 18, 3) := by decide +kernel
theorem dX1_make_93 : decode cX1_make 93 = .ok (.iload_n 2, 1) := by decide +kernel
theorem dX1_make_94 : decode cX1_make 94 = .ok (.invokevirtual 52, 3) := by decide +kernel
theorem dX1_make_97 : decode cX1_make 97 = .ok (.invokevirtual 55, 3) := by decide +kernel
theorem dX1_make_100 : decode cX1_make 100 = .ok (.ifCond .le 7, 3) := by decide +kernel
theorem dX1_make_103 : decode cX1_make 103 = .ok (.iconst 1, 1) := by decide +kernel
theorem dX1_make_104 : decode cX1_make 104 = .ok (.goto 4, 3) := by decide +kernel
theorem dX1_make_107 : decode cX1_make 107 = .ok (.iconst 0, 1) := by decide +kernel
theorem dX1_make_108 : decode cX1_make 108 = .ok (.bastore, 1) := by decide +kernel
theorem dX1_make_109 : decode cX1_make 109 = .ok (.aload_n 0, 1) := by decide +kernel
theorem dX1_make_110 : decode cX1_make 110 = .ok (.getfield 9, 3) := by decide +kernel
theorem dX1_make_113 : decode cX1_make 113 = .ok (.iload_n 2, 1) := by decide +kernel
theorem dX1_make_114 : decode cX1_make 114 = .ok (.iload_n 2, 1) := by decide +kernel
theorem dX1_make_115 : decode cX1_make 115 = .ok (.ifCond .eq 11, 3) := by decide +kernel
theorem dX1_make_118 : decode cX1_make 118 = .ok (.aload_n 0, 1) := by decide +kernel
theorem dX1_make_119 : decode cX1_make 119 = .ok (.iload_n 2, 1) := by decide +kernel
theorem dX1_make_120 : decode cX1_make 120 = .ok (.invokevirtual 58, 3) := by decide +kernel
theorem dX1_make_123 : decode cX1_make 123 = .ok (.ifCond .eq 7, 3) := by decide +kernel
theorem dX1_make_126 : decode cX1_make 126 = .ok (.iconst 1, 1) := by decide +kernel
theorem dX1_make_127 : decode cX1_make 127 = .ok (.goto 4, 3) := by decide +kernel
theorem dX1_make_130 : decode cX1_make 130 = .ok (.iconst 0, 1) := by decide +kernel
theorem dX1_make_131 : decode cX1_make 131 = .ok (.bastore, 1) := by decide +kernel
theorem dX1_make_132 : decode cX1_make 132 = .ok (.iinc 2 (-1), 3) := by decide +kernel
theorem dX1_make_135 : decode cX1_make 135 = .ok (.goto (-63), 3) := by decide +kernel
theorem dX1_make_138 : decode cX1_make 138 = .ok (.return_, 1) := by decide +kernel
theorem dX1_isIdle_0 : decode cX1_isIdle 0 = .ok (.aload_n 0, 1) := by decide +kernel
theorem dX1_isIdle_1 : decode cX1_isIdle 1 = .ok (.getfield 26, 3) := by decide +kernel
theorem dX1_isIdle_4 : decode cX1_isIdle 4 = .ok (.ireturn, 1) := by decide +kernel
theorem dX1_keepsNode_0 : decode cX1_keepsNode 0 = .ok (.iload_n 1, 1) := by decide +kernel
theorem dX1_keepsNode_1 : decode cX1_keepsNode 1 = .ok (.invokestatic 61, 3) := by decide +kernel
theorem dX1_keepsNode_4 : decode cX1_keepsNode 4 = .ok (.ifCond .eq 16, 3) := by decide +kernel
theorem dX1_keepsNode_7 : decode cX1_keepsNode 7 = .ok (.aload_n 0, 1) := by decide +kernel
theorem dX1_keepsNode_8 : decode cX1_keepsNode 8 = .ok (.getfield 9, 3) := by decide +kernel
theorem dX1_keepsNode_11 : decode cX1_keepsNode 11 = .ok (.iload_n 1, 1) := by decide +kernel
theorem dX1_keepsNode_12 : decode cX1_keepsNode 12 = .ok (.baload, 1) := by decide +kernel
theorem dX1_keepsNode_13 : decode cX1_keepsNode 13 = .ok (.ifCond .eq 7, 3) := by decide +kernel
theorem dX1_keepsNode_16 : decode cX1_keepsNode 16 = .ok (.iconst 1, 1) := by decide +kernel
theorem dX1_keepsNode_17 : decode cX1_keepsNode 17 = .ok (.goto 4, 3) := by decide +kernel
theorem dX1_keepsNode_20 : decode cX1_keepsNode 20 = .ok (.iconst 0, 1) := by decide +kernel
theorem dX1_keepsNode_21 : decode cX1_keepsNode 21 = .ok (.ireturn, 1) := by decide +kernel
theorem dX1_givesNewKey_0 : decode cX1_givesNewKey 0 = .ok (.aload_n 0, 1) := by decide +kernel
theorem dX1_givesNewKey_1 : decode cX1_givesNewKey 1 = .ok (.getfield 26, 3) := by decide +kernel
theorem dX1_givesNewKey_4 : decode cX1_givesNewKey 4 = .ok (.ifCond .ne 32, 3) := by decide +kernel
theorem dX1_givesNewKey_7 : decode cX1_givesNewKey 7 = .ok (.iload_n 1, 1) := by decide +kernel
theorem dX1_givesNewKey_8 : decode cX1_givesNewKey 8 = .ok (.invokestatic 61, 3) := by decide +kernel
theorem dX1_givesNewKey_11 : decode cX1_givesNewKey 11 = .ok (.ifCond .eq 25, 3) := by decide +kernel
theorem dX1_givesNewKey_14 : decode cX1_givesNewKey 14 = .ok (.aload_n 0, 1) := by decide +kernel
theorem dX1_givesNewKey_15 : decode cX1_givesNewKey 15 = .ok (.getfield 15, 3) := by decide +kernel
theorem dX1_givesNewKey_18 : decode cX1_givesNewKey 18 = .ok (.iload_n 1, 1) := by decide +kernel
theorem dX1_givesNewKey_19 : decode cX1_givesNewKey 19 = .ok (.baload, 1) := by decide +kernel
theorem dX1_givesNewKey_20 : decode cX1_givesNewKey 20 = .ok (.ifCond .eq 16, 3) := by decide +kernel
theorem dX1_givesNewKey_23 : decode cX1_givesNewKey 23 = .ok (.aload_n 0, 1) := by decide +kernel
theorem dX1_givesNewKey_24 : decode cX1_givesNewKey 24 = .ok (.getfield 9, 3) := by decide +kernel
theorem dX1_givesNewKey_27 : decode cX1_givesNewKey 27 = .ok (.iload_n 1, 1) := by decide +kernel
theorem dX1_givesNewKey_28 : decode cX1_givesNewKey 28 = .ok (.baload, 1) := by decide +kernel
theorem dX1_givesNewKey_29 : decode cX1_givesNewKey 29 = .ok (.ifCond .eq 7, 3) := by decide +kernel
theorem dX1_givesNewKey_32 : decode cX1_givesNewKey 32 = .ok (.iconst 1, 1) := by decide +kernel
theorem dX1_givesNewKey_33 : decode cX1_givesNewKey 33 = .ok (.goto 4, 3) := by decide +kernel
theorem dX1_givesNewKey_36 : decode cX1_givesNewKey 36 = .ok (.iconst 0, 1) := by decide +kernel
theorem dX1_givesNewKey_37 : decode cX1_givesNewKey 37 = .ok (.ireturn, 1) := by decide +kernel
theorem dX1_cost_0 : decode cX1_cost 0 = .ok (.iconst 0, 1) := by decide +kernel
theorem dX1_cost_1 : decode cX1_cost 1 = .ok (.istore_n 1, 1) := by decide +kernel
theorem dX1_cost_2 : decode cX1_cost 2 = .ok (.iconst 0, 1) := by decide +kernel
theorem dX1_cost_3 : decode cX1_cost 3 = .ok (.istore_n 2, 1) := by decide +kernel
theorem dX1_cost_4 : decode cX1_cost 4 = .ok (.iload_n 2, 1) := by decide +kernel
theorem dX1_cost_5 : decode cX1_cost 5 = .ok (.bipush 21, 2) := by decide +kernel
theorem dX1_cost_7 : decode cX1_cost 7 = .ok (.if_icmp .ge 25, 3) := by decide +kernel
theorem dX1_cost_10 : decode cX1_cost 10 = .ok (.aload_n 0, 1) := by decide +kernel
theorem dX1_cost_11 : decode cX1_cost 11 = .ok (.iload_n 2, 1) := by decide +kernel
theorem dX1_cost_12 : decode cX1_cost 12 = .ok (.invokevirtual 64, 3) := by decide +kernel
theorem dX1_cost_15 : decode cX1_cost 15 = .ok (.ifCond .eq 11, 3) := by decide +kernel
theorem dX1_cost_18 : decode cX1_cost 18 = .ok (.iload_n 1, 1) := by decide +kernel
theorem dX1_cost_19 : decode cX1_cost 19 = .ok (.aload_n 0, 1) := by decide +kernel
theorem dX1_cost_20 : decode cX1_cost 20 = .ok (.iload_n 2, 1) := by decide +kernel
theorem dX1_cost_21 : decode cX1_cost 21 = .ok (.invokevirtual 67, 3) := by decide +kernel
theorem dX1_cost_24 : decode cX1_cost 24 = .ok (.iadd, 1) := by decide +kernel
theorem dX1_cost_25 : decode cX1_cost 25 = .ok (.istore_n 1, 1) := by decide +kernel
theorem dX1_cost_26 : decode cX1_cost 26 = .ok (.iinc 2 1, 3) := by decide +kernel
theorem dX1_cost_29 : decode cX1_cost 29 = .ok (.goto (-25), 3) := by decide +kernel
theorem dX1_cost_32 : decode cX1_cost 32 = .ok (.iload_n 1, 1) := by decide +kernel
theorem dX1_cost_33 : decode cX1_cost 33 = .ok (.ireturn, 1) := by decide +kernel
theorem dX1_staysAt_0 : decode cX1_staysAt 0 = .ok (.iload_n 1, 1) := by decide +kernel
theorem dX1_staysAt_1 : decode cX1_staysAt 1 = .ok (.bipush 21, 2) := by decide +kernel
theorem dX1_staysAt_3 : decode cX1_staysAt 3 = .ok (.isub, 1) := by decide +kernel
theorem dX1_staysAt_4 : decode cX1_staysAt 4 = .ok (.istore_n 2, 1) := by decide +kernel
theorem dX1_staysAt_5 : decode cX1_staysAt 5 = .ok (.iload_n 2, 1) := by decide +kernel
theorem dX1_staysAt_6 : decode cX1_staysAt 6 = .ok (.invokestatic 70, 3) := by decide +kernel
theorem dX1_staysAt_9 : decode cX1_staysAt 9 = .ok (.ifCond .eq 34, 3) := by decide +kernel
theorem dX1_staysAt_12 : decode cX1_staysAt 12 = .ok (.aload_n 0, 1) := by decide +kernel
theorem dX1_staysAt_13 : decode cX1_staysAt 13 = .ok (.getfield 18, 3) := by decide +kernel
theorem dX1_staysAt_16 : decode cX1_staysAt 16 = .ok (.iload_n 2, 1) := by decide +kernel
theorem dX1_staysAt_17 : decode cX1_staysAt 17 = .ok (.invokevirtual 41, 3) := by decide +kernel
theorem dX1_staysAt_20 : decode cX1_staysAt 20 = .ok (.istore_n 3, 1) := by decide +kernel
theorem dX1_staysAt_21 : decode cX1_staysAt 21 = .ok (.iload_n 3, 1) := by decide +kernel
theorem dX1_staysAt_22 : decode cX1_staysAt 22 = .ok (.iconst (-1), 1) := by decide +kernel
theorem dX1_staysAt_23 : decode cX1_staysAt 23 = .ok (.if_icmp .eq 18, 3) := by decide +kernel
theorem dX1_staysAt_26 : decode cX1_staysAt 26 = .ok (.aload_n 0, 1) := by decide +kernel
theorem dX1_staysAt_27 : decode cX1_staysAt 27 = .ok (.getfield 22, 3) := by decide +kernel
theorem dX1_staysAt_30 : decode cX1_staysAt 30 = .ok (.iload_n 3, 1) := by decide +kernel
theorem dX1_staysAt_31 : decode cX1_staysAt 31 = .ok (.invokevirtual 73, 3) := by decide +kernel
theorem dX1_staysAt_34 : decode cX1_staysAt 34 = .ok (.ifCond .ne 7, 3) := by decide +kernel
theorem dX1_staysAt_37 : decode cX1_staysAt 37 = .ok (.iconst 1, 1) := by decide +kernel
theorem dX1_staysAt_38 : decode cX1_staysAt 38 = .ok (.goto 4, 3) := by decide +kernel
theorem dX1_staysAt_41 : decode cX1_staysAt 41 = .ok (.iconst 0, 1) := by decide +kernel
theorem dX1_staysAt_42 : decode cX1_staysAt 42 = .ok (.ireturn, 1) := by decide +kernel
theorem dX1_staysAt_43 : decode cX1_staysAt 43 = .ok (.aload_n 0, 1) := by decide +kernel
theorem dX1_staysAt_44 : decode cX1_staysAt 44 = .ok (.iload_n 1, 1) := by decide +kernel
theorem dX1_staysAt_45 : decode cX1_staysAt 45 = .ok (.invokevirtual 67, 3) := by decide +kernel
theorem dX1_staysAt_48 : decode cX1_staysAt 48 = .ok (.ifCond .le 7, 3) := by decide +kernel
theorem dX1_staysAt_51 : decode cX1_staysAt 51 = .ok (.iconst 1, 1) := by decide +kernel
theorem dX1_staysAt_52 : decode cX1_staysAt 52 = .ok (.goto 4, 3) := by decide +kernel
theorem dX1_staysAt_55 : decode cX1_staysAt 55 = .ok (.iconst 0, 1) := by decide +kernel
theorem dX1_staysAt_56 : decode cX1_staysAt 56 = .ok (.ireturn, 1) := by decide +kernel
theorem dX1_countStayingChildren_0 : decode cX1_countStayingChildren 0 = .ok (.iload_n 1, 1) := by decide +kernel
theorem dX1_countStayingChildren_1 : decode cX1_countStayingChildren 1 = .ok (.invokestatic 76, 3) := by decide +kernel
theorem dX1_countStayingChildren_4 : decode cX1_countStayingChildren 4 = .ok (.istore_n 2, 1) := by decide +kernel
theorem dX1_countStayingChildren_5 : decode cX1_countStayingChildren 5 = .ok (.iconst 0, 1) := by decide +kernel
theorem dX1_countStayingChildren_6 : decode cX1_countStayingChildren 6 = .ok (.istore_n 3, 1) := by decide +kernel
theorem dX1_countStayingChildren_7 : decode cX1_countStayingChildren 7 = .ok (.iload_n 2, 1) := by decide +kernel
theorem dX1_countStayingChildren_8 : decode cX1_countStayingChildren 8 = .ok (.istore 4, 2) := by decide +kernel
theorem dX1_countStayingChildren_10 : decode cX1_countStayingChildren 10 = .ok (.iload 4, 2) := by decide +kernel
theorem dX1_countStayingChildren_12 : decode cX1_countStayingChildren 12 = .ok (.iload_n 2, 1) := by decide +kernel
theorem dX1_countStayingChildren_13 : decode cX1_countStayingChildren 13 = .ok (.iconst 4, 1) := by decide +kernel
theorem dX1_countStayingChildren_14 : decode cX1_countStayingChildren 14 = .ok (.iadd, 1) := by decide +kernel
theorem dX1_countStayingChildren_15 : decode cX1_countStayingChildren 15 = .ok (.if_icmp .ge 21, 3) := by decide +kernel
theorem dX1_countStayingChildren_18 : decode cX1_countStayingChildren 18 = .ok (.aload_n 0, 1) := by decide +kernel
theorem dX1_countStayingChildren_19 : decode cX1_countStayingChildren 19 = .ok (.iload 4, 2) := by decide +kernel
theorem dX1_countStayingChildren_21 : decode cX1_countStayingChildren 21 = .ok (.invokevirtual 79, 3) := by decide +kernel
theorem dX1_countStayingChildren_24 : decode cX1_countStayingChildren 24 = .ok (.ifCond .eq 6, 3) := by decide +kernel
theorem dX1_countStayingChildren_27 : decode cX1_countStayingChildren 27 = .ok (.iinc 3 1, 3) := by decide +kernel
theorem dX1_countStayingChildren_30 : decode cX1_countStayingChildren 30 = .ok (.iinc 4 1, 3) := by decide +kernel
theorem dX1_countStayingChildren_33 : decode cX1_countStayingChildren 33 = .ok (.goto (-23), 3) := by decide +kernel
theorem dX1_countStayingChildren_36 : decode cX1_countStayingChildren 36 = .ok (.iload_n 3, 1) := by decide +kernel
theorem dX1_countStayingChildren_37 : decode cX1_countStayingChildren 37 = .ok (.ireturn, 1) := by decide +kernel
theorem dX2_init_0 : decode cX2_init 0 = .ok (.aload_n 0, 1) := by decide +kernel
theorem dX2_init_1 : decode cX2_init 1 = .ok (.invokespecial 3, 3) := by decide +kernel
theorem dX2_init_4 : decode cX2_init 4 = .ok (.aload_n 0, 1) := by decide +kernel
theorem dX2_init_5 : decode cX2_init 5 = .ok (.bipush 85, 2) := by decide +kernel
theorem dX2_init_7 : decode cX2_init 7 = .ok (.newarray .int, 2) := by decide +kernel
theorem dX2_init_9 : decode cX2_init 9 = .ok (.putfield 9, 3) := by decide +kernel
theorem dX2_init_12 : decode cX2_init 12 = .ok (.aload_n 0, 1) := by decide +kernel
theorem dX2_init_13 : decode cX2_init 13 = .ok (.aload_n 1, 1) := by decide +kernel
theorem dX2_init_14 : decode cX2_init 14 = .ok (.putfield 15, 3) := by decide +kernel
theorem dX2_init_17 : decode cX2_init 17 = .ok (.return_, 1) := by decide +kernel
theorem dX2_compute_0 : decode cX2_compute 0 = .ok (.bipush 84, 2) := by decide +kernel
theorem dX2_compute_2 : decode cX2_compute 2 = .ok (.istore_n 1, 1) := by decide +kernel
theorem dX2_compute_3 : decode cX2_compute 3 = .ok (.iload_n 1, 1) := by decide +kernel
theorem dX2_compute_4 : decode cX2_compute 4 = .ok (.ifCond .lt 35, 3) := by decide +kernel
theorem dX2_compute_7 : decode cX2_compute 7 = .ok (.aload_n 0, 1) := by decide +kernel
theorem dX2_compute_8 : decode cX2_compute 8 = .ok (.getfield 9, 3) := by decide +kernel
theorem dX2_compute_11 : decode cX2_compute 11 = .ok (.iload_n 1, 1) := by decide +kernel
theorem dX2_compute_12 : decode cX2_compute 12 = .ok (.aload_n 0, 1) := by decide +kernel
theorem dX2_compute_13 : decode cX2_compute 13 = .ok (.getfield 15, 3) := by decide +kernel
theorem dX2_compute_16 : decode cX2_compute 16 = .ok (.iload_n 1, 1) := by decide +kernel
theorem dX2_compute_17 : decode cX2_compute 17 = .ok (.invokevirtual 19, 3) := by decide +kernel
theorem dX2_compute_20 : decode cX2_compute 20 = .ok (.ifCond .eq 11, 3) := by decide +kernel
theorem dX2_compute_23 : decode cX2_compute 23 = .ok (.aload_n 0, 1) := by decide +kernel
theorem dX2_compute_24 : decode cX2_compute 24 = .ok (.iload_n 1, 1) := by decide +kernel
theorem dX2_compute_25 : decode cX2_compute 25 = .ok (.invokevirtual 25, 3) := by decide +kernel
theorem dX2_compute_28 : decode cX2_compute 28 = .ok (.goto 4, 3) := by decide +kernel
theorem dX2_compute_31 : decode cX2_compute 31 = .ok (.iconst 0, 1) := by decide +kernel
theorem dX2_compute_32 : decode cX2_compute 32 = .ok (.iastore, 1) := by decide +kernel
theorem dX2_compute_33 : decode cX2_compute 33 = .ok (.iinc 1 (-1), 3) := by decide +kernel
theorem dX2_compute_36 : decode cX2_compute 36 = .ok (.goto (-33), 3) := by decide +kernel
theorem dX2_compute_39 : decode cX2_compute 39 = .ok (.return_, 1) := by decide +kernel
theorem dX2_of_0 : decode cX2_of 0 = .ok (.iload_n 1, 1) := by decide +kernel
theorem dX2_of_1 : decode cX2_of 1 = .ok (.invokestatic 29, 3) := by decide +kernel
theorem dX2_of_4 : decode cX2_of 4 = .ok (.ifCond .eq 12, 3) := by decide +kernel
theorem dX2_of_7 : decode cX2_of 7 = .ok (.aload_n 0, 1) := by decide +kernel
theorem dX2_of_8 : decode cX2_of 8 = .ok (.getfield 9, 3) := by decide +kernel
theorem dX2_of_11 : decode cX2_of 11 = .ok (.iload_n 1, 1) := by decide +kernel
theorem dX2_of_12 : decode cX2_of 12 = .ok (.iaload, 1) := by decide +kernel
theorem dX2_of_13 : decode cX2_of 13 = .ok (.goto 4, 3) := by decide +kernel
theorem dX2_of_16 : decode cX2_of 16 = .ok (.iconst 0, 1) := by decide +kernel
theorem dX2_of_17 : decode cX2_of 17 = .ok (.ireturn, 1) := by decide +kernel
theorem dX2_hashAt_0 : decode cX2_hashAt 0 = .ok (.aload_n 0, 1) := by decide +kernel
theorem dX2_hashAt_1 : decode cX2_hashAt 1 = .ok (.getfield 15, 3) := by decide +kernel
theorem dX2_hashAt_4 : decode cX2_hashAt 4 = .ok (.iload_n 1, 1) := by decide +kernel
theorem dX2_hashAt_5 : decode cX2_hashAt 5 = .ok (.invokevirtual 32, 3) := by decide +kernel
theorem dX2_hashAt_8 : decode cX2_hashAt 8 = .ok (.invokestatic 35, 3) := by decide +kernel
theorem dX2_hashAt_11 : decode cX2_hashAt 11 = .ok (.istore_n 2, 1) := by decide +kernel
theorem dX2_hashAt_12 : decode cX2_hashAt 12 = .ok (.iload_n 1, 1) := by decide +kernel
theorem dX2_hashAt_13 : decode cX2_hashAt 13 = .ok (.bipush 21, 2) := by decide +kernel
theorem dX2_hashAt_15 : decode cX2_hashAt 15 = .ok (.isub, 1) := by decide +kernel
theorem dX2_hashAt_16 : decode cX2_hashAt 16 = .ok (.istore_n 3, 1) := by decide +kernel
theorem dX2_hashAt_17 : decode cX2_hashAt 17 = .ok (.iload_n 3, 1) := by decide +kernel
theorem dX2_hashAt_18 : decode cX2_hashAt 18 = .ok (.invokestatic 38, 3) := by decide +kernel
theorem dX2_hashAt_21 : decode cX2_hashAt 21 = .ok (.ifCond .eq 19, 3) := by decide +kernel
theorem dX2_hashAt_24 : decode cX2_hashAt 24 = .ok (.iload_n 2, 1) := by decide +kernel
theorem dX2_hashAt_25 : decode cX2_hashAt 25 = .ok (.aload_n 0, 1) := by decide +kernel
theorem dX2_hashAt_26 : decode cX2_hashAt 26 = .ok (.getfield 15, 3) := by decide +kernel
theorem dX2_hashAt_29 : decode cX2_hashAt 29 = .ok (.iload_n 3, 1) := by decide +kernel
theorem dX2_hashAt_30 : decode cX2_hashAt 30 = .ok (.invokevirtual 41, 3) := by decide +kernel
theorem dX2_hashAt_33 : decode cX2_hashAt 33 = .ok (.iconst 1, 1) := by decide +kernel
theorem dX2_hashAt_34 : decode cX2_hashAt 34 = .ok (.iadd, 1) := by decide +kernel
theorem dX2_hashAt_35 : decode cX2_hashAt 35 = .ok (.ixor, 1) := by decide +kernel
theorem dX2_hashAt_36 : decode cX2_hashAt 36 = .ok (.invokestatic 35, 3) := by decide +kernel
theorem dX2_hashAt_39 : decode cX2_hashAt 39 = .ok (.ireturn, 1) := by decide +kernel
theorem dX2_hashAt_40 : decode cX2_hashAt 40 = .ok (.iload_n 1, 1) := by decide +kernel
theorem dX2_hashAt_41 : decode cX2_hashAt 41 = .ok (.invokestatic 44, 3) := by decide +kernel
theorem dX2_hashAt_44 : decode cX2_hashAt 44 = .ok (.istore 4, 2) := by decide +kernel
theorem dX2_hashAt_46 : decode cX2_hashAt 46 = .ok (.iload 4, 2) := by decide +kernel
theorem dX2_hashAt_48 : decode cX2_hashAt 48 = .ok (.istore 5, 2) := by decide +kernel
theorem dX2_hashAt_50 : decode cX2_hashAt 50 = .ok (.iload 5, 2) := by decide +kernel
theorem dX2_hashAt_52 : decode cX2_hashAt 52 = .ok (.iload 4, 2) := by decide +kernel
theorem dX2_hashAt_54 : decode cX2_hashAt 54 = .ok (.iconst 4, 1) := by decide +kernel
theorem dX2_hashAt_55 : decode cX2_hashAt 55 = .ok (.iadd, 1) := by decide +kernel
theorem dX2_hashAt_56 : decode cX2_hashAt 56 = .ok (.if_icmp .ge 21, 3) := by decide +kernel
theorem dX2_hashAt_59 : decode cX2_hashAt 59 = .ok (.iload_n 2, 1) := by decide +kernel
theorem dX2_hashAt_60 : decode cX2_hashAt 60 = .ok (.aload_n 0, 1) := by decide +kernel
theorem dX2_hashAt_61 : decode cX2_hashAt 61 = .ok (.iload 5, 2) := by decide +kernel
theorem dX2_hashAt_63 : decode cX2_hashAt 63 = .ok (.invokevirtual 47, 3) := by decide +kernel
theorem dX2_hashAt_66 : decode cX2_hashAt 66 = .ok (.ixor, 1) := by decide +kernel
theorem dX2_hashAt_67 : decode cX2_hashAt 67 = .ok (.invokestatic 35, 3) := by decide +kernel
theorem dX2_hashAt_70 : decode cX2_hashAt 70 = .ok (.istore_n 2, 1) := by decide +kernel
theorem dX2_hashAt_71 : decode cX2_hashAt 71 = .ok (.iinc 5 1, 3) := by decide +kernel
theorem dX2_hashAt_74 : decode cX2_hashAt 74 = .ok (.goto (-24), 3) := by decide +kernel
theorem dX2_hashAt_77 : decode cX2_hashAt 77 = .ok (.iload_n 2, 1) := by decide +kernel
theorem dX2_hashAt_78 : decode cX2_hashAt 78 = .ok (.ireturn, 1) := by decide +kernel
theorem dX3_init_0 : decode cX3_init 0 = .ok (.aload_n 0, 1) := by decide +kernel
theorem dX3_init_1 : decode cX3_init 1 = .ok (.invokespecial 3, 3) := by decide +kernel
theorem dX3_init_4 : decode cX3_init 4 = .ok (.aload_n 0, 1) := by decide +kernel
theorem dX3_init_5 : decode cX3_init 5 = .ok (.sipush 2049, 3) := by decide +kernel
theorem dX3_init_8 : decode cX3_init 8 = .ok (.newarray .int, 2) := by decide +kernel
theorem dX3_init_10 : decode cX3_init 10 = .ok (.putfield 9, 3) := by decide +kernel
theorem dX3_init_13 : decode cX3_init 13 = .ok (.return_, 1) := by decide +kernel
theorem dX3_begin_0 : decode cX3_begin 0 = .ok (.aload_n 0, 1) := by decide +kernel
theorem dX3_begin_1 : decode cX3_begin 1 = .ok (.iload_n 1, 1) := by decide +kernel
theorem dX3_begin_2 : decode cX3_begin 2 = .ok (.putfield 15, 3) := by decide +kernel
theorem dX3_begin_5 : decode cX3_begin 5 = .ok (.aload_n 0, 1) := by decide +kernel
theorem dX3_begin_6 : decode cX3_begin 6 = .ok (.iconst 0, 1) := by decide +kernel
theorem dX3_begin_7 : decode cX3_begin 7 = .ok (.putfield 19, 3) := by decide +kernel
theorem dX3_begin_10 : decode cX3_begin 10 = .ok (.return_, 1) := by decide +kernel
theorem dX3_isMade_0 : decode cX3_isMade 0 = .ok (.iload_n 1, 1) := by decide +kernel
theorem dX3_isMade_1 : decode cX3_isMade 1 = .ok (.iconst 1, 1) := by decide +kernel
theorem dX3_isMade_2 : decode cX3_isMade 2 = .ok (.if_icmp .lt 22, 3) := by decide +kernel
theorem dX3_isMade_5 : decode cX3_isMade 5 = .ok (.iload_n 1, 1) := by decide +kernel
theorem dX3_isMade_6 : decode cX3_isMade 6 = .ok (.aload_n 0, 1) := by decide +kernel
theorem dX3_isMade_7 : decode cX3_isMade 7 = .ok (.getfield 19, 3) := by decide +kernel
theorem dX3_isMade_10 : decode cX3_isMade 10 = .ok (.if_icmp .gt 14, 3) := by decide +kernel
theorem dX3_isMade_13 : decode cX3_isMade 13 = .ok (.iload_n 1, 1) := by decide +kernel
theorem dX3_isMade_14 : decode cX3_isMade 14 = .ok (.sipush 2048, 3) := by decide +kernel
theorem dX3_isMade_17 : decode cX3_isMade 17 = .ok (.if_icmp .gt 7, 3) := by decide +kernel
theorem dX3_isMade_20 : decode cX3_isMade 20 = .ok (.iconst 1, 1) := by decide +kernel
theorem dX3_isMade_21 : decode cX3_isMade 21 = .ok (.goto 4, 3) := by decide +kernel
theorem dX3_isMade_24 : decode cX3_isMade 24 = .ok (.iconst 0, 1) := by decide +kernel
theorem dX3_isMade_25 : decode cX3_isMade 25 = .ok (.ireturn, 1) := by decide +kernel
theorem dX3_areEnoughLeft_0 : decode cX3_areEnoughLeft 0 = .ok (.aload_n 0, 1) := by decide +kernel
theorem dX3_areEnoughLeft_1 : decode cX3_areEnoughLeft 1 = .ok (.getfield 19, 3) := by decide +kernel
theorem dX3_areEnoughLeft_4 : decode cX3_areEnoughLeft 4 = .ok (.sipush 2027, 3) := by decide +kernel
theorem dX3_areEnoughLeft_7 : decode cX3_areEnoughLeft 7 = .ok (.if_icmp .gt 7, 3) := by decide +kernel
theorem dX3_areEnoughLeft_10 : decode cX3_areEnoughLeft 10 = .ok (.iconst 1, 1) := by decide +kernel
theorem dX3_areEnoughLeft_11 : decode cX3_areEnoughLeft 11 = .ok (.goto 4, 3) := by decide +kernel
theorem dX3_areEnoughLeft_14 : decode cX3_areEnoughLeft 14 = .ok (.iconst 0, 1) := by decide +kernel
theorem dX3_areEnoughLeft_15 : decode cX3_areEnoughLeft 15 = .ok (.ireturn, 1) := by decide +kernel
theorem dX3_number_0 : decode cX3_number 0 = .ok (.aload_n 0, 1) := by decide +kernel
theorem dX3_number_1 : decode cX3_number 1 = .ok (.getfield 19, 3) := by decide +kernel
theorem dX3_number_4 : decode cX3_number 4 = .ok (.ireturn, 1) := by decide +kernel
theorem dX3_make_0 : decode cX3_make 0 = .ok (.aload_n 0, 1) := by decide +kernel
theorem dX3_make_1 : decode cX3_make 1 = .ok (.getfield 19, 3) := by decide +kernel
theorem dX3_make_4 : decode cX3_make 4 = .ok (.sipush 2048, 3) := by decide +kernel
theorem dX3_make_7 : decode cX3_make 7 = .ok (.if_icmp .ge 23, 3) := by decide +kernel
theorem dX3_make_10 : decode cX3_make 10 = .ok (.aload_n 0, 1) := by decide +kernel
theorem dX3_make_11 : decode cX3_make 11 = .ok (.dup, 1) := by decide +kernel
theorem dX3_make_12 : decode cX3_make 12 = .ok (.getfield 19, 3) := by decide +kernel
theorem dX3_make_15 : decode cX3_make 15 = .ok (.iconst 1, 1) := by decide +kernel
theorem dX3_make_16 : decode cX3_make 16 = .ok (.iadd, 1) := by decide +kernel
theorem dX3_make_17 : decode cX3_make 17 = .ok (.putfield 19, 3) := by decide +kernel
theorem dX3_make_20 : decode cX3_make 20 = .ok (.aload_n 0, 1) := by decide +kernel
theorem dX3_make_21 : decode cX3_make 21 = .ok (.getfield 9, 3) := by decide +kernel
theorem dX3_make_24 : decode cX3_make 24 = .ok (.aload_n 0, 1) := by decide +kernel
theorem dX3_make_25 : decode cX3_make 25 = .ok (.getfield 19, 3) := by decide +kernel
theorem dX3_make_28 : decode cX3_make 28 = .ok (.iload_n 1, 1) := by decide +kernel
theorem dX3_make_29 : decode cX3_make 29 = .ok (.iastore, 1) := by decide +kernel
theorem dX3_make_30 : decode cX3_make 30 = .ok (.aload_n 0, 1) := by decide +kernel
theorem dX3_make_31 : decode cX3_make 31 = .ok (.getfield 19, 3) := by decide +kernel
theorem dX3_make_34 : decode cX3_make 34 = .ok (.ireturn, 1) := by decide +kernel
theorem dX3_placeOf_0 : decode cX3_placeOf 0 = .ok (.aload_n 0, 1) := by decide +kernel
theorem dX3_placeOf_1 : decode cX3_placeOf 1 = .ok (.iload_n 1, 1) := by decide +kernel
theorem dX3_placeOf_2 : decode cX3_placeOf 2 = .ok (.invokevirtual 22, 3) := by decide +kernel
theorem dX3_placeOf_5 : decode cX3_placeOf 5 = .ok (.ifCond .eq 12, 3) := by decide +kernel
theorem dX3_placeOf_8 : decode cX3_placeOf 8 = .ok (.aload_n 0, 1) := by decide +kernel
theorem dX3_placeOf_9 : decode cX3_placeOf 9 = .ok (.getfield 9, 3) := by decide +kernel
theorem dX3_placeOf_12 : decode cX3_placeOf 12 = .ok (.iload_n 1, 1) := by decide +kernel
theorem dX3_placeOf_13 : decode cX3_placeOf 13 = .ok (.iaload, 1) := by decide +kernel
theorem dX3_placeOf_14 : decode cX3_placeOf 14 = .ok (.goto 4, 3) := by decide +kernel
theorem dX3_placeOf_17 : decode cX3_placeOf 17 = .ok (.iconst (-1), 1) := by decide +kernel
theorem dX3_placeOf_18 : decode cX3_placeOf 18 = .ok (.ireturn, 1) := by decide +kernel
theorem dX3_settle_0 : decode cX3_settle 0 = .ok (.aload_n 0, 1) := by decide +kernel
theorem dX3_settle_1 : decode cX3_settle 1 = .ok (.iload_n 1, 1) := by decide +kernel
theorem dX3_settle_2 : decode cX3_settle 2 = .ok (.invokevirtual 22, 3) := by decide +kernel
theorem dX3_settle_5 : decode cX3_settle 5 = .ok (.ifCond .eq 10, 3) := by decide +kernel
theorem dX3_settle_8 : decode cX3_settle 8 = .ok (.aload_n 0, 1) := by decide +kernel
theorem dX3_settle_9 : decode cX3_settle 9 = .ok (.getfield 9, 3) := by decide +kernel
theorem dX3_settle_12 : decode cX3_settle 12 = .ok (.iload_n 1, 1) := by decide +kernel
theorem dX3_settle_13 : decode cX3_settle 13 = .ok (.iload_n 2, 1) := by decide +kernel
theorem dX3_settle_14 : decode cX3_settle 14 = .ok (.iastore, 1) := by decide +kernel
theorem dX3_settle_15 : decode cX3_settle 15 = .ok (.return_, 1) := by decide +kernel
theorem dX3_valueOf_0 : decode cX3_valueOf 0 = .ok (.aload_n 0, 1) := by decide +kernel
theorem dX3_valueOf_1 : decode cX3_valueOf 1 = .ok (.getfield 15, 3) := by decide +kernel
theorem dX3_valueOf_4 : decode cX3_valueOf 4 = .ok (.iload_n 1, 1) := by decide +kernel
theorem dX3_valueOf_5 : decode cX3_valueOf 5 = .ok (.ldc 26, 2) := by decide +kernel
theorem dX3_valueOf_7 : decode cX3_valueOf 7 = .ok (.imul, 1) := by decide +kernel
theorem dX3_valueOf_8 : decode cX3_valueOf 8 = .ok (.iadd, 1) := by decide +kernel
theorem dX3_valueOf_9 : decode cX3_valueOf 9 = .ok (.invokestatic 27, 3) := by decide +kernel
theorem dX3_valueOf_12 : decode cX3_valueOf 12 = .ok (.ireturn, 1) := by decide +kernel
theorem dX4_init_0 : decode cX4_init 0 = .ok (.aload_n 0, 1) := by decide +kernel
theorem dX4_init_1 : decode cX4_init 1 = .ok (.invokespecial 3, 3) := by decide +kernel
theorem dX4_init_4 : decode cX4_init 4 = .ok (.aload_n 0, 1) := by decide +kernel
theorem dX4_init_5 : decode cX4_init 5 = .ok (.bipush 8, 2) := by decide +kernel
theorem dX4_init_7 : decode cX4_init 7 = .ok (.newarray .int, 2) := by decide +kernel
theorem dX4_init_9 : decode cX4_init 9 = .ok (.putfield 9, 3) := by decide +kernel
theorem dX4_init_12 : decode cX4_init 12 = .ok (.aload_n 0, 1) := by decide +kernel
theorem dX4_init_13 : decode cX4_init 13 = .ok (.bipush 8, 2) := by decide +kernel
theorem dX4_init_15 : decode cX4_init 15 = .ok (.newarray .int, 2) := by decide +kernel
theorem dX4_init_17 : decode cX4_init 17 = .ok (.putfield 15, 3) := by decide +kernel
theorem dX4_init_20 : decode cX4_init 20 = .ok (.aload_n 0, 1) := by decide +kernel
theorem dX4_init_21 : decode cX4_init 21 = .ok (.sipush 1200, 3) := by decide +kernel
theorem dX4_init_24 : decode cX4_init 24 = .ok (.newarray .int, 2) := by decide +kernel
theorem dX4_init_26 : decode cX4_init 26 = .ok (.putfield 18, 3) := by decide +kernel
theorem dX4_init_29 : decode cX4_init 29 = .ok (.aload_n 0, 1) := by decide +kernel
theorem dX4_init_30 : decode cX4_init 30 = .ok (.sipush 1200, 3) := by decide +kernel
theorem dX4_init_33 : decode cX4_init 33 = .ok (.newarray .int, 2) := by decide +kernel
theorem dX4_init_35 : decode cX4_init 35 = .ok (.putfield 21, 3) := by decide +kernel
theorem dX4_init_38 : decode cX4_init 38 = .ok (.aload_n 0, 1) := by decide +kernel
theorem dX4_init_39 : decode cX4_init 39 = .ok (.sipush 1200, 3) := by decide +kernel
theorem dX4_init_42 : decode cX4_init 42 = .ok (.newarray .int, 2) := by decide +kernel
theorem dX4_init_44 : decode cX4_init 44 = .ok (.putfield 24, 3) := by decide +kernel
theorem dX4_init_47 : decode cX4_init 47 = .ok (.return_, 1) := by decide +kernel
theorem dX4_begin_0 : decode cX4_begin 0 = .ok (.aload_n 0, 1) := by decide +kernel
theorem dX4_begin_1 : decode cX4_begin 1 = .ok (.iconst 0, 1) := by decide +kernel
theorem dX4_begin_2 : decode cX4_begin 2 = .ok (.putfield 27, 3) := by decide +kernel
theorem dX4_begin_5 : decode cX4_begin 5 = .ok (.aload_n 0, 1) := by decide +kernel
theorem dX4_begin_6 : decode cX4_begin 6 = .ok (.invokevirtual 31, 3) := by decide +kernel
theorem dX4_begin_9 : decode cX4_begin 9 = .ok (.pop, 1) := by decide +kernel
theorem dX4_begin_10 : decode cX4_begin 10 = .ok (.return_, 1) := by decide +kernel
theorem dX4_number_0 : decode cX4_number 0 = .ok (.aload_n 0, 1) := by decide +kernel
theorem dX4_number_1 : decode cX4_number 1 = .ok (.getfield 27, 3) := by decide +kernel
theorem dX4_number_4 : decode cX4_number 4 = .ok (.ireturn, 1) := by decide +kernel
theorem dX4_add_0 : decode cX4_add 0 = .ok (.aload_n 0, 1) := by decide +kernel
theorem dX4_add_1 : decode cX4_add 1 = .ok (.getfield 27, 3) := by decide +kernel
theorem dX4_add_4 : decode cX4_add 4 = .ok (.bipush 8, 2) := by decide +kernel
theorem dX4_add_6 : decode cX4_add 6 = .ok (.if_icmp .ge 33, 3) := by decide +kernel
theorem dX4_add_9 : decode cX4_add 9 = .ok (.aload_n 0, 1) := by decide +kernel
theorem dX4_add_10 : decode cX4_add 10 = .ok (.getfield 9, 3) := by decide +kernel
theorem dX4_add_13 : decode cX4_add 13 = .ok (.aload_n 0, 1) := by decide +kernel
theorem dX4_add_14 : decode cX4_add 14 = .ok (.getfield 27, 3) := by decide +kernel
theorem dX4_add_17 : decode cX4_add 17 = .ok (.iconst 0, 1) := by decide +kernel
theorem dX4_add_18 : decode cX4_add 18 = .ok (.iastore, 1) := by decide +kernel
theorem dX4_add_19 : decode cX4_add 19 = .ok (.aload_n 0, 1) := by decide +kernel
theorem dX4_add_20 : decode cX4_add 20 = .ok (.getfield 15, 3) := by decide +kernel
theorem dX4_add_23 : decode cX4_add 23 = .ok (.aload_n 0, 1) := by decide +kernel
theorem dX4_add_24 : decode cX4_add 24 = .ok (.getfield 27, 3) := by decide +kernel
theorem dX4_add_27 : decode cX4_add 27 = .ok (.iconst 0, 1) := by decide +kernel
theorem dX4_add_28 : decode cX4_add 28 = .ok (.iastore, 1) := by decide +kernel
theorem dX4_add_29 : decode cX4_add 29 = .ok (.aload_n 0, 1) := by decide +kernel
theorem dX4_add_30 : decode cX4_add 30 = .ok (.dup, 1) := by decide +kernel
theorem dX4_add_31 : decode cX4_add 31 = .ok (.getfield 27, 3) := by decide +kernel
theorem dX4_add_34 : decode cX4_add 34 = .ok (.iconst 1, 1) := by decide +kernel
theorem dX4_add_35 : decode cX4_add 35 = .ok (.iadd, 1) := by decide +kernel
theorem dX4_add_36 : decode cX4_add 36 = .ok (.putfield 27, 3) := by decide +kernel
theorem dX4_add_39 : decode cX4_add 39 = .ok (.aload_n 0, 1) := by decide +kernel
theorem dX4_add_40 : decode cX4_add 40 = .ok (.getfield 27, 3) := by decide +kernel
theorem dX4_add_43 : decode cX4_add 43 = .ok (.iconst 1, 1) := by decide +kernel
theorem dX4_add_44 : decode cX4_add 44 = .ok (.isub, 1) := by decide +kernel
theorem dX4_add_45 : decode cX4_add 45 = .ok (.ireturn, 1) := by decide +kernel
theorem dX4_stateOf_0 : decode cX4_stateOf 0 = .ok (.aload_n 0, 1) := by decide +kernel
theorem dX4_stateOf_1 : decode cX4_stateOf 1 = .ok (.iload_n 1, 1) := by decide +kernel
theorem dX4_stateOf_2 : decode cX4_stateOf 2 = .ok (.invokevirtual 35, 3) := by decide +kernel
theorem dX4_stateOf_5 : decode cX4_stateOf 5 = .ok (.ifCond .eq 12, 3) := by decide +kernel
theorem dX4_stateOf_8 : decode cX4_stateOf 8 = .ok (.aload_n 0, 1) := by decide +kernel
theorem dX4_stateOf_9 : decode cX4_stateOf 9 = .ok (.getfield 9, 3) := by decide +kernel
theorem dX4_stateOf_12 : decode cX4_stateOf 12 = .ok (.iload_n 1, 1) := by decide +kernel
theorem dX4_stateOf_13 : decode cX4_stateOf 13 = .ok (.iaload, 1) := by decide +kernel
theorem dX4_stateOf_14 : decode cX4_stateOf 14 = .ok (.goto 4, 3) := by decide +kernel
theorem dX4_stateOf_17 : decode cX4_stateOf 17 = .ok (.iconst 2, 1) := by decide +kernel
theorem dX4_stateOf_18 : decode cX4_stateOf 18 = .ok (.ireturn, 1) := by decide +kernel
theorem dX4_isIntact_0 : decode cX4_isIntact 0 = .ok (.aload_n 0, 1) := by decide +kernel
theorem dX4_isIntact_1 : decode cX4_isIntact 1 = .ok (.iload_n 1, 1) := by decide +kernel
theorem dX4_isIntact_2 : decode cX4_isIntact 2 = .ok (.invokevirtual 35, 3) := by decide +kernel
theorem dX4_isIntact_5 : decode cX4_isIntact 5 = .ok (.ifCond .eq 16, 3) := by decide +kernel
theorem dX4_isIntact_8 : decode cX4_isIntact 8 = .ok (.aload_n 0, 1) := by decide +kernel
theorem dX4_isIntact_9 : decode cX4_isIntact 9 = .ok (.getfield 9, 3) := by decide +kernel
theorem dX4_isIntact_12 : decode cX4_isIntact 12 = .ok (.iload_n 1, 1) := by decide +kernel
theorem dX4_isIntact_13 : decode cX4_isIntact 13 = .ok (.iaload, 1) := by decide +kernel
theorem dX4_isIntact_14 : decode cX4_isIntact 14 = .ok (.ifCond .ne 7, 3) := by decide +kernel
theorem dX4_isIntact_17 : decode cX4_isIntact 17 = .ok (.iconst 1, 1) := by decide +kernel
theorem dX4_isIntact_18 : decode cX4_isIntact 18 = .ok (.goto 4, 3) := by decide +kernel
theorem dX4_isIntact_21 : decode cX4_isIntact 21 = .ok (.iconst 0, 1) := by decide +kernel
theorem dX4_isIntact_22 : decode cX4_isIntact 22 = .ok (.ireturn, 1) := by decide +kernel
theorem dX4_sizeOf_0 : decode cX4_sizeOf 0 = .ok (.aload_n 0, 1) := by decide +kernel
theorem dX4_sizeOf_1 : decode cX4_sizeOf 1 = .ok (.iload_n 1, 1) := by decide +kernel
theorem dX4_sizeOf_2 : decode cX4_sizeOf 2 = .ok (.invokevirtual 35, 3) := by decide +kernel
theorem dX4_sizeOf_5 : decode cX4_sizeOf 5 = .ok (.ifCond .eq 12, 3) := by decide +kernel
theorem dX4_sizeOf_8 : decode cX4_sizeOf 8 = .ok (.aload_n 0, 1) := by decide +kernel
theorem dX4_sizeOf_9 : decode cX4_sizeOf 9 = .ok (.getfield 15, 3) := by decide +kernel
theorem dX4_sizeOf_12 : decode cX4_sizeOf 12 = .ok (.iload_n 1, 1) := by decide +kernel
theorem dX4_sizeOf_13 : decode cX4_sizeOf 13 = .ok (.iaload, 1) := by decide +kernel
theorem dX4_sizeOf_14 : decode cX4_sizeOf 14 = .ok (.goto 4, 3) := by decide +kernel
theorem dX4_sizeOf_17 : decode cX4_sizeOf 17 = .ok (.iconst 0, 1) := by decide +kernel
theorem dX4_sizeOf_18 : decode cX4_sizeOf 18 = .ok (.ireturn, 1) := by decide +kernel
theorem dX4_roomOn_0 : decode cX4_roomOn 0 = .ok (.aload_n 0, 1) := by decide +kernel
theorem dX4_roomOn_1 : decode cX4_roomOn 1 = .ok (.iload_n 1, 1) := by decide +kernel
theorem dX4_roomOn_2 : decode cX4_roomOn 2 = .ok (.invokevirtual 35, 3) := by decide +kernel
theorem dX4_roomOn_5 : decode cX4_roomOn 5 = .ok (.ifCond .eq 25, 3) := by decide +kernel
theorem dX4_roomOn_8 : decode cX4_roomOn 8 = .ok (.aload_n 0, 1) := by decide +kernel
theorem dX4_roomOn_9 : decode cX4_roomOn 9 = .ok (.getfield 9, 3) := by decide +kernel
theorem dX4_roomOn_12 : decode cX4_roomOn 12 = .ok (.iload_n 1, 1) := by decide +kernel
theorem dX4_roomOn_13 : decode cX4_roomOn 13 = .ok (.iaload, 1) := by decide +kernel
theorem dX4_roomOn_14 : decode cX4_roomOn 14 = .ok (.ifCond .ne 16, 3) := by decide +kernel
theorem dX4_roomOn_17 : decode cX4_roomOn 17 = .ok (.sipush 150, 3) := by decide +kernel
theorem dX4_roomOn_20 : decode cX4_roomOn 20 = .ok (.aload_n 0, 1) := by decide +kernel
theorem dX4_roomOn_21 : decode cX4_roomOn 21 = .ok (.getfield 15, 3) := by decide +kernel
theorem dX4_roomOn_24 : decode cX4_roomOn 24 = .ok (.iload_n 1, 1) := by decide +kernel
theorem dX4_roomOn_25 : decode cX4_roomOn 25 = .ok (.iaload, 1) := by decide +kernel
theorem dX4_roomOn_26 : decode cX4_roomOn 26 = .ok (.isub, 1) := by decide +kernel
theorem dX4_roomOn_27 : decode cX4_roomOn 27 = .ok (.goto 4, 3) := by decide +kernel
theorem dX4_roomOn_30 : decode cX4_roomOn 30 = .ok (.iconst 0, 1) := by decide +kernel
theorem dX4_roomOn_31 : decode cX4_roomOn 31 = .ok (.ireturn, 1) := by decide +kernel
theorem dX4_writableBeside_0 : decode cX4_writableBeside 0 = .ok (.aload_n 0, 1) := by decide +kernel
theorem dX4_writableBeside_1 : decode cX4_writableBeside 1 = .ok (.getfield 27, 3) := by decide +kernel
theorem dX4_writableBeside_4 : decode cX4_writableBeside 4 = .ok (.iconst 1, 1) := by decide +kernel
theorem dX4_writableBeside_5 : decode cX4_writableBeside 5 = .ok (.isub, 1) := by decide +kernel
theorem dX4_writableBeside_6 : decode cX4_writableBeside 6 = .ok (.istore_n 2, 1) := by decide +kernel
theorem dX4_writableBeside_7 : decode cX4_writableBeside 7 = .ok (.iload_n 2, 1) := by decide +kernel
theorem dX4_writableBeside_8 : decode cX4_writableBeside 8 = .ok (.ifCond .lt 24, 3) := by decide +kernel
theorem dX4_writableBeside_11 : decode cX4_writableBeside 11 = .ok (.iload_n 2, 1) := by decide +kernel
theorem dX4_writableBeside_12 : decode cX4_writableBeside 12 = .ok (.iload_n 1, 1) := by decide +kernel
theorem dX4_writableBeside_13 : decode cX4_writableBeside 13 = .ok (.if_icmp .eq 13, 3) := by decide +kernel
theorem dX4_writableBeside_16 : decode cX4_writableBeside 16 = .ok (.aload_n 0, 1) := by decide +kernel
theorem dX4_writableBeside_17 : decode cX4_writableBeside 17 = .ok (.iload_n 2, 1) := by decide +kernel
theorem dX4_writableBeside_18 : decode cX4_writableBeside 18 = .ok (.invokevirtual 39, 3) := by decide +kernel
theorem dX4_writableBeside_21 : decode cX4_writableBeside 21 = .ok (.ifCond .eq 5, 3) := by decide +kernel
theorem dX4_writableBeside_24 : decode cX4_writableBeside 24 = .ok (.iload_n 2, 1) := by decide +kernel
theorem dX4_writableBeside_25 : decode cX4_writableBeside 25 = .ok (.ireturn, 1) := by decide +kernel
theorem dX4_writableBeside_26 : decode cX4_writableBeside 26 = .ok (.iinc 2 (-1), 3) := by decide +kernel
theorem dX4_writableBeside_29 : decode cX4_writableBeside 29 = .ok (.goto (-22), 3) := by decide +kernel
theorem dX4_writableBeside_32 : decode cX4_writableBeside 32 = .ok (.iconst (-1), 1) := by decide +kernel
theorem dX4_writableBeside_33 : decode cX4_writableBeside 33 = .ok (.ireturn, 1) := by decide +kernel
theorem dX4_end_0 : decode cX4_end 0 = .ok (.aload_n 0, 1) := by decide +kernel
theorem dX4_end_1 : decode cX4_end 1 = .ok (.iload_n 1, 1) := by decide +kernel
theorem dX4_end_2 : decode cX4_end 2 = .ok (.invokevirtual 35, 3) := by decide +kernel
theorem dX4_end_5 : decode cX4_end 5 = .ok (.ifCond .eq 22, 3) := by decide +kernel
theorem dX4_end_8 : decode cX4_end 8 = .ok (.aload_n 0, 1) := by decide +kernel
theorem dX4_end_9 : decode cX4_end 9 = .ok (.getfield 9, 3) := by decide +kernel
theorem dX4_end_12 : decode cX4_end 12 = .ok (.iload_n 1, 1) := by decide +kernel
theorem dX4_end_13 : decode cX4_end 13 = .ok (.iload_n 2, 1) := by decide +kernel
theorem dX4_end_14 : decode cX4_end 14 = .ok (.iastore, 1) := by decide +kernel
theorem dX4_end_15 : decode cX4_end 15 = .ok (.iload_n 2, 1) := by decide +kernel
theorem dX4_end_16 : decode cX4_end 16 = .ok (.iconst 2, 1) := by decide +kernel
theorem dX4_end_17 : decode cX4_end 17 = .ok (.if_icmp .ne 10, 3) := by decide +kernel
theorem dX4_end_20 : decode cX4_end 20 = .ok (.aload_n 0, 1) := by decide +kernel
theorem dX4_end_21 : decode cX4_end 21 = .ok (.getfield 15, 3) := by decide +kernel
theorem dX4_end_24 : decode cX4_end 24 = .ok (.iload_n 1, 1) := by decide +kernel
theorem dX4_end_25 : decode cX4_end 25 = .ok (.iconst 0, 1) := by decide +kernel
theorem dX4_end_26 : decode cX4_end 26 = .ok (.iastore, 1) := by decide +kernel
theorem dX4_end_27 : decode cX4_end 27 = .ok (.return_, 1) := by decide +kernel
theorem dX4_write_0 : decode cX4_write 0 = .ok (.aload_n 0, 1) := by decide +kernel
theorem dX4_write_1 : decode cX4_write 1 = .ok (.iload_n 1, 1) := by decide +kernel
theorem dX4_write_2 : decode cX4_write 2 = .ok (.aload_n 0, 1) := by decide +kernel
theorem dX4_write_3 : decode cX4_write 3 = .ok (.iload_n 1, 1) := by decide +kernel
theorem dX4_write_4 : decode cX4_write 4 = .ok (.invokevirtual 42, 3) := by decide +kernel
theorem dX4_write_7 : decode cX4_write 7 = .ok (.invokevirtual 46, 3) := by decide +kernel
theorem dX4_write_10 : decode cX4_write 10 = .ok (.istore 5, 2) := by decide +kernel
theorem dX4_write_12 : decode cX4_write 12 = .ok (.aload_n 0, 1) := by decide +kernel
theorem dX4_write_13 : decode cX4_write 13 = .ok (.iload_n 1, 1) := by decide +kernel
theorem dX4_write_14 : decode cX4_write 14 = .ok (.invokevirtual 35, 3) := by decide +kernel
theorem dX4_write_17 : decode cX4_write 17 = .ok (.ifCond .eq 54, 3) := by decide +kernel
theorem dX4_write_20 : decode cX4_write 20 = .ok (.aload_n 0, 1) := by decide +kernel
theorem dX4_write_21 : decode cX4_write 21 = .ok (.iload_n 1, 1) := by decide +kernel
theorem dX4_write_22 : decode cX4_write 22 = .ok (.invokevirtual 50, 3) := by decide +kernel
theorem dX4_write_25 : decode cX4_write 25 = .ok (.ifCond .le 46, 3) := by decide +kernel
theorem dX4_write_28 : decode cX4_write 28 = .ok (.iload 5, 2) := by decide +kernel
theorem dX4_write_30 : decode cX4_write 30 = .ok (.invokestatic 53, 3) := by decide +kernel
theorem dX4_write_33 : decode cX4_write 33 = .ok (.ifCond .eq 38, 3) := by decide +kernel
theorem dX4_write_36 : decode cX4_write 36 = .ok (.aload_n 0, 1) := by decide +kernel
theorem dX4_write_37 : decode cX4_write 37 = .ok (.getfield 18, 3) := by decide +kernel
theorem dX4_write_40 : decode cX4_write 40 = .ok (.iload 5, 2) := by decide +kernel
theorem dX4_write_42 : decode cX4_write 42 = .ok (.iload_n 2, 1) := by decide +kernel
theorem dX4_write_43 : decode cX4_write 43 = .ok (.iastore, 1) := by decide +kernel
theorem dX4_write_44 : decode cX4_write 44 = .ok (.aload_n 0, 1) := by decide +kernel
theorem dX4_write_45 : decode cX4_write 45 = .ok (.getfield 21, 3) := by decide +kernel
theorem dX4_write_48 : decode cX4_write 48 = .ok (.iload 5, 2) := by decide +kernel
theorem dX4_write_50 : decode cX4_write 50 = .ok (.iload_n 3, 1) := by decide +kernel
theorem dX4_write_51 : decode cX4_write 51 = .ok (.iastore, 1) := by decide +kernel
theorem dX4_write_52 : decode cX4_write 52 = .ok (.aload_n 0, 1) := by decide +kernel
theorem dX4_write_53 : decode cX4_write 53 = .ok (.getfield 24, 3) := by decide +kernel
theorem dX4_write_56 : decode cX4_write 56 = .ok (.iload 5, 2) := by decide +kernel
theorem dX4_write_58 : decode cX4_write 58 = .ok (.iload 4, 2) := by decide +kernel
theorem dX4_write_60 : decode cX4_write 60 = .ok (.iastore, 1) := by decide +kernel
theorem dX4_write_61 : decode cX4_write 61 = .ok (.aload_n 0, 1) := by decide +kernel
theorem dX4_write_62 : decode cX4_write 62 = .ok (.getfield 15, 3) := by decide +kernel
theorem dX4_write_65 : decode cX4_write 65 = .ok (.iload_n 1, 1) := by decide +kernel
theorem dX4_write_66 : decode cX4_write 66 = .ok (.dup2, 1) := by decide +kernel
theorem dX4_write_67 : decode cX4_write 67 = .ok (.iaload, 1) := by decide +kernel
theorem dX4_write_68 : decode cX4_write 68 = .ok (.iconst 1, 1) := by decide +kernel
theorem dX4_write_69 : decode cX4_write 69 = .ok (.iadd, 1) := by decide +kernel
theorem dX4_write_70 : decode cX4_write 70 = .ok (.iastore, 1) := by decide +kernel
theorem dX4_write_71 : decode cX4_write 71 = .ok (.return_, 1) := by decide +kernel
theorem dX4_copyEntry_0 : decode cX4_copyEntry 0 = .ok (.aload_n 0, 1) := by decide +kernel
theorem dX4_copyEntry_1 : decode cX4_copyEntry 1 = .ok (.iload_n 2, 1) := by decide +kernel
theorem dX4_copyEntry_2 : decode cX4_copyEntry 2 = .ok (.aload_n 0, 1) := by decide +kernel
theorem dX4_copyEntry_3 : decode cX4_copyEntry 3 = .ok (.iload_n 1, 1) := by decide +kernel
theorem dX4_copyEntry_4 : decode cX4_copyEntry 4 = .ok (.invokevirtual 56, 3) := by decide +kernel
theorem dX4_copyEntry_7 : decode cX4_copyEntry 7 = .ok (.aload_n 0, 1) := by decide +kernel
theorem dX4_copyEntry_8 : decode cX4_copyEntry 8 = .ok (.iload_n 1, 1) := by decide +kernel
theorem dX4_copyEntry_9 : decode cX4_copyEntry 9 = .ok (.invokevirtual 59, 3) := by decide +kernel
theorem dX4_copyEntry_12 : decode cX4_copyEntry 12 = .ok (.aload_n 0, 1) := by decide +kernel
theorem dX4_copyEntry_13 : decode cX4_copyEntry 13 = .ok (.iload_n 1, 1) := by decide +kernel
theorem dX4_copyEntry_14 : decode cX4_copyEntry 14 = .ok (.invokevirtual 62, 3) := by decide +kernel
theorem dX4_copyEntry_17 : decode cX4_copyEntry 17 = .ok (.invokevirtual 65, 3) := by decide +kernel
theorem dX4_copyEntry_20 : decode cX4_copyEntry 20 = .ok (.return_, 1) := by decide +kernel
theorem dX4_entryAt_0 : decode cX4_entryAt 0 = .ok (.iload_n 1, 1) := by decide +kernel
theorem dX4_entryAt_1 : decode cX4_entryAt 1 = .ok (.sipush 150, 3) := by decide +kernel
theorem dX4_entryAt_4 : decode cX4_entryAt 4 = .ok (.imul, 1) := by decide +kernel
theorem dX4_entryAt_5 : decode cX4_entryAt 5 = .ok (.iload_n 2, 1) := by decide +kernel
theorem dX4_entryAt_6 : decode cX4_entryAt 6 = .ok (.iadd, 1) := by decide +kernel
theorem dX4_entryAt_7 : decode cX4_entryAt 7 = .ok (.ireturn, 1) := by decide +kernel
theorem dX4_kindOf_0 : decode cX4_kindOf 0 = .ok (.iload_n 1, 1) := by decide +kernel
theorem dX4_kindOf_1 : decode cX4_kindOf 1 = .ok (.invokestatic 53, 3) := by decide +kernel
theorem dX4_kindOf_4 : decode cX4_kindOf 4 = .ok (.ifCond .eq 12, 3) := by decide +kernel
theorem dX4_kindOf_7 : decode cX4_kindOf 7 = .ok (.aload_n 0, 1) := by decide +kernel
theorem dX4_kindOf_8 : decode cX4_kindOf 8 = .ok (.getfield 18, 3) := by decide +kernel
theorem dX4_kindOf_11 : decode cX4_kindOf 11 = .ok (.iload_n 1, 1) := by decide +kernel
theorem dX4_kindOf_12 : decode cX4_kindOf 12 = .ok (.iaload, 1) := by decide +kernel
theorem dX4_kindOf_13 : decode cX4_kindOf 13 = .ok (.goto 4, 3) := by decide +kernel
theorem dX4_kindOf_16 : decode cX4_kindOf 16 = .ok (.iconst 0, 1) := by decide +kernel
theorem dX4_kindOf_17 : decode cX4_kindOf 17 = .ok (.ireturn, 1) := by decide +kernel
theorem dX4_innerOf_0 : decode cX4_innerOf 0 = .ok (.iload_n 1, 1) := by decide +kernel
theorem dX4_innerOf_1 : decode cX4_innerOf 1 = .ok (.invokestatic 53, 3) := by decide +kernel
theorem dX4_innerOf_4 : decode cX4_innerOf 4 = .ok (.ifCond .eq 12, 3) := by decide +kernel
theorem dX4_innerOf_7 : decode cX4_innerOf 7 = .ok (.aload_n 0, 1) := by decide +kernel
theorem dX4_innerOf_8 : decode cX4_innerOf 8 = .ok (.getfield 21, 3) := by decide +kernel
theorem dX4_innerOf_11 : decode cX4_innerOf 11 = .ok (.iload_n 1, 1) := by decide +kernel
theorem dX4_innerOf_12 : decode cX4_innerOf 12 = .ok (.iaload, 1) := by decide +kernel
theorem dX4_innerOf_13 : decode cX4_innerOf 13 = .ok (.goto 4, 3) := by decide +kernel
theorem dX4_innerOf_16 : decode cX4_innerOf 16 = .ok (.iconst (-1), 1) := by decide +kernel
theorem dX4_innerOf_17 : decode cX4_innerOf 17 = .ok (.ireturn, 1) := by decide +kernel
theorem dX4_outerOf_0 : decode cX4_outerOf 0 = .ok (.iload_n 1, 1) := by decide +kernel
theorem dX4_outerOf_1 : decode cX4_outerOf 1 = .ok (.invokestatic 53, 3) := by decide +kernel
theorem dX4_outerOf_4 : decode cX4_outerOf 4 = .ok (.ifCond .eq 12, 3) := by decide +kernel
theorem dX4_outerOf_7 : decode cX4_outerOf 7 = .ok (.aload_n 0, 1) := by decide +kernel
theorem dX4_outerOf_8 : decode cX4_outerOf 8 = .ok (.getfield 24, 3) := by decide +kernel
theorem dX4_outerOf_11 : decode cX4_outerOf 11 = .ok (.iload_n 1, 1) := by decide +kernel
theorem dX4_outerOf_12 : decode cX4_outerOf 12 = .ok (.iaload, 1) := by decide +kernel
theorem dX4_outerOf_13 : decode cX4_outerOf 13 = .ok (.goto 4, 3) := by decide +kernel
theorem dX4_outerOf_16 : decode cX4_outerOf 16 = .ok (.iconst (-1), 1) := by decide +kernel
theorem dX4_outerOf_17 : decode cX4_outerOf 17 = .ok (.ireturn, 1) := by decide +kernel
theorem dX4_exists_0 : decode cX4_exists 0 = .ok (.iload_n 1, 1) := by decide +kernel
theorem dX4_exists_1 : decode cX4_exists 1 = .ok (.ifCond .lt 21, 3) := by decide +kernel
theorem dX4_exists_4 : decode cX4_exists 4 = .ok (.iload_n 1, 1) := by decide +kernel
theorem dX4_exists_5 : decode cX4_exists 5 = .ok (.aload_n 0, 1) := by decide +kernel
theorem dX4_exists_6 : decode cX4_exists 6 = .ok (.getfield 27, 3) := by decide +kernel
theorem dX4_exists_9 : decode cX4_exists 9 = .ok (.if_icmp .ge 13, 3) := by decide +kernel
theorem dX4_exists_12 : decode cX4_exists 12 = .ok (.iload_n 1, 1) := by decide +kernel
theorem dX4_exists_13 : decode cX4_exists 13 = .ok (.bipush 8, 2) := by decide +kernel
theorem dX4_exists_15 : decode cX4_exists 15 = .ok (.if_icmp .ge 7, 3) := by decide +kernel
theorem dX4_exists_18 : decode cX4_exists 18 = .ok (.iconst 1, 1) := by decide +kernel
theorem dX4_exists_19 : decode cX4_exists 19 = .ok (.goto 4, 3) := by decide +kernel
theorem dX4_exists_22 : decode cX4_exists 22 = .ok (.iconst 0, 1) := by decide +kernel
theorem dX4_exists_23 : decode cX4_exists 23 = .ok (.ireturn, 1) := by decide +kernel
theorem dX4_isEntry_0 : decode cX4_isEntry 0 = .ok (.iload_n 0, 1) := by decide +kernel
theorem dX4_isEntry_1 : decode cX4_isEntry 1 = .ok (.ifCond .lt 14, 3) := by decide +kernel
theorem dX4_isEntry_4 : decode cX4_isEntry 4 = .ok (.iload_n 0, 1) := by decide +kernel
theorem dX4_isEntry_5 : decode cX4_isEntry 5 = .ok (.sipush 1200, 3) := by decide +kernel
theorem dX4_isEntry_8 : decode cX4_isEntry 8 = .ok (.if_icmp .ge 7, 3) := by decide +kernel
theorem dX4_isEntry_11 : decode cX4_isEntry 11 = .ok (.iconst 1, 1) := by decide +kernel
theorem dX4_isEntry_12 : decode cX4_isEntry 12 = .ok (.goto 4, 3) := by decide +kernel
theorem dX4_isEntry_15 : decode cX4_isEntry 15 = .ok (.iconst 0, 1) := by decide +kernel
theorem dX4_isEntry_16 : decode cX4_isEntry 16 = .ok (.ireturn, 1) := by decide +kernel
theorem dX5_init_0 : decode cX5_init 0 = .ok (.aload_n 0, 1) := by decide +kernel
theorem dX5_init_1 : decode cX5_init 1 = .ok (.invokespecial 3, 3) := by decide +kernel
theorem dX5_init_4 : decode cX5_init 4 = .ok (.aload_n 0, 1) := by decide +kernel
theorem dX5_init_5 : decode cX5_init 5 = .ok (.iconst 4, 1) := by decide +kernel
theorem dX5_init_6 : decode cX5_init 6 = .ok (.newarray .int, 2) := by decide +kernel
theorem dX5_init_8 : decode cX5_init 8 = .ok (.putfield 9, 3) := by decide +kernel
theorem dX5_init_11 : decode cX5_init 11 = .ok (.aload_n 0, 1) := by decide +kernel
theorem dX5_init_12 : decode cX5_init 12 = .ok (.bipush 52, 2) := by decide +kernel
theorem dX5_init_14 : decode cX5_init 14 = .ok (.newarray .int, 2) := by decide +kernel
theorem dX5_init_16 : decode cX5_init 16 = .ok (.putfield 15, 3) := by decide +kernel
theorem dX5_init_19 : decode cX5_init 19 = .ok (.aload_n 0, 1) := by decide +kernel
theorem dX5_init_20 : decode cX5_init 20 = .ok (.aload_n 1, 1) := by decide +kernel
theorem dX5_init_21 : decode cX5_init 21 = .ok (.putfield 18, 3) := by decide +kernel
theorem dX5_init_24 : decode cX5_init 24 = .ok (.aload_n 0, 1) := by decide +kernel
theorem dX5_init_25 : decode cX5_init 25 = .ok (.aload_n 2, 1) := by decide +kernel
theorem dX5_init_26 : decode cX5_init 26 = .ok (.putfield 22, 3) := by decide +kernel
theorem dX5_init_29 : decode cX5_init 29 = .ok (.return_, 1) := by decide +kernel
theorem dX5_begin_0 : decode cX5_begin 0 = .ok (.aload_n 0, 1) := by decide +kernel
theorem dX5_begin_1 : decode cX5_begin 1 = .ok (.getfield 9, 3) := by decide +kernel
theorem dX5_begin_4 : decode cX5_begin 4 = .ok (.iconst (-1), 1) := by decide +kernel
theorem dX5_begin_5 : decode cX5_begin 5 = .ok (.invokestatic 26, 3) := by decide +kernel
theorem dX5_begin_8 : decode cX5_begin 8 = .ok (.return_, 1) := by decide +kernel
theorem dX5_isKept_0 : decode cX5_isKept 0 = .ok (.aload_n 0, 1) := by decide +kernel
theorem dX5_isKept_1 : decode cX5_isKept 1 = .ok (.iload_n 1, 1) := by decide +kernel
theorem dX5_isKept_2 : decode cX5_isKept 2 = .ok (.invokevirtual 32, 3) := by decide +kernel
theorem dX5_isKept_5 : decode cX5_isKept 5 = .ok (.iconst (-1), 1) := by decide +kernel
theorem dX5_isKept_6 : decode cX5_isKept 6 = .ok (.if_icmp .eq 7, 3) := by decide +kernel
theorem dX5_isKept_9 : decode cX5_isKept 9 = .ok (.iconst 1, 1) := by decide +kernel
theorem dX5_isKept_10 : decode cX5_isKept 10 = .ok (.goto 4, 3) := by decide +kernel
theorem dX5_isKept_13 : decode cX5_isKept 13 = .ok (.iconst 0, 1) := by decide +kernel
theorem dX5_isKept_14 : decode cX5_isKept 14 = .ok (.ireturn, 1) := by decide +kernel
theorem dX5_numberOf_0 : decode cX5_numberOf 0 = .ok (.iload_n 1, 1) := by decide +kernel
theorem dX5_numberOf_1 : decode cX5_numberOf 1 = .ok (.bipush 13, 2) := by decide +kernel
theorem dX5_numberOf_3 : decode cX5_numberOf 3 = .ok (.imul, 1) := by decide +kernel
theorem dX5_numberOf_4 : decode cX5_numberOf 4 = .ok (.iload_n 2, 1) := by decide +kernel
theorem dX5_numberOf_5 : decode cX5_numberOf 5 = .ok (.iadd, 1) := by decide +kernel
theorem dX5_numberOf_6 : decode cX5_numberOf 6 = .ok (.istore_n 3, 1) := by decide +kernel
theorem dX5_numberOf_7 : decode cX5_numberOf 7 = .ok (.iload_n 3, 1) := by decide +kernel
theorem dX5_numberOf_8 : decode cX5_numberOf 8 = .ok (.ifCond .lt 18, 3) := by decide +kernel
theorem dX5_numberOf_11 : decode cX5_numberOf 11 = .ok (.iload_n 3, 1) := by decide +kernel
theorem dX5_numberOf_12 : decode cX5_numberOf 12 = .ok (.bipush 52, 2) := by decide +kernel
theorem dX5_numberOf_14 : decode cX5_numberOf 14 = .ok (.if_icmp .ge 12, 3) := by decide +kernel
theorem dX5_numberOf_17 : decode cX5_numberOf 17 = .ok (.aload_n 0, 1) := by decide +kernel
theorem dX5_numberOf_18 : decode cX5_numberOf 18 = .ok (.getfield 15, 3) := by decide +kernel
theorem dX5_numberOf_21 : decode cX5_numberOf 21 = .ok (.iload_n 3, 1) := by decide +kernel
theorem dX5_numberOf_22 : decode cX5_numberOf 22 = .ok (.iaload, 1) := by decide +kernel
theorem dX5_numberOf_23 : decode cX5_numberOf 23 = .ok (.goto 4, 3) := by decide +kernel
theorem dX5_numberOf_26 : decode cX5_numberOf 26 = .ok (.iconst 0, 1) := by decide +kernel
theorem dX5_numberOf_27 : decode cX5_numberOf 27 = .ok (.ireturn, 1) := by decide +kernel
theorem dX5_fill_0 : decode cX5_fill 0 = .ok (.iload_n 1, 1) := by decide +kernel
theorem dX5_fill_1 : decode cX5_fill 1 = .ok (.ifCond .lt 8, 3) := by decide +kernel
theorem dX5_fill_4 : decode cX5_fill 4 = .ok (.iload_n 1, 1) := by decide +kernel
theorem dX5_fill_5 : decode cX5_fill 5 = .ok (.iconst 4, 1) := by decide +kernel
theorem dX5_fill_6 : decode cX5_fill 6 = .ok (.if_icmp .lt 4, 3) := by decide +kernel
theorem dX5_fill_9 : decode cX5_fill 9 = .ok (.return_, 1) := by decide +kernel
theorem dX5_fill_10 : decode cX5_fill 10 = .ok (.aload_n 0, 1) := by decide +kernel
theorem dX5_fill_11 : decode cX5_fill 11 = .ok (.getfield 22, 3) := by decide +kernel
theorem dX5_fill_14 : decode cX5_fill 14 = .ok (.invokevirtual 36, 3) := by decide +kernel
theorem dX5_fill_17 : decode cX5_fill 17 = .ok (.aload_n 0, 1) := by decide +kernel
theorem dX5_fill_18 : decode cX5_fill 18 = .ok (.getfield 9, 3) := by decide +kernel
theorem dX5_fill_21 : decode cX5_fill 21 = .ok (.iload_n 1, 1) := by decide +kernel
theorem dX5_fill_22 : decode cX5_fill 22 = .ok (.iload_n 2, 1) := by decide +kernel
theorem dX5_fill_23 : decode cX5_fill 23 = .ok (.iastore, 1) := by decide +kernel
theorem dX5_fill_24 : decode cX5_fill 24 = .ok (.iload_n 2, 1) := by decide +kernel
theorem dX5_fill_25 : decode cX5_fill 25 = .ok (.invokestatic 41, 3) := by decide +kernel
theorem dX5_fill_28 : decode cX5_fill 28 = .ok (.istore_n 3, 1) := by decide +kernel
theorem dX5_fill_29 : decode cX5_fill 29 = .ok (.aload_n 0, 1) := by decide +kernel
theorem dX5_fill_30 : decode cX5_fill 30 = .ok (.iload_n 1, 1) := by decide +kernel
theorem dX5_fill_31 : decode cX5_fill 31 = .ok (.iconst 0, 1) := by decide +kernel
theorem dX5_fill_32 : decode cX5_fill 32 = .ok (.aload_n 0, 1) := by decide +kernel
theorem dX5_fill_33 : decode cX5_fill 33 = .ok (.getfield 22, 3) := by decide +kernel
theorem dX5_fill_36 : decode cX5_fill 36 = .ok (.iload_n 3, 1) := by decide +kernel
theorem dX5_fill_37 : decode cX5_fill 37 = .ok (.invokevirtual 44, 3) := by decide +kernel
theorem dX5_fill_40 : decode cX5_fill 40 = .ok (.invokevirtual 47, 3) := by decide +kernel
theorem dX5_fill_43 : decode cX5_fill 43 = .ok (.iconst 1, 1) := by decide +kernel
theorem dX5_fill_44 : decode cX5_fill 44 = .ok (.istore 4, 2) := by decide +kernel
theorem dX5_fill_46 : decode cX5_fill 46 = .ok (.iconst 2, 1) := by decide +kernel
theorem dX5_fill_47 : decode cX5_fill 47 = .ok (.istore 5, 2) := by decide +kernel
theorem dX5_fill_49 : decode cX5_fill 49 = .ok (.iload 5, 2) := by decide +kernel
theorem dX5_fill_51 : decode cX5_fill 51 = .ok (.ifCond .lt 88, 3) := by decide +kernel
theorem dX5_fill_54 : decode cX5_fill 54 = .ok (.iload_n 3, 1) := by decide +kernel
theorem dX5_fill_55 : decode cX5_fill 55 = .ok (.invokestatic 51, 3) := by decide +kernel
theorem dX5_fill_58 : decode cX5_fill 58 = .ok (.istore 6, 2) := by decide +kernel
theorem dX5_fill_60 : decode cX5_fill 60 = .ok (.aload_n 0, 1) := by decide +kernel
theorem dX5_fill_61 : decode cX5_fill 61 = .ok (.iload_n 1, 1) := by decide +kernel
theorem dX5_fill_62 : decode cX5_fill 62 = .ok (.iload 4, 2) := by decide +kernel
theorem dX5_fill_64 : decode cX5_fill 64 = .ok (.aload_n 0, 1) := by decide +kernel
theorem dX5_fill_65 : decode cX5_fill 65 = .ok (.getfield 18, 3) := by decide +kernel
theorem dX5_fill_68 : decode cX5_fill 68 = .ok (.iload 6, 2) := by decide +kernel
theorem dX5_fill_70 : decode cX5_fill 70 = .ok (.invokevirtual 54, 3) := by decide +kernel
theorem dX5_fill_73 : decode cX5_fill 73 = .ok (.invokevirtual 47, 3) := by decide +kernel
theorem dX5_fill_76 : decode cX5_fill 76 = .ok (.iinc 4 1, 3) := by decide +kernel
theorem dX5_fill_79 : decode cX5_fill 79 = .ok (.iload 6, 2) := by decide +kernel
theorem dX5_fill_81 : decode cX5_fill 81 = .ok (.invokestatic 59, 3) := by decide +kernel
theorem dX5_fill_84 : decode cX5_fill 84 = .ok (.istore 7, 2) := by decide +kernel
theorem dX5_fill_86 : decode cX5_fill 86 = .ok (.iload 7, 2) := by decide +kernel
theorem dX5_fill_88 : decode cX5_fill 88 = .ok (.istore 8, 2) := by decide +kernel
theorem dX5_fill_90 : decode cX5_fill 90 = .ok (.iload 8, 2) := by decide +kernel
theorem dX5_fill_92 : decode cX5_fill 92 = .ok (.iload 7, 2) := by decide +kernel
theorem dX5_fill_94 : decode cX5_fill 94 = .ok (.iconst 4, 1) := by decide +kernel
theorem dX5_fill_95 : decode cX5_fill 95 = .ok (.iadd, 1) := by decide +kernel
theorem dX5_fill_96 : decode cX5_fill 96 = .ok (.if_icmp .ge 34, 3) := by decide +kernel
theorem dX5_fill_99 : decode cX5_fill 99 = .ok (.iload 8, 2) := by decide +kernel
theorem dX5_fill_101 : decode cX5_fill 101 = .ok (.iload_n 3, 1) := by decide +kernel
theorem dX5_fill_102 : decode cX5_fill 102 = .ok (.if_icmp .eq 22, 3) := by decide +kernel
theorem dX5_fill_105 : decode cX5_fill 105 = .ok (.aload_n 0, 1) := by decide +kernel
theorem dX5_fill_106 : decode cX5_fill 106 = .ok (.iload_n 1, 1) := by decide +kernel
theorem dX5_fill_107 : decode cX5_fill 107 = .ok (.iload 4, 2) := by decide +kernel
theorem dX5_fill_109 : decode cX5_fill 109 = .ok (.aload_n 0, 1) := by decide +kernel
theorem dX5_fill_110 : decode cX5_fill 110 = .ok (.getfield 22, 3) := by decide +kernel
theorem dX5_fill_113 : decode cX5_fill 113 = .ok (.iload 8, 2) := by decide +kernel
theorem dX5_fill_115 : decode cX5_fill 115 = .ok (.invokevirtual 44, 3) := by decide +kernel
theorem dX5_fill_118 : decode cX5_fill 118 = .ok (.invokevirtual 47, 3) := by decide +kernel
theorem dX5_fill_121 : decode cX5_fill 121 = .ok (.iinc 4 1, 3) := by decide +kernel
theorem dX5_fill_124 : decode cX5_fill 124 = .ok (.iinc 8 1, 3) := by decide +kernel
theorem dX5_fill_127 : decode cX5_fill 127 = .ok (.goto (-37), 3) := by decide +kernel
theorem dX5_fill_130 : decode cX5_fill 130 = .ok (.iload 6, 2) := by decide +kernel
theorem dX5_fill_132 : decode cX5_fill 132 = .ok (.istore_n 3, 1) := by decide +kernel
theorem dX5_fill_133 : decode cX5_fill 133 = .ok (.iinc 5 (-1), 3) := by decide +kernel
theorem dX5_fill_136 : decode cX5_fill 136 = .ok (.goto (-87), 3) := by decide +kernel
theorem dX5_fill_139 : decode cX5_fill 139 = .ok (.return_, 1) := by decide +kernel
theorem dX5_rootHash_0 : decode cX5_rootHash 0 = .ok (.iload_n 2, 1) := by decide +kernel
theorem dX5_rootHash_1 : decode cX5_rootHash 1 = .ok (.istore_n 3, 1) := by decide +kernel
theorem dX5_rootHash_2 : decode cX5_rootHash 2 = .ok (.aload_n 0, 1) := by decide +kernel
theorem dX5_rootHash_3 : decode cX5_rootHash 3 = .ok (.iload_n 1, 1) := by decide +kernel
theorem dX5_rootHash_4 : decode cX5_rootHash 4 = .ok (.invokevirtual 32, 3) := by decide +kernel
theorem dX5_rootHash_7 : decode cX5_rootHash 7 = .ok (.invokestatic 41, 3) := by decide +kernel
theorem dX5_rootHash_10 : decode cX5_rootHash 10 = .ok (.istore 4, 2) := by decide +kernel
theorem dX5_rootHash_12 : decode cX5_rootHash 12 = .ok (.iconst 1, 1) := by decide +kernel
theorem dX5_rootHash_13 : decode cX5_rootHash 13 = .ok (.istore 5, 2) := by decide +kernel
theorem dX5_rootHash_15 : decode cX5_rootHash 15 = .ok (.iconst 2, 1) := by decide +kernel
theorem dX5_rootHash_16 : decode cX5_rootHash 16 = .ok (.istore 6, 2) := by decide +kernel
theorem dX5_rootHash_18 : decode cX5_rootHash 18 = .ok (.iload 6, 2) := by decide +kernel
theorem dX5_rootHash_20 : decode cX5_rootHash 20 = .ok (.ifCond .lt 40, 3) := by decide +kernel
theorem dX5_rootHash_23 : decode cX5_rootHash 23 = .ok (.iload 4, 2) := by decide +kernel
theorem dX5_rootHash_25 : decode cX5_rootHash 25 = .ok (.invokestatic 51, 3) := by decide +kernel
theorem dX5_rootHash_28 : decode cX5_rootHash 28 = .ok (.istore 7, 2) := by decide +kernel
theorem dX5_rootHash_30 : decode cX5_rootHash 30 = .ok (.aload_n 0, 1) := by decide +kernel
theorem dX5_rootHash_31 : decode cX5_rootHash 31 = .ok (.iload_n 1, 1) := by decide +kernel
theorem dX5_rootHash_32 : decode cX5_rootHash 32 = .ok (.iload 5, 2) := by decide +kernel
theorem dX5_rootHash_34 : decode cX5_rootHash 34 = .ok (.iload 4, 2) := by decide +kernel
theorem dX5_rootHash_36 : decode cX5_rootHash 36 = .ok (.iload 7, 2) := by decide +kernel
theorem dX5_rootHash_38 : decode cX5_rootHash 38 = .ok (.invokestatic 59, 3) := by decide +kernel
theorem dX5_rootHash_41 : decode cX5_rootHash 41 = .ok (.isub, 1) := by decide +kernel
theorem dX5_rootHash_42 : decode cX5_rootHash 42 = .ok (.iload_n 3, 1) := by decide +kernel
theorem dX5_rootHash_43 : decode cX5_rootHash 43 = .ok (.invokevirtual 62, 3) := by decide +kernel
theorem dX5_rootHash_46 : decode cX5_rootHash 46 = .ok (.istore_n 3, 1) := by decide +kernel
theorem dX5_rootHash_47 : decode cX5_rootHash 47 = .ok (.iinc 5 4, 3) := by decide +kernel
theorem dX5_rootHash_50 : decode cX5_rootHash 50 = .ok (.iload 7, 2) := by decide +kernel
theorem dX5_rootHash_52 : decode cX5_rootHash 52 = .ok (.istore 4, 2) := by decide +kernel
theorem dX5_rootHash_54 : decode cX5_rootHash 54 = .ok (.iinc 6 (-1), 3) := by decide +kernel
theorem dX5_rootHash_57 : decode cX5_rootHash 57 = .ok (.goto (-39), 3) := by decide +kernel
theorem dX5_rootHash_60 : decode cX5_rootHash 60 = .ok (.iload_n 3, 1) := by decide +kernel
theorem dX5_rootHash_61 : decode cX5_rootHash 61 = .ok (.ireturn, 1) := by decide +kernel
theorem dX5_hashAbove_0 : decode cX5_hashAbove 0 = .ok (.aload_n 0, 1) := by decide +kernel
theorem dX5_hashAbove_1 : decode cX5_hashAbove 1 = .ok (.iload_n 1, 1) := by decide +kernel
theorem dX5_hashAbove_2 : decode cX5_hashAbove 2 = .ok (.iload_n 2, 1) := by decide +kernel
theorem dX5_hashAbove_3 : decode cX5_hashAbove 3 = .ok (.invokevirtual 66, 3) := by decide +kernel
theorem dX5_hashAbove_6 : decode cX5_hashAbove 6 = .ok (.istore 5, 2) := by decide +kernel
theorem dX5_hashAbove_8 : decode cX5_hashAbove 8 = .ok (.iload 5, 2) := by decide +kernel
theorem dX5_hashAbove_10 : decode cX5_hashAbove 10 = .ok (.ifCond .ne 5, 3) := by decide +kernel
theorem dX5_hashAbove_13 : decode cX5_hashAbove 13 = .ok (.iconst 0, 1) := by decide +kernel
theorem dX5_hashAbove_14 : decode cX5_hashAbove 14 = .ok (.ireturn, 1) := by decide +kernel
theorem dX5_hashAbove_15 : decode cX5_hashAbove 15 = .ok (.iload 5, 2) := by decide +kernel
theorem dX5_hashAbove_17 : decode cX5_hashAbove 17 = .ok (.invokestatic 70, 3) := by decide +kernel
theorem dX5_hashAbove_20 : decode cX5_hashAbove 20 = .ok (.istore 6, 2) := by decide +kernel
theorem dX5_hashAbove_22 : decode cX5_hashAbove 22 = .ok (.iload_n 2, 1) := by decide +kernel
theorem dX5_hashAbove_23 : decode cX5_hashAbove 23 = .ok (.iconst 1, 1) := by decide +kernel
theorem dX5_hashAbove_24 : decode cX5_hashAbove 24 = .ok (.iadd, 1) := by decide +kernel
theorem dX5_hashAbove_25 : decode cX5_hashAbove 25 = .ok (.istore 7, 2) := by decide +kernel
theorem dX5_hashAbove_27 : decode cX5_hashAbove 27 = .ok (.iconst 0, 1) := by decide +kernel
theorem dX5_hashAbove_28 : decode cX5_hashAbove 28 = .ok (.istore 8, 2) := by decide +kernel
theorem dX5_hashAbove_30 : decode cX5_hashAbove 30 = .ok (.iload 8, 2) := by decide +kernel
theorem dX5_hashAbove_32 : decode cX5_hashAbove 32 = .ok (.iconst 4, 1) := by decide +kernel
theorem dX5_hashAbove_33 : decode cX5_hashAbove 33 = .ok (.if_icmp .ge 46, 3) := by decide +kernel
theorem dX5_hashAbove_36 : decode cX5_hashAbove 36 = .ok (.iload 8, 2) := by decide +kernel
theorem dX5_hashAbove_38 : decode cX5_hashAbove 38 = .ok (.iload_n 3, 1) := by decide +kernel
theorem dX5_hashAbove_39 : decode cX5_hashAbove 39 = .ok (.if_icmp .ne 16, 3) := by decide +kernel
theorem dX5_hashAbove_42 : decode cX5_hashAbove 42 = .ok (.iload 6, 2) := by decide +kernel
theorem dX5_hashAbove_44 : decode cX5_hashAbove 44 = .ok (.iload 4, 2) := by decide +kernel
theorem dX5_hashAbove_46 : decode cX5_hashAbove 46 = .ok (.ixor, 1) := by decide +kernel
theorem dX5_hashAbove_47 : decode cX5_hashAbove 47 = .ok (.invokestatic 70, 3) := by decide +kernel
theorem dX5_hashAbove_50 : decode cX5_hashAbove 50 = .ok (.istore 6, 2) := by decide +kernel
theorem dX5_hashAbove_52 : decode cX5_hashAbove 52 = .ok (.goto 21, 3) := by decide +kernel
theorem dX5_hashAbove_55 : decode cX5_hashAbove 55 = .ok (.iload 6, 2) := by decide +kernel
theorem dX5_hashAbove_57 : decode cX5_hashAbove 57 = .ok (.aload_n 0, 1) := by decide +kernel
theorem dX5_hashAbove_58 : decode cX5_hashAbove 58 = .ok (.iload_n 1, 1) := by decide +kernel
theorem dX5_hashAbove_59 : decode cX5_hashAbove 59 = .ok (.iload 7, 2) := by decide +kernel
theorem dX5_hashAbove_61 : decode cX5_hashAbove 61 = .ok (.invokevirtual 66, 3) := by decide +kernel
theorem dX5_hashAbove_64 : decode cX5_hashAbove 64 = .ok (.ixor, 1) := by decide +kernel
theorem dX5_hashAbove_65 : decode cX5_hashAbove 65 = .ok (.invokestatic 70, 3) := by decide +kernel
theorem dX5_hashAbove_68 : decode cX5_hashAbove 68 = .ok (.istore 6, 2) := by decide +kernel
theorem dX5_hashAbove_70 : decode cX5_hashAbove 70 = .ok (.iinc 7 1, 3) := by decide +kernel
theorem dX5_hashAbove_73 : decode cX5_hashAbove 73 = .ok (.iinc 8 1, 3) := by decide +kernel
theorem dX5_hashAbove_76 : decode cX5_hashAbove 76 = .ok (.goto (-46), 3) := by decide +kernel
theorem dX5_hashAbove_79 : decode cX5_hashAbove 79 = .ok (.iload 6, 2) := by decide +kernel
theorem dX5_hashAbove_81 : decode cX5_hashAbove 81 = .ok (.ireturn, 1) := by decide +kernel
theorem dX5_leafIn_0 : decode cX5_leafIn 0 = .ok (.iload_n 1, 1) := by decide +kernel
theorem dX5_leafIn_1 : decode cX5_leafIn 1 = .ok (.ifCond .lt 17, 3) := by decide +kernel
theorem dX5_leafIn_4 : decode cX5_leafIn 4 = .ok (.iload_n 1, 1) := by decide +kernel
theorem dX5_leafIn_5 : decode cX5_leafIn 5 = .ok (.iconst 4, 1) := by decide +kernel
theorem dX5_leafIn_6 : decode cX5_leafIn 6 = .ok (.if_icmp .ge 12, 3) := by decide +kernel
theorem dX5_leafIn_9 : decode cX5_leafIn 9 = .ok (.aload_n 0, 1) := by decide +kernel
theorem dX5_leafIn_10 : decode cX5_leafIn 10 = .ok (.getfield 9, 3) := by decide +kernel
theorem dX5_leafIn_13 : decode cX5_leafIn 13 = .ok (.iload_n 1, 1) := by decide +kernel
theorem dX5_leafIn_14 : decode cX5_leafIn 14 = .ok (.iaload, 1) := by decide +kernel
theorem dX5_leafIn_15 : decode cX5_leafIn 15 = .ok (.goto 4, 3) := by decide +kernel
theorem dX5_leafIn_18 : decode cX5_leafIn 18 = .ok (.iconst (-1), 1) := by decide +kernel
theorem dX5_leafIn_19 : decode cX5_leafIn 19 = .ok (.ireturn, 1) := by decide +kernel
theorem dX5_put_0 : decode cX5_put 0 = .ok (.iload_n 1, 1) := by decide +kernel
theorem dX5_put_1 : decode cX5_put 1 = .ok (.bipush 13, 2) := by decide +kernel
theorem dX5_put_3 : decode cX5_put 3 = .ok (.imul, 1) := by decide +kernel
theorem dX5_put_4 : decode cX5_put 4 = .ok (.iload_n 2, 1) := by decide +kernel
theorem dX5_put_5 : decode cX5_put 5 = .ok (.iadd, 1) := by decide +kernel
theorem dX5_put_6 : decode cX5_put 6 = .ok (.istore 4, 2) := by decide +kernel
theorem dX5_put_8 : decode cX5_put 8 = .ok (.iload 4, 2) := by decide +kernel
theorem dX5_put_10 : decode cX5_put 10 = .ok (.ifCond .lt 18, 3) := by decide +kernel
theorem dX5_put_13 : decode cX5_put 13 = .ok (.iload 4, 2) := by decide +kernel
theorem dX5_put_15 : decode cX5_put 15 = .ok (.bipush 52, 2) := by decide +kernel
theorem dX5_put_17 : decode cX5_put 17 = .ok (.if_icmp .ge 11, 3) := by decide +kernel
theorem dX5_put_20 : decode cX5_put 20 = .ok (.aload_n 0, 1) := by decide +kernel
theorem dX5_put_21 : decode cX5_put 21 = .ok (.getfield 15, 3) := by decide +kernel
theorem dX5_put_24 : decode cX5_put 24 = .ok (.iload 4, 2) := by decide +kernel
theorem dX5_put_26 : decode cX5_put 26 = .ok (.iload_n 3, 1) := by decide +kernel
theorem dX5_put_27 : decode cX5_put 27 = .ok (.iastore, 1) := by decide +kernel
theorem dX5_put_28 : decode cX5_put 28 = .ok (.return_, 1) := by decide +kernel
theorem dX6_init_0 : decode cX6_init 0 = .ok (.aload_n 0, 1) := by decide +kernel
theorem dX6_init_1 : decode cX6_init 1 = .ok (.invokespecial 3, 3) := by decide +kernel
theorem dX6_init_4 : decode cX6_init 4 = .ok (.aload_n 0, 1) := by decide +kernel
theorem dX6_init_5 : decode cX6_init 5 = .ok (.sipush 200, 3) := by decide +kernel
theorem dX6_init_8 : decode cX6_init 8 = .ok (.newarray .long, 2) := by decide +kernel
theorem dX6_init_10 : decode cX6_init 10 = .ok (.putfield 9, 3) := by decide +kernel
theorem dX6_init_13 : decode cX6_init 13 = .ok (.aload_n 0, 1) := by decide +kernel
theorem dX6_init_14 : decode cX6_init 14 = .ok (.sipush 200, 3) := by decide +kernel
theorem dX6_init_17 : decode cX6_init 17 = .ok (.newarray .int, 2) := by decide +kernel
theorem dX6_init_19 : decode cX6_init 19 = .ok (.putfield 15, 3) := by decide +kernel
theorem dX6_init_22 : decode cX6_init 22 = .ok (.return_, 1) := by decide +kernel
theorem dX6_begin_0 : decode cX6_begin 0 = .ok (.aload_n 0, 1) := by decide +kernel
theorem dX6_begin_1 : decode cX6_begin 1 = .ok (.iconst 0, 1) := by decide +kernel
theorem dX6_begin_2 : decode cX6_begin 2 = .ok (.putfield 19, 3) := by decide +kernel
theorem dX6_begin_5 : decode cX6_begin 5 = .ok (.return_, 1) := by decide +kernel
theorem dX6_areAllUsed_0 : decode cX6_areAllUsed 0 = .ok (.aload_n 0, 1) := by decide +kernel
theorem dX6_areAllUsed_1 : decode cX6_areAllUsed 1 = .ok (.getfield 19, 3) := by decide +kernel
theorem dX6_areAllUsed_4 : decode cX6_areAllUsed 4 = .ok (.sipush 200, 3) := by decide +kernel
theorem dX6_areAllUsed_7 : decode cX6_areAllUsed 7 = .ok (.if_icmp .lt 7, 3) := by decide +kernel
theorem dX6_areAllUsed_10 : decode cX6_areAllUsed 10 = .ok (.iconst 1, 1) := by decide +kernel
theorem dX6_areAllUsed_11 : decode cX6_areAllUsed 11 = .ok (.goto 4, 3) := by decide +kernel
theorem dX6_areAllUsed_14 : decode cX6_areAllUsed 14 = .ok (.iconst 0, 1) := by decide +kernel
theorem dX6_areAllUsed_15 : decode cX6_areAllUsed 15 = .ok (.ireturn, 1) := by decide +kernel
theorem dX6_number_0 : decode cX6_number 0 = .ok (.aload_n 0, 1) := by decide +kernel
theorem dX6_number_1 : decode cX6_number 1 = .ok (.getfield 19, 3) := by decide +kernel
theorem dX6_number_4 : decode cX6_number 4 = .ok (.ireturn, 1) := by decide +kernel
theorem dX6_add_0 : decode cX6_add 0 = .ok (.aload_n 0, 1) := by decide +kernel
theorem dX6_add_1 : decode cX6_add 1 = .ok (.getfield 19, 3) := by decide +kernel
theorem dX6_add_4 : decode cX6_add 4 = .ok (.sipush 200, 3) := by decide +kernel
theorem dX6_add_7 : decode cX6_add 7 = .ok (.if_icmp .ge 33, 3) := by decide +kernel
theorem dX6_add_10 : decode cX6_add 10 = .ok (.aload_n 0, 1) := by decide +kernel
theorem dX6_add_11 : decode cX6_add 11 = .ok (.getfield 9, 3) := by decide +kernel
theorem dX6_add_14 : decode cX6_add 14 = .ok (.aload_n 0, 1) := by decide +kernel
theorem dX6_add_15 : decode cX6_add 15 = .ok (.getfield 19, 3) := by decide +kernel
theorem dX6_add_18 : decode cX6_add 18 = .ok (.lload_n 2, 1) := by decide +kernel
theorem dX6_add_19 : decode cX6_add 19 = .ok (.lastore, 1) := by decide +kernel
theorem dX6_add_20 : decode cX6_add 20 = .ok (.aload_n 0, 1) := by decide +kernel
theorem dX6_add_21 : decode cX6_add 21 = .ok (.getfield 15, 3) := by decide +kernel
theorem dX6_add_24 : decode cX6_add 24 = .ok (.aload_n 0, 1) := by decide +kernel
theorem dX6_add_25 : decode cX6_add 25 = .ok (.getfield 19, 3) := by decide +kernel
theorem dX6_add_28 : decode cX6_add 28 = .ok (.iload_n 1, 1) := by decide +kernel
theorem dX6_add_29 : decode cX6_add 29 = .ok (.iastore, 1) := by decide +kernel
theorem dX6_add_30 : decode cX6_add 30 = .ok (.aload_n 0, 1) := by decide +kernel
theorem dX6_add_31 : decode cX6_add 31 = .ok (.dup, 1) := by decide +kernel
theorem dX6_add_32 : decode cX6_add 32 = .ok (.getfield 19, 3) := by decide +kernel
theorem dX6_add_35 : decode cX6_add 35 = .ok (.iconst 1, 1) := by decide +kernel
theorem dX6_add_36 : decode cX6_add 36 = .ok (.iadd, 1) := by decide +kernel
theorem dX6_add_37 : decode cX6_add 37 = .ok (.putfield 19, 3) := by decide +kernel
theorem dX6_add_40 : decode cX6_add 40 = .ok (.aload_n 0, 1) := by decide +kernel
theorem dX6_add_41 : decode cX6_add 41 = .ok (.getfield 19, 3) := by decide +kernel
theorem dX6_add_44 : decode cX6_add 44 = .ok (.iconst 1, 1) := by decide +kernel
theorem dX6_add_45 : decode cX6_add 45 = .ok (.isub, 1) := by decide +kernel
theorem dX6_add_46 : decode cX6_add 46 = .ok (.ireturn, 1) := by decide +kernel
theorem dX6_isStored_0 : decode cX6_isStored 0 = .ok (.iload_n 1, 1) := by decide +kernel
theorem dX6_isStored_1 : decode cX6_isStored 1 = .ok (.ifCond .lt 22, 3) := by decide +kernel
theorem dX6_isStored_4 : decode cX6_isStored 4 = .ok (.iload_n 1, 1) := by decide +kernel
theorem dX6_isStored_5 : decode cX6_isStored 5 = .ok (.aload_n 0, 1) := by decide +kernel
theorem dX6_isStored_6 : decode cX6_isStored 6 = .ok (.getfield 19, 3) := by decide +kernel
theorem dX6_isStored_9 : decode cX6_isStored 9 = .ok (.if_icmp .ge 14, 3) := by decide +kernel
theorem dX6_isStored_12 : decode cX6_isStored 12 = .ok (.iload_n 1, 1) := by decide +kernel
theorem dX6_isStored_13 : decode cX6_isStored 13 = .ok (.sipush 200, 3) := by decide +kernel
theorem dX6_isStored_16 : decode cX6_isStored 16 = .ok (.if_icmp .ge 7, 3) := by decide +kernel
theorem dX6_isStored_19 : decode cX6_isStored 19 = .ok (.iconst 1, 1) := by decide +kernel
theorem dX6_isStored_20 : decode cX6_isStored 20 = .ok (.goto 4, 3) := by decide +kernel
theorem dX6_isStored_23 : decode cX6_isStored 23 = .ok (.iconst 0, 1) := by decide +kernel
theorem dX6_isStored_24 : decode cX6_isStored 24 = .ok (.ireturn, 1) := by decide +kernel
theorem dX6_contentOf_0 : decode cX6_contentOf 0 = .ok (.aload_n 0, 1) := by decide +kernel
theorem dX6_contentOf_1 : decode cX6_contentOf 1 = .ok (.iload_n 1, 1) := by decide +kernel
theorem dX6_contentOf_2 : decode cX6_contentOf 2 = .ok (.invokevirtual 23, 3) := by decide +kernel
theorem dX6_contentOf_5 : decode cX6_contentOf 5 = .ok (.ifCond .eq 12, 3) := by decide +kernel
theorem dX6_contentOf_8 : decode cX6_contentOf 8 = .ok (.aload_n 0, 1) := by decide +kernel
theorem dX6_contentOf_9 : decode cX6_contentOf 9 = .ok (.getfield 9, 3) := by decide +kernel
theorem dX6_contentOf_12 : decode cX6_contentOf 12 = .ok (.iload_n 1, 1) := by decide +kernel
theorem dX6_contentOf_13 : decode cX6_contentOf 13 = .ok (.laload, 1) := by decide +kernel
theorem dX6_contentOf_14 : decode cX6_contentOf 14 = .ok (.goto 4, 3) := by decide +kernel
theorem dX6_contentOf_17 : decode cX6_contentOf 17 = .ok (.lconst 0, 1) := by decide +kernel
theorem dX6_contentOf_18 : decode cX6_contentOf 18 = .ok (.lreturn, 1) := by decide +kernel
theorem dX6_leafWith_0 : decode cX6_leafWith 0 = .ok (.aload_n 0, 1) := by decide +kernel
theorem dX6_leafWith_1 : decode cX6_leafWith 1 = .ok (.iload_n 1, 1) := by decide +kernel
theorem dX6_leafWith_2 : decode cX6_leafWith 2 = .ok (.invokevirtual 23, 3) := by decide +kernel
theorem dX6_leafWith_5 : decode cX6_leafWith 5 = .ok (.ifCond .eq 12, 3) := by decide +kernel
theorem dX6_leafWith_8 : decode cX6_leafWith 8 = .ok (.aload_n 0, 1) := by decide +kernel
theorem dX6_leafWith_9 : decode cX6_leafWith 9 = .ok (.getfield 15, 3) := by decide +kernel
theorem dX6_leafWith_12 : decode cX6_leafWith 12 = .ok (.iload_n 1, 1) := by decide +kernel
theorem dX6_leafWith_13 : decode cX6_leafWith 13 = .ok (.iaload, 1) := by decide +kernel
theorem dX6_leafWith_14 : decode cX6_leafWith 14 = .ok (.goto 4, 3) := by decide +kernel
theorem dX6_leafWith_17 : decode cX6_leafWith 17 = .ok (.iconst (-1), 1) := by decide +kernel
theorem dX6_leafWith_18 : decode cX6_leafWith 18 = .ok (.ireturn, 1) := by decide +kernel
theorem dX6_settle_0 : decode cX6_settle 0 = .ok (.aload_n 0, 1) := by decide +kernel
theorem dX6_settle_1 : decode cX6_settle 1 = .ok (.iload_n 1, 1) := by decide +kernel
theorem dX6_settle_2 : decode cX6_settle 2 = .ok (.invokevirtual 23, 3) := by decide +kernel
theorem dX6_settle_5 : decode cX6_settle 5 = .ok (.ifCond .eq 10, 3) := by decide +kernel
theorem dX6_settle_8 : decode cX6_settle 8 = .ok (.aload_n 0, 1) := by decide +kernel
theorem dX6_settle_9 : decode cX6_settle 9 = .ok (.getfield 15, 3) := by decide +kernel
theorem dX6_settle_12 : decode cX6_settle 12 = .ok (.iload_n 1, 1) := by decide +kernel
theorem dX6_settle_13 : decode cX6_settle 13 = .ok (.iload_n 2, 1) := by decide +kernel
theorem dX6_settle_14 : decode cX6_settle 14 = .ok (.iastore, 1) := by decide +kernel
theorem dX6_settle_15 : decode cX6_settle 15 = .ok (.return_, 1) := by decide +kernel
theorem dX7_init_0 : decode cX7_init 0 = .ok (.aload_n 0, 1) := by decide +kernel
theorem dX7_init_1 : decode cX7_init 1 = .ok (.invokespecial 3, 3) := by decide +kernel
theorem dX7_init_4 : decode cX7_init 4 = .ok (.aload_n 0, 1) := by decide +kernel
theorem dX7_init_5 : decode cX7_init 5 = .ok (.sipush 2049, 3) := by decide +kernel
theorem dX7_init_8 : decode cX7_init 8 = .ok (.newarray .int, 2) := by decide +kernel
theorem dX7_init_10 : decode cX7_init 10 = .ok (.putfield 9, 3) := by decide +kernel
theorem dX7_init_13 : decode cX7_init 13 = .ok (.aload_n 0, 1) := by decide +kernel
theorem dX7_init_14 : decode cX7_init 14 = .ok (.sipush 200, 3) := by decide +kernel
theorem dX7_init_17 : decode cX7_init 17 = .ok (.newarray .boolean, 2) := by decide +kernel
theorem dX7_init_19 : decode cX7_init 19 = .ok (.putfield 15, 3) := by decide +kernel
theorem dX7_init_22 : decode cX7_init 22 = .ok (.aload_n 0, 1) := by decide +kernel
theorem dX7_init_23 : decode cX7_init 23 = .ok (.aload_n 1, 1) := by decide +kernel
theorem dX7_init_24 : decode cX7_init 24 = .ok (.putfield 19, 3) := by decide +kernel
theorem dX7_init_27 : decode cX7_init 27 = .ok (.aload_n 0, 1) := by decide +kernel
theorem dX7_init_28 : decode cX7_init 28 = .ok (.aload_n 2, 1) := by decide +kernel
theorem dX7_init_29 : decode cX7_init 29 = .ok (.putfield 23, 3) := by decide +kernel
theorem dX7_init_32 : decode cX7_init 32 = .ok (.aload_n 0, 1) := by decide +kernel
theorem dX7_init_33 : decode cX7_init 33 = .ok (.aload_n 3, 1) := by decide +kernel
theorem dX7_init_34 : decode cX7_init 34 = .ok (.putfield 27, 3) := by decide +kernel
theorem dX7_init_37 : decode cX7_init 37 = .ok (.return_, 1) := by decide +kernel
theorem dX7_begin_0 : decode cX7_begin 0 = .ok (.iconst 0, 1) := by decide +kernel
theorem dX7_begin_1 : decode cX7_begin 1 = .ok (.istore_n 1, 1) := by decide +kernel
theorem dX7_begin_2 : decode cX7_begin 2 = .ok (.iload_n 1, 1) := by decide +kernel
theorem dX7_begin_3 : decode cX7_begin 3 = .ok (.aload_n 0, 1) := by decide +kernel
theorem dX7_begin_4 : decode cX7_begin 4 = .ok (.getfield 19, 3) := by decide +kernel
theorem dX7_begin_7 : decode cX7_begin 7 = .ok (.invokevirtual 31, 3) := by decide +kernel
theorem dX7_begin_10 : decode cX7_begin 10 = .ok (.if_icmp .gt 23, 3) := by decide +kernel
theorem dX7_begin_13 : decode cX7_begin 13 = .ok (.iload_n 1, 1) := by decide +kernel
theorem dX7_begin_14 : decode cX7_begin 14 = .ok (.sipush 2048, 3) := by decide +kernel
theorem dX7_begin_17 : decode cX7_begin 17 = .ok (.if_icmp .gt 16, 3) := by decide +kernel
theorem dX7_begin_20 : decode cX7_begin 20 = .ok (.aload_n 0, 1) := by decide +kernel
theorem dX7_begin_21 : decode cX7_begin 21 = .ok (.getfield 9, 3) := by decide +kernel
theorem dX7_begin_24 : decode cX7_begin 24 = .ok (.iload_n 1, 1) := by decide +kernel
theorem dX7_begin_25 : decode cX7_begin 25 = .ok (.iconst 0, 1) := by decide +kernel
theorem dX7_begin_26 : decode cX7_begin 26 = .ok (.iastore, 1) := by decide +kernel
theorem dX7_begin_27 : decode cX7_begin 27 = .ok (.iinc 1 1, 3) := by decide +kernel
theorem dX7_begin_30 : decode cX7_begin 30 = .ok (.goto (-28), 3) := by decide +kernel
theorem dX7_begin_33 : decode cX7_begin 33 = .ok (.iconst 0, 1) := by decide +kernel
theorem dX7_begin_34 : decode cX7_begin 34 = .ok (.istore_n 1, 1) := by decide +kernel
theorem dX7_begin_35 : decode cX7_begin 35 = .ok (.iload_n 1, 1) := by decide +kernel
theorem dX7_begin_36 : decode cX7_begin 36 = .ok (.sipush 200, 3) := by decide +kernel
theorem dX7_begin_39 : decode cX7_begin 39 = .ok (.if_icmp .ge 16, 3) := by decide +kernel
theorem dX7_begin_42 : decode cX7_begin 42 = .ok (.aload_n 0, 1) := by decide +kernel
theorem dX7_begin_43 : decode cX7_begin 43 = .ok (.getfield 15, 3) := by decide +kernel
theorem dX7_begin_46 : decode cX7_begin 46 = .ok (.iload_n 1, 1) := by decide +kernel
theorem dX7_begin_47 : decode cX7_begin 47 = .ok (.iconst 0, 1) := by decide +kernel
theorem dX7_begin_48 : decode cX7_begin 48 = .ok (.bastore, 1) := by decide +kernel
theorem dX7_begin_49 : decode cX7_begin 49 = .ok (.iinc 1 1, 3) := by decide +kernel
theorem dX7_begin_52 : decode cX7_begin 52 = .ok (.goto (-17), 3) := by decide +kernel
theorem dX7_begin_55 : decode cX7_begin 55 = .ok (.return_, 1) := by decide +kernel
theorem dX7_want_0 : decode cX7_want 0 = .ok (.aload_n 0, 1) := by decide +kernel
theorem dX7_want_1 : decode cX7_want 1 = .ok (.getfield 23, 3) := by decide +kernel
theorem dX7_want_4 : decode cX7_want 4 = .ok (.iload_n 1, 1) := by decide +kernel
theorem dX7_want_5 : decode cX7_want 5 = .ok (.invokevirtual 37, 3) := by decide +kernel
theorem dX7_want_8 : decode cX7_want 8 = .ok (.ifCond .eq 10, 3) := by decide +kernel
theorem dX7_want_11 : decode cX7_want 11 = .ok (.aload_n 0, 1) := by decide +kernel
theorem dX7_want_12 : decode cX7_want 12 = .ok (.getfield 15, 3) := by decide +kernel
theorem dX7_want_15 : decode cX7_want 15 = .ok (.iload_n 1, 1) := by decide +kernel
theorem dX7_want_16 : decode cX7_want 16 = .ok (.iconst 1, 1) := by decide +kernel
theorem dX7_want_17 : decode cX7_want 17 = .ok (.bastore, 1) := by decide +kernel
theorem dX7_want_18 : decode cX7_want 18 = .ok (.return_, 1) := by decide +kernel
theorem dX7_isWanted_0 : decode cX7_isWanted 0 = .ok (.aload_n 0, 1) := by decide +kernel
theorem dX7_isWanted_1 : decode cX7_isWanted 1 = .ok (.getfield 23, 3) := by decide +kernel
theorem dX7_isWanted_4 : decode cX7_isWanted 4 = .ok (.iload_n 1, 1) := by decide +kernel
theorem dX7_isWanted_5 : decode cX7_isWanted 5 = .ok (.invokevirtual 37, 3) := by decide +kernel
theorem dX7_isWanted_8 : decode cX7_isWanted 8 = .ok (.ifCond .eq 16, 3) := by decide +kernel
theorem dX7_isWanted_11 : decode cX7_isWanted 11 = .ok (.aload_n 0, 1) := by decide +kernel
theorem dX7_isWanted_12 : decode cX7_isWanted 12 = .ok (.getfield 15, 3) := by decide +kernel
theorem dX7_isWanted_15 : decode cX7_isWanted 15 = .ok (.iload_n 1, 1) := by decide +kernel
theorem dX7_isWanted_16 : decode cX7_isWanted 16 = .ok (.baload, 1) := by decide +kernel
theorem dX7_isWanted_17 : decode cX7_isWanted 17 = .ok (.ifCond .eq 7, 3) := by decide +kernel
theorem dX7_isWanted_20 : decode cX7_isWanted 20 = .ok (.iconst 1, 1) := by decide +kernel
theorem dX7_isWanted_21 : decode cX7_isWanted 21 = .ok (.goto 4, 3) := by decide +kernel
theorem dX7_isWanted_24 : decode cX7_isWanted 24 = .ok (.iconst 0, 1) := by decide +kernel
theorem dX7_isWanted_25 : decode cX7_isWanted 25 = .ok (.ireturn, 1) := by decide +kernel
theorem dX7_stepsFrom_0 : decode cX7_stepsFrom 0 = .ok (.aload_n 0, 1) := by decide +kernel
theorem dX7_stepsFrom_1 : decode cX7_stepsFrom 1 = .ok (.getfield 19, 3) := by decide +kernel
theorem dX7_stepsFrom_4 : decode cX7_stepsFrom 4 = .ok (.iload_n 1, 1) := by decide +kernel
theorem dX7_stepsFrom_5 : decode cX7_stepsFrom 5 = .ok (.invokevirtual 43, 3) := by decide +kernel
theorem dX7_stepsFrom_8 : decode cX7_stepsFrom 8 = .ok (.ifCond .eq 12, 3) := by decide +kernel
theorem dX7_stepsFrom_11 : decode cX7_stepsFrom 11 = .ok (.aload_n 0, 1) := by decide +kernel
theorem dX7_stepsFrom_12 : decode cX7_stepsFrom 12 = .ok (.getfield 9, 3) := by decide +kernel
theorem dX7_stepsFrom_15 : decode cX7_stepsFrom 15 = .ok (.iload_n 1, 1) := by decide +kernel
theorem dX7_stepsFrom_16 : decode cX7_stepsFrom 16 = .ok (.iaload, 1) := by decide +kernel
theorem dX7_stepsFrom_17 : decode cX7_stepsFrom 17 = .ok (.goto 4, 3) := by decide +kernel
theorem dX7_stepsFrom_20 : decode cX7_stepsFrom 20 = .ok (.iconst 0, 1) := by decide +kernel
theorem dX7_stepsFrom_21 : decode cX7_stepsFrom 21 = .ok (.ireturn, 1) := by decide +kernel
theorem dX7_findKeysOpening_0 : decode cX7_findKeysOpening 0 = .ok (.aload_n 0, 1) := by decide +kernel
theorem dX7_findKeysOpening_1 : decode cX7_findKeysOpening 1 = .ok (.invokevirtual 46, 3) := by decide +kernel
theorem dX7_findKeysOpening_4 : decode cX7_findKeysOpening 4 = .ok (.aload_n 0, 1) := by decide +kernel
theorem dX7_findKeysOpening_5 : decode cX7_findKeysOpening 5 = .ok (.iload_n 1, 1) := by decide +kernel
theorem dX7_findKeysOpening_6 : decode cX7_findKeysOpening 6 = .ok (.invokevirtual 49, 3) := by decide +kernel
theorem dX7_findKeysOpening_9 : decode cX7_findKeysOpening 9 = .ok (.aload_n 0, 1) := by decide +kernel
theorem dX7_findKeysOpening_10 : decode cX7_findKeysOpening 10 = .ok (.invokevirtual 53, 3) := by decide +kernel
theorem dX7_findKeysOpening_13 : decode cX7_findKeysOpening 13 = .ok (.return_, 1) := by decide +kernel
theorem dX7_findKeys_0 : decode cX7_findKeys 0 = .ok (.iconst 0, 1) := by decide +kernel
theorem dX7_findKeys_1 : decode cX7_findKeys 1 = .ok (.istore_n 1, 1) := by decide +kernel
theorem dX7_findKeys_2 : decode cX7_findKeys 2 = .ok (.iload_n 1, 1) := by decide +kernel
theorem dX7_findKeys_3 : decode cX7_findKeys 3 = .ok (.aload_n 0, 1) := by decide +kernel
theorem dX7_findKeys_4 : decode cX7_findKeys 4 = .ok (.getfield 27, 3) := by decide +kernel
theorem dX7_findKeys_7 : decode cX7_findKeys 7 = .ok (.invokevirtual 56, 3) := by decide +kernel
theorem dX7_findKeys_10 : decode cX7_findKeys 10 = .ok (.if_icmp .ge 79, 3) := by decide +kernel
theorem dX7_findKeys_13 : decode cX7_findKeys 13 = .ok (.iconst 0, 1) := by decide +kernel
theorem dX7_findKeys_14 : decode cX7_findKeys 14 = .ok (.istore_n 2, 1) := by decide +kernel
theorem dX7_findKeys_15 : decode cX7_findKeys 15 = .ok (.iload_n 2, 1) := by decide +kernel
theorem dX7_findKeys_16 : decode cX7_findKeys 16 = .ok (.aload_n 0, 1) := by decide +kernel
theorem dX7_findKeys_17 : decode cX7_findKeys 17 = .ok (.getfield 27, 3) := by decide +kernel
theorem dX7_findKeys_20 : decode cX7_findKeys 20 = .ok (.iload_n 1, 1) := by decide +kernel
theorem dX7_findKeys_21 : decode cX7_findKeys 21 = .ok (.invokevirtual 59, 3) := by decide +kernel
theorem dX7_findKeys_24 : decode cX7_findKeys 24 = .ok (.if_icmp .ge 59, 3) := by decide +kernel
theorem dX7_findKeys_27 : decode cX7_findKeys 27 = .ok (.aload_n 0, 1) := by decide +kernel
theorem dX7_findKeys_28 : decode cX7_findKeys 28 = .ok (.getfield 27, 3) := by decide +kernel
theorem dX7_findKeys_31 : decode cX7_findKeys 31 = .ok (.iload_n 1, 1) := by decide +kernel
theorem dX7_findKeys_32 : decode cX7_findKeys 32 = .ok (.iload_n 2, 1) := by decide +kernel
theorem dX7_findKeys_33 : decode cX7_findKeys 33 = .ok (.invokevirtual 63, 3) := by decide +kernel
theorem dX7_findKeys_36 : decode cX7_findKeys 36 = .ok (.istore_n 3, 1) := by decide +kernel
theorem dX7_findKeys_37 : decode cX7_findKeys 37 = .ok (.aload_n 0, 1) := by decide +kernel
theorem dX7_findKeys_38 : decode cX7_findKeys 38 = .ok (.getfield 27, 3) := by decide +kernel
theorem dX7_findKeys_41 : decode cX7_findKeys 41 = .ok (.iload_n 3, 1) := by decide +kernel
theorem dX7_findKeys_42 : decode cX7_findKeys 42 = .ok (.invokevirtual 67, 3) := by decide +kernel
theorem dX7_findKeys_45 : decode cX7_findKeys 45 = .ok (.iconst 1, 1) := by decide +kernel
theorem dX7_findKeys_46 : decode cX7_findKeys 46 = .ok (.if_icmp .ne 31, 3) := by decide +kernel
theorem dX7_findKeys_49 : decode cX7_findKeys 49 = .ok (.aload_n 0, 1) := by decide +kernel
theorem dX7_findKeys_50 : decode cX7_findKeys 50 = .ok (.aload_n 0, 1) := by decide +kernel
theorem dX7_findKeys_51 : decode cX7_findKeys 51 = .ok (.getfield 27, 3) := by decide +kernel
theorem dX7_findKeys_54 : decode cX7_findKeys 54 = .ok (.iload_n 3, 1) := by decide +kernel
theorem dX7_findKeys_55 : decode cX7_findKeys 55 = .ok (.invokevirtual 70, 3) := by decide +kernel
theorem dX7_findKeys_58 : decode cX7_findKeys 58 = .ok (.invokevirtual 73, 3) := by decide +kernel
theorem dX7_findKeys_61 : decode cX7_findKeys 61 = .ok (.ifCond .eq 16, 3) := by decide +kernel
theorem dX7_findKeys_64 : decode cX7_findKeys 64 = .ok (.aload_n 0, 1) := by decide +kernel
theorem dX7_findKeys_65 : decode cX7_findKeys 65 = .ok (.aload_n 0, 1) := by decide +kernel
theorem dX7_findKeys_66 : decode cX7_findKeys 66 = .ok (.getfield 27, 3) := by decide +kernel
theorem dX7_findKeys_69 : decode cX7_findKeys 69 = .ok (.iload_n 3, 1) := by decide +kernel
theorem dX7_findKeys_70 : decode cX7_findKeys 70 = .ok (.invokevirtual 76, 3) := by decide +kernel
theorem dX7_findKeys_73 : decode cX7_findKeys 73 = .ok (.iconst 1, 1) := by decide +kernel
theorem dX7_findKeys_74 : decode cX7_findKeys 74 = .ok (.invokevirtual 79, 3) := by decide +kernel
theorem dX7_findKeys_77 : decode cX7_findKeys 77 = .ok (.iinc 2 1, 3) := by decide +kernel
theorem dX7_findKeys_80 : decode cX7_findKeys 80 = .ok (.goto (-65), 3) := by decide +kernel
theorem dX7_findKeys_83 : decode cX7_findKeys 83 = .ok (.iinc 1 1, 3) := by decide +kernel
theorem dX7_findKeys_86 : decode cX7_findKeys 86 = .ok (.goto (-84), 3) := by decide +kernel
theorem dX7_findKeys_89 : decode cX7_findKeys 89 = .ok (.iconst 1, 1) := by decide +kernel
theorem dX7_findKeys_90 : decode cX7_findKeys 90 = .ok (.istore_n 1, 1) := by decide +kernel
theorem dX7_findKeys_91 : decode cX7_findKeys 91 = .ok (.iload_n 1, 1) := by decide +kernel
theorem dX7_findKeys_92 : decode cX7_findKeys 92 = .ok (.iconst 3, 1) := by decide +kernel
theorem dX7_findKeys_93 : decode cX7_findKeys 93 = .ok (.if_icmp .gt 34, 3) := by decide +kernel
theorem dX7_findKeys_96 : decode cX7_findKeys 96 = .ok (.iconst 0, 1) := by decide +kernel
theorem dX7_findKeys_97 : decode cX7_findKeys 97 = .ok (.istore_n 2, 1) := by decide +kernel
theorem dX7_findKeys_98 : decode cX7_findKeys 98 = .ok (.iload_n 2, 1) := by decide +kernel
theorem dX7_findKeys_99 : decode cX7_findKeys 99 = .ok (.aload_n 0, 1) := by decide +kernel
theorem dX7_findKeys_100 : decode cX7_findKeys 100 = .ok (.getfield 27, 3) := by decide +kernel
theorem dX7_findKeys_103 : decode cX7_findKeys 103 = .ok (.invokevirtual 56, 3) := by decide +kernel
theorem dX7_findKeys_106 : decode cX7_findKeys 106 = .ok (.if_icmp .ge 15, 3) := by decide +kernel
theorem dX7_findKeys_109 : decode cX7_findKeys 109 = .ok (.aload_n 0, 1) := by decide +kernel
theorem dX7_findKeys_110 : decode cX7_findKeys 110 = .ok (.iload_n 2, 1) := by decide +kernel
theorem dX7_findKeys_111 : decode cX7_findKeys 111 = .ok (.iload_n 1, 1) := by decide +kernel
theorem dX7_findKeys_112 : decode cX7_findKeys 112 = .ok (.invokevirtual 83, 3) := by decide +kernel
theorem dX7_findKeys_115 : decode cX7_findKeys 115 = .ok (.iinc 2 1, 3) := by decide +kernel
theorem dX7_findKeys_118 : decode cX7_findKeys 118 = .ok (.goto (-20), 3) := by decide +kernel
theorem dX7_findKeys_121 : decode cX7_findKeys 121 = .ok (.iinc 1 1, 3) := by decide +kernel
theorem dX7_findKeys_124 : decode cX7_findKeys 124 = .ok (.goto (-33), 3) := by decide +kernel
theorem dX7_findKeys_127 : decode cX7_findKeys 127 = .ok (.return_, 1) := by decide +kernel
theorem dX7_findRecordsOpenedBy_0 : decode cX7_findRecordsOpenedBy 0 = .ok (.aload_n 0, 1) := by decide +kernel
theorem dX7_findRecordsOpenedBy_1 : decode cX7_findRecordsOpenedBy 1 = .ok (.invokevirtual 46, 3) := by decide +kernel
theorem dX7_findRecordsOpenedBy_4 : decode cX7_findRecordsOpenedBy 4 = .ok (.aload_n 0, 1) := by decide +kernel
theorem dX7_findRecordsOpenedBy_5 : decode cX7_findRecordsOpenedBy 5 = .ok (.iload_n 1, 1) := by decide +kernel
theorem dX7_findRecordsOpenedBy_6 : decode cX7_findRecordsOpenedBy 6 = .ok (.iconst 1, 1) := by decide +kernel
theorem dX7_findRecordsOpenedBy_7 : decode cX7_findRecordsOpenedBy 7 = .ok (.invokevirtual 79, 3) := by decide +kernel
theorem dX7_findRecordsOpenedBy_10 : decode cX7_findRecordsOpenedBy 10 = .ok (.iconst 1, 1) := by decide +kernel
theorem dX7_findRecordsOpenedBy_11 : decode cX7_findRecordsOpenedBy 11 = .ok (.istore 4, 2) := by decide +kernel
theorem dX7_findRecordsOpenedBy_13 : decode cX7_findRecordsOpenedBy 13 = .ok (.iload 4, 2) := by decide +kernel
theorem dX7_findRecordsOpenedBy_15 : decode cX7_findRecordsOpenedBy 15 = .ok (.iconst 3, 1) := by decide +kernel
theorem dX7_findRecordsOpenedBy_16 : decode cX7_findRecordsOpenedBy 16 = .ok (.if_icmp .gt 32, 3) := by decide +kernel
theorem dX7_findRecordsOpenedBy_19 : decode cX7_findRecordsOpenedBy 19 = .ok (.iload_n 2, 1) := by decide +kernel
theorem dX7_findRecordsOpenedBy_20 : decode cX7_findRecordsOpenedBy 20 = .ok (.istore 5, 2) := by decide +kernel
theorem dX7_findRecordsOpenedBy_22 : decode cX7_findRecordsOpenedBy 22 = .ok (.iload 5, 2) := by decide +kernel
theorem dX7_findRecordsOpenedBy_24 : decode cX7_findRecordsOpenedBy 24 = .ok (.iload_n 3, 1) := by decide +kernel
theorem dX7_findRecordsOpenedBy_25 : decode cX7_findRecordsOpenedBy 25 = .ok (.if_icmp .gt 17, 3) := by decide +kernel
theorem dX7_findRecordsOpenedBy_28 : decode cX7_findRecordsOpenedBy 28 = .ok (.aload_n 0, 1) := by decide +kernel
theorem dX7_findRecordsOpenedBy_29 : decode cX7_findRecordsOpenedBy 29 = .ok (.iload 5, 2) := by decide +kernel
theorem dX7_findRecordsOpenedBy_31 : decode cX7_findRecordsOpenedBy 31 = .ok (.iload 4, 2) := by decide +kernel
theorem dX7_findRecordsOpenedBy_33 : decode cX7_findRecordsOpenedBy 33 = .ok (.invokevirtual 86, 3) := by decide +kernel
theorem dX7_findRecordsOpenedBy_36 : decode cX7_findRecordsOpenedBy 36 = .ok (.iinc 5 1, 3) := by decide +kernel
theorem dX7_findRecordsOpenedBy_39 : decode cX7_findRecordsOpenedBy 39 = .ok (.goto (-17), 3) := by decide +kernel
theorem dX7_findRecordsOpenedBy_42 : decode cX7_findRecordsOpenedBy 42 = .ok (.iinc 4 1, 3) := by decide +kernel
theorem dX7_findRecordsOpenedBy_45 : decode cX7_findRecordsOpenedBy 45 = .ok (.goto (-32), 3) := by decide +kernel
theorem dX7_findRecordsOpenedBy_48 : decode cX7_findRecordsOpenedBy 48 = .ok (.iload_n 2, 1) := by decide +kernel
theorem dX7_findRecordsOpenedBy_49 : decode cX7_findRecordsOpenedBy 49 = .ok (.istore 4, 2) := by decide +kernel
theorem dX7_findRecordsOpenedBy_51 : decode cX7_findRecordsOpenedBy 51 = .ok (.iload 4, 2) := by decide +kernel
theorem dX7_findRecordsOpenedBy_53 : decode cX7_findRecordsOpenedBy 53 = .ok (.iload_n 3, 1) := by decide +kernel
theorem dX7_findRecordsOpenedBy_54 : decode cX7_findRecordsOpenedBy 54 = .ok (.if_icmp .gt 87, 3) := by decide +kernel
theorem dX7_findRecordsOpenedBy_57 : decode cX7_findRecordsOpenedBy 57 = .ok (.iconst 0, 1) := by decide +kernel
theorem dX7_findRecordsOpenedBy_58 : decode cX7_findRecordsOpenedBy 58 = .ok (.istore 5, 2) := by decide +kernel
theorem dX7_findRecordsOpenedBy_60 : decode cX7_findRecordsOpenedBy 60 = .ok (.iload 5, 2) := by decide +kernel
theorem dX7_findRecordsOpenedBy_62 : decode cX7_findRecordsOpenedBy 62 = .ok (.aload_n 0, 1) := by decide +kernel
theorem dX7_findRecordsOpenedBy_63 : decode cX7_findRecordsOpenedBy 63 = .ok (.getfield 27, 3) := by decide +kernel
theorem dX7_findRecordsOpenedBy_66 : decode cX7_findRecordsOpenedBy 66 = .ok (.iload 4, 2) := by decide +kernel
theorem dX7_findRecordsOpenedBy_68 : decode cX7_findRecordsOpenedBy 68 = .ok (.invokevirtual 59, 3) := by decide +kernel
theorem dX7_findRecordsOpenedBy_71 : decode cX7_findRecordsOpenedBy 71 = .ok (.if_icmp .ge 64, 3) := by decide +kernel
theorem dX7_findRecordsOpenedBy_74 : decode cX7_findRecordsOpenedBy 74 = .ok (.aload_n 0, 1) := by decide +kernel
theorem dX7_findRecordsOpenedBy_75 : decode cX7_findRecordsOpenedBy 75 = .ok (.getfield 27, 3) := by decide +kernel
theorem dX7_findRecordsOpenedBy_78 : decode cX7_findRecordsOpenedBy 78 = .ok (.iload 4, 2) := by decide +kernel
theorem dX7_findRecordsOpenedBy_80 : decode cX7_findRecordsOpenedBy 80 = .ok (.iload 5, 2) := by decide +kernel
theorem dX7_findRecordsOpenedBy_82 : decode cX7_findRecordsOpenedBy 82 = .ok (.invokevirtual 63, 3) := by decide +kernel
theorem dX7_findRecordsOpenedBy_85 : decode cX7_findRecordsOpenedBy 85 = .ok (.istore 6, 2) := by decide +kernel
theorem dX7_findRecordsOpenedBy_87 : decode cX7_findRecordsOpenedBy 87 = .ok (.aload_n 0, 1) := by decide +kernel
theorem dX7_findRecordsOpenedBy_88 : decode cX7_findRecordsOpenedBy 88 = .ok (.getfield 27, 3) := by decide +kernel
theorem dX7_findRecordsOpenedBy_91 : decode cX7_findRecordsOpenedBy 91 = .ok (.iload 6, 2) := by decide +kernel
theorem dX7_findRecordsOpenedBy_93 : decode cX7_findRecordsOpenedBy 93 = .ok (.invokevirtual 67, 3) := by decide +kernel
theorem dX7_findRecordsOpenedBy_96 : decode cX7_findRecordsOpenedBy 96 = .ok (.iconst 1, 1) := by decide +kernel
theorem dX7_findRecordsOpenedBy_97 : decode cX7_findRecordsOpenedBy 97 = .ok (.if_icmp .ne 32, 3) := by decide +kernel
theorem dX7_findRecordsOpenedBy_100 : decode cX7_findRecordsOpenedBy 100 = .ok (.aload_n 0, 1) := by decide +kernel
theorem dX7_findRecordsOpenedBy_101 : decode cX7_findRecordsOpenedBy 101 = .ok (.aload_n 0, 1) := by decide +kernel
theorem dX7_findRecordsOpenedBy_102 : decode cX7_findRecordsOpenedBy 102 = .ok (.getfield 27, 3) := by decide +kernel
theorem dX7_findRecordsOpenedBy_105 : decode cX7_findRecordsOpenedBy 105 = .ok (.iload 6, 2) := by decide +kernel
theorem dX7_findRecordsOpenedBy_107 : decode cX7_findRecordsOpenedBy 107 = .ok (.invokevirtual 76, 3) := by decide +kernel
theorem dX7_findRecordsOpenedBy_110 : decode cX7_findRecordsOpenedBy 110 = .ok (.invokevirtual 89, 3) := by decide +kernel
theorem dX7_findRecordsOpenedBy_113 : decode cX7_findRecordsOpenedBy 113 = .ok (.ifCond .le 16, 3) := by decide +kernel
theorem dX7_findRecordsOpenedBy_116 : decode cX7_findRecordsOpenedBy 116 = .ok (.aload_n 0, 1) := by decide +kernel
theorem dX7_findRecordsOpenedBy_117 : decode cX7_findRecordsOpenedBy 117 = .ok (.aload_n 0, 1) := by decide +kernel
theorem dX7_findRecordsOpenedBy_118 : decode cX7_findRecordsOpenedBy 118 = .ok (.getfield 27, 3) := by decide +kernel
theorem dX7_findRecordsOpenedBy_121 : decode cX7_findRecordsOpenedBy 121 = .ok (.iload 6, 2) := by decide +kernel
theorem dX7_findRecordsOpenedBy_123 : decode cX7_findRecordsOpenedBy 123 = .ok (.invokevirtual 70, 3) := by decide +kernel
theorem dX7_findRecordsOpenedBy_126 : decode cX7_findRecordsOpenedBy 126 = .ok (.invokevirtual 49, 3) := by decide +kernel
theorem dX7_findRecordsOpenedBy_129 : decode cX7_findRecordsOpenedBy 129 = .ok (.iinc 5 1, 3) := by decide +kernel
theorem dX7_findRecordsOpenedBy_132 : decode cX7_findRecordsOpenedBy 132 = .ok (.goto (-72), 3) := by decide +kernel
theorem dX7_findRecordsOpenedBy_135 : decode cX7_findRecordsOpenedBy 135 = .ok (.iinc 4 1, 3) := by decide +kernel
theorem dX7_findRecordsOpenedBy_138 : decode cX7_findRecordsOpenedBy 138 = .ok (.goto (-87), 3) := by decide +kernel
theorem dX7_findRecordsOpenedBy_141 : decode cX7_findRecordsOpenedBy 141 = .ok (.return_, 1) := by decide +kernel
theorem dX7_countFound_0 : decode cX7_countFound 0 = .ok (.iconst 0, 1) := by decide +kernel
theorem dX7_countFound_1 : decode cX7_countFound 1 = .ok (.istore_n 2, 1) := by decide +kernel
theorem dX7_countFound_2 : decode cX7_countFound 2 = .ok (.iconst 0, 1) := by decide +kernel
theorem dX7_countFound_3 : decode cX7_countFound 3 = .ok (.istore_n 3, 1) := by decide +kernel
theorem dX7_countFound_4 : decode cX7_countFound 4 = .ok (.iload_n 3, 1) := by decide +kernel
theorem dX7_countFound_5 : decode cX7_countFound 5 = .ok (.aload_n 0, 1) := by decide +kernel
theorem dX7_countFound_6 : decode cX7_countFound 6 = .ok (.getfield 23, 3) := by decide +kernel
theorem dX7_countFound_9 : decode cX7_countFound 9 = .ok (.invokevirtual 92, 3) := by decide +kernel
theorem dX7_countFound_12 : decode cX7_countFound 12 = .ok (.if_icmp .ge 41, 3) := by decide +kernel
theorem dX7_countFound_15 : decode cX7_countFound 15 = .ok (.aload_n 0, 1) := by decide +kernel
theorem dX7_countFound_16 : decode cX7_countFound 16 = .ok (.iload_n 3, 1) := by decide +kernel
theorem dX7_countFound_17 : decode cX7_countFound 17 = .ok (.invokevirtual 73, 3) := by decide +kernel
theorem dX7_countFound_20 : decode cX7_countFound 20 = .ok (.ifCond .eq 27, 3) := by decide +kernel
theorem dX7_countFound_23 : decode cX7_countFound 23 = .ok (.aload_n 0, 1) := by decide +kernel
theorem dX7_countFound_24 : decode cX7_countFound 24 = .ok (.getfield 23, 3) := by decide +kernel
theorem dX7_countFound_27 : decode cX7_countFound 27 = .ok (.iload_n 3, 1) := by decide +kernel
theorem dX7_countFound_28 : decode cX7_countFound 28 = .ok (.invokevirtual 93, 3) := by decide +kernel
theorem dX7_countFound_31 : decode cX7_countFound 31 = .ok (.iconst (-1), 1) := by decide +kernel
theorem dX7_countFound_32 : decode cX7_countFound 32 = .ok (.if_icmp .eq 7, 3) := by decide +kernel
theorem dX7_countFound_35 : decode cX7_countFound 35 = .ok (.iconst 1, 1) := by decide +kernel
theorem dX7_countFound_36 : decode cX7_countFound 36 = .ok (.goto 4, 3) := by decide +kernel
theorem dX7_countFound_39 : decode cX7_countFound 39 = .ok (.iconst 0, 1) := by decide +kernel
theorem dX7_countFound_40 : decode cX7_countFound 40 = .ok (.iload_n 1, 1) := by decide +kernel
theorem dX7_countFound_41 : decode cX7_countFound 41 = .ok (.if_icmp .ne 6, 3) := by decide +kernel
theorem dX7_countFound_44 : decode cX7_countFound 44 = .ok (.iinc 2 1, 3) := by decide +kernel
theorem dX7_countFound_47 : decode cX7_countFound 47 = .ok (.iinc 3 1, 3) := by decide +kernel
theorem dX7_countFound_50 : decode cX7_countFound 50 = .ok (.goto (-46), 3) := by decide +kernel
theorem dX7_countFound_53 : decode cX7_countFound 53 = .ok (.iload_n 2, 1) := by decide +kernel
theorem dX7_countFound_54 : decode cX7_countFound 54 = .ok (.ireturn, 1) := by decide +kernel
theorem dX7_countKeys_0 : decode cX7_countKeys 0 = .ok (.iconst 0, 1) := by decide +kernel
theorem dX7_countKeys_1 : decode cX7_countKeys 1 = .ok (.istore_n 1, 1) := by decide +kernel
theorem dX7_countKeys_2 : decode cX7_countKeys 2 = .ok (.iconst 1, 1) := by decide +kernel
theorem dX7_countKeys_3 : decode cX7_countKeys 3 = .ok (.istore_n 2, 1) := by decide +kernel
theorem dX7_countKeys_4 : decode cX7_countKeys 4 = .ok (.iload_n 2, 1) := by decide +kernel
theorem dX7_countKeys_5 : decode cX7_countKeys 5 = .ok (.aload_n 0, 1) := by decide +kernel
theorem dX7_countKeys_6 : decode cX7_countKeys 6 = .ok (.getfield 19, 3) := by decide +kernel
theorem dX7_countKeys_9 : decode cX7_countKeys 9 = .ok (.invokevirtual 31, 3) := by decide +kernel
theorem dX7_countKeys_12 : decode cX7_countKeys 12 = .ok (.if_icmp .gt 20, 3) := by decide +kernel
theorem dX7_countKeys_15 : decode cX7_countKeys 15 = .ok (.aload_n 0, 1) := by decide +kernel
theorem dX7_countKeys_16 : decode cX7_countKeys 16 = .ok (.iload_n 2, 1) := by decide +kernel
theorem dX7_countKeys_17 : decode cX7_countKeys 17 = .ok (.invokevirtual 89, 3) := by decide +kernel
theorem dX7_countKeys_20 : decode cX7_countKeys 20 = .ok (.ifCond .le 6, 3) := by decide +kernel
theorem dX7_countKeys_23 : decode cX7_countKeys 23 = .ok (.iinc 1 1, 3) := by decide +kernel
theorem dX7_countKeys_26 : decode cX7_countKeys 26 = .ok (.iinc 2 1, 3) := by decide +kernel
theorem dX7_countKeys_29 : decode cX7_countKeys 29 = .ok (.goto (-25), 3) := by decide +kernel
theorem dX7_countKeys_32 : decode cX7_countKeys 32 = .ok (.iload_n 1, 1) := by decide +kernel
theorem dX7_countKeys_33 : decode cX7_countKeys 33 = .ok (.ireturn, 1) := by decide +kernel
theorem dX7_stepUp_0 : decode cX7_stepUp 0 = .ok (.iconst 0, 1) := by decide +kernel
theorem dX7_stepUp_1 : decode cX7_stepUp 1 = .ok (.istore_n 3, 1) := by decide +kernel
theorem dX7_stepUp_2 : decode cX7_stepUp 2 = .ok (.iload_n 3, 1) := by decide +kernel
theorem dX7_stepUp_3 : decode cX7_stepUp 3 = .ok (.aload_n 0, 1) := by decide +kernel
theorem dX7_stepUp_4 : decode cX7_stepUp 4 = .ok (.getfield 27, 3) := by decide +kernel
theorem dX7_stepUp_7 : decode cX7_stepUp 7 = .ok (.iload_n 1, 1) := by decide +kernel
theorem dX7_stepUp_8 : decode cX7_stepUp 8 = .ok (.invokevirtual 59, 3) := by decide +kernel
theorem dX7_stepUp_11 : decode cX7_stepUp 11 = .ok (.if_icmp .ge 65, 3) := by decide +kernel
theorem dX7_stepUp_14 : decode cX7_stepUp 14 = .ok (.aload_n 0, 1) := by decide +kernel
theorem dX7_stepUp_15 : decode cX7_stepUp 15 = .ok (.getfield 27, 3) := by decide +kernel
theorem dX7_stepUp_18 : decode cX7_stepUp 18 = .ok (.iload_n 1, 1) := by decide +kernel
theorem dX7_stepUp_19 : decode cX7_stepUp 19 = .ok (.iload_n 3, 1) := by decide +kernel
theorem dX7_stepUp_20 : decode cX7_stepUp 20 = .ok (.invokevirtual 63, 3) := by decide +kernel
theorem dX7_stepUp_23 : decode cX7_stepUp 23 = .ok (.istore 4, 2) := by decide +kernel
theorem dX7_stepUp_25 : decode cX7_stepUp 25 = .ok (.aload_n 0, 1) := by decide +kernel
theorem dX7_stepUp_26 : decode cX7_stepUp 26 = .ok (.getfield 27, 3) := by decide +kernel
theorem dX7_stepUp_29 : decode cX7_stepUp 29 = .ok (.iload 4, 2) := by decide +kernel
theorem dX7_stepUp_31 : decode cX7_stepUp 31 = .ok (.invokevirtual 67, 3) := by decide +kernel
theorem dX7_stepUp_34 : decode cX7_stepUp 34 = .ok (.ifCond .ne 36, 3) := by decide +kernel
theorem dX7_stepUp_37 : decode cX7_stepUp 37 = .ok (.aload_n 0, 1) := by decide +kernel
theorem dX7_stepUp_38 : decode cX7_stepUp 38 = .ok (.aload_n 0, 1) := by decide +kernel
theorem dX7_stepUp_39 : decode cX7_stepUp 39 = .ok (.getfield 27, 3) := by decide +kernel
theorem dX7_stepUp_42 : decode cX7_stepUp 42 = .ok (.iload 4, 2) := by decide +kernel
theorem dX7_stepUp_44 : decode cX7_stepUp 44 = .ok (.invokevirtual 70, 3) := by decide +kernel
theorem dX7_stepUp_47 : decode cX7_stepUp 47 = .ok (.invokevirtual 89, 3) := by decide +kernel
theorem dX7_stepUp_50 : decode cX7_stepUp 50 = .ok (.iload_n 2, 1) := by decide +kernel
theorem dX7_stepUp_51 : decode cX7_stepUp 51 = .ok (.if_icmp .ne 19, 3) := by decide +kernel
theorem dX7_stepUp_54 : decode cX7_stepUp 54 = .ok (.aload_n 0, 1) := by decide +kernel
theorem dX7_stepUp_55 : decode cX7_stepUp 55 = .ok (.aload_n 0, 1) := by decide +kernel
theorem dX7_stepUp_56 : decode cX7_stepUp 56 = .ok (.getfield 27, 3) := by decide +kernel
theorem dX7_stepUp_59 : decode cX7_stepUp 59 = .ok (.iload 4, 2) := by decide +kernel
theorem dX7_stepUp_61 : decode cX7_stepUp 61 = .ok (.invokevirtual 76, 3) := by decide +kernel
theorem dX7_stepUp_64 : decode cX7_stepUp 64 = .ok (.iload_n 2, 1) := by decide +kernel
theorem dX7_stepUp_65 : decode cX7_stepUp 65 = .ok (.iconst 1, 1) := by decide +kernel
theorem dX7_stepUp_66 : decode cX7_stepUp 66 = .ok (.iadd, 1) := by decide +kernel
theorem dX7_stepUp_67 : decode cX7_stepUp 67 = .ok (.invokevirtual 79, 3) := by decide +kernel
theorem dX7_stepUp_70 : decode cX7_stepUp 70 = .ok (.iinc 3 1, 3) := by decide +kernel
theorem dX7_stepUp_73 : decode cX7_stepUp 73 = .ok (.goto (-71), 3) := by decide +kernel
theorem dX7_stepUp_76 : decode cX7_stepUp 76 = .ok (.return_, 1) := by decide +kernel
theorem dX7_stepDown_0 : decode cX7_stepDown 0 = .ok (.iconst 0, 1) := by decide +kernel
theorem dX7_stepDown_1 : decode cX7_stepDown 1 = .ok (.istore_n 3, 1) := by decide +kernel
theorem dX7_stepDown_2 : decode cX7_stepDown 2 = .ok (.iload_n 3, 1) := by decide +kernel
theorem dX7_stepDown_3 : decode cX7_stepDown 3 = .ok (.aload_n 0, 1) := by decide +kernel
theorem dX7_stepDown_4 : decode cX7_stepDown 4 = .ok (.getfield 27, 3) := by decide +kernel
theorem dX7_stepDown_7 : decode cX7_stepDown 7 = .ok (.iload_n 1, 1) := by decide +kernel
theorem dX7_stepDown_8 : decode cX7_stepDown 8 = .ok (.invokevirtual 59, 3) := by decide +kernel
theorem dX7_stepDown_11 : decode cX7_stepDown 11 = .ok (.if_icmp .ge 65, 3) := by decide +kernel
theorem dX7_stepDown_14 : decode cX7_stepDown 14 = .ok (.aload_n 0, 1) := by decide +kernel
theorem dX7_stepDown_15 : decode cX7_stepDown 15 = .ok (.getfield 27, 3) := by decide +kernel
theorem dX7_stepDown_18 : decode cX7_stepDown 18 = .ok (.iload_n 1, 1) := by decide +kernel
theorem dX7_stepDown_19 : decode cX7_stepDown 19 = .ok (.iload_n 3, 1) := by decide +kernel
theorem dX7_stepDown_20 : decode cX7_stepDown 20 = .ok (.invokevirtual 63, 3) := by decide +kernel
theorem dX7_stepDown_23 : decode cX7_stepDown 23 = .ok (.istore 4, 2) := by decide +kernel
theorem dX7_stepDown_25 : decode cX7_stepDown 25 = .ok (.aload_n 0, 1) := by decide +kernel
theorem dX7_stepDown_26 : decode cX7_stepDown 26 = .ok (.getfield 27, 3) := by decide +kernel
theorem dX7_stepDown_29 : decode cX7_stepDown 29 = .ok (.iload 4, 2) := by decide +kernel
theorem dX7_stepDown_31 : decode cX7_stepDown 31 = .ok (.invokevirtual 67, 3) := by decide +kernel
theorem dX7_stepDown_34 : decode cX7_stepDown 34 = .ok (.ifCond .ne 36, 3) := by decide +kernel
theorem dX7_stepDown_37 : decode cX7_stepDown 37 = .ok (.aload_n 0, 1) := by decide +kernel
theorem dX7_stepDown_38 : decode cX7_stepDown 38 = .ok (.aload_n 0, 1) := by decide +kernel
theorem dX7_stepDown_39 : decode cX7_stepDown 39 = .ok (.getfield 27, 3) := by decide +kernel
theorem dX7_stepDown_42 : decode cX7_stepDown 42 = .ok (.iload 4, 2) := by decide +kernel
theorem dX7_stepDown_44 : decode cX7_stepDown 44 = .ok (.invokevirtual 76, 3) := by decide +kernel
theorem dX7_stepDown_47 : decode cX7_stepDown 47 = .ok (.invokevirtual 89, 3) := by decide +kernel
theorem dX7_stepDown_50 : decode cX7_stepDown 50 = .ok (.iload_n 2, 1) := by decide +kernel
theorem dX7_stepDown_51 : decode cX7_stepDown 51 = .ok (.if_icmp .ne 19, 3) := by decide +kernel
theorem dX7_stepDown_54 : decode cX7_stepDown 54 = .ok (.aload_n 0, 1) := by decide +kernel
theorem dX7_stepDown_55 : decode cX7_stepDown 55 = .ok (.aload_n 0, 1) := by decide +kernel
theorem dX7_stepDown_56 : decode cX7_stepDown 56 = .ok (.getfield 27, 3) := by decide +kernel
theorem dX7_stepDown_59 : decode cX7_stepDown 59 = .ok (.iload 4, 2) := by decide +kernel
theorem dX7_stepDown_61 : decode cX7_stepDown 61 = .ok (.invokevirtual 70, 3) := by decide +kernel
theorem dX7_stepDown_64 : decode cX7_stepDown 64 = .ok (.iload_n 2, 1) := by decide +kernel
theorem dX7_stepDown_65 : decode cX7_stepDown 65 = .ok (.iconst 1, 1) := by decide +kernel
theorem dX7_stepDown_66 : decode cX7_stepDown 66 = .ok (.iadd, 1) := by decide +kernel
theorem dX7_stepDown_67 : decode cX7_stepDown 67 = .ok (.invokevirtual 79, 3) := by decide +kernel
theorem dX7_stepDown_70 : decode cX7_stepDown 70 = .ok (.iinc 3 1, 3) := by decide +kernel
theorem dX7_stepDown_73 : decode cX7_stepDown 73 = .ok (.goto (-71), 3) := by decide +kernel
theorem dX7_stepDown_76 : decode cX7_stepDown 76 = .ok (.return_, 1) := by decide +kernel
theorem dX7_reach_0 : decode cX7_reach 0 = .ok (.aload_n 0, 1) := by decide +kernel
theorem dX7_reach_1 : decode cX7_reach 1 = .ok (.getfield 19, 3) := by decide +kernel
theorem dX7_reach_4 : decode cX7_reach 4 = .ok (.iload_n 1, 1) := by decide +kernel
theorem dX7_reach_5 : decode cX7_reach 5 = .ok (.invokevirtual 43, 3) := by decide +kernel
theorem dX7_reach_8 : decode cX7_reach 8 = .ok (.ifCond .eq 19, 3) := by decide +kernel
theorem dX7_reach_11 : decode cX7_reach 11 = .ok (.aload_n 0, 1) := by decide +kernel
theorem dX7_reach_12 : decode cX7_reach 12 = .ok (.getfield 9, 3) := by decide +kernel
theorem dX7_reach_15 : decode cX7_reach 15 = .ok (.iload_n 1, 1) := by decide +kernel
theorem dX7_reach_16 : decode cX7_reach 16 = .ok (.iaload, 1) := by decide +kernel
theorem dX7_reach_17 : decode cX7_reach 17 = .ok (.ifCond .ne 10, 3) := by decide +kernel
theorem dX7_reach_20 : decode cX7_reach 20 = .ok (.aload_n 0, 1) := by decide +kernel
theorem dX7_reach_21 : decode cX7_reach 21 = .ok (.getfield 9, 3) := by decide +kernel
theorem dX7_reach_24 : decode cX7_reach 24 = .ok (.iload_n 1, 1) := by decide +kernel
theorem dX7_reach_25 : decode cX7_reach 25 = .ok (.iload_n 2, 1) := by decide +kernel
theorem dX7_reach_26 : decode cX7_reach 26 = .ok (.iastore, 1) := by decide +kernel
theorem dX7_reach_27 : decode cX7_reach 27 = .ok (.return_, 1) := by decide +kernel
theorem dX8_init_0 : decode cX8_init 0 = .ok (.aload_n 0, 1) := by decide +kernel
theorem dX8_init_1 : decode cX8_init 1 = .ok (.invokespecial 3, 3) := by decide +kernel
theorem dX8_init_4 : decode cX8_init 4 = .ok (.aload_n 0, 1) := by decide +kernel
theorem dX8_init_5 : decode cX8_init 5 = .ok (.bipush 85, 2) := by decide +kernel
theorem dX8_init_7 : decode cX8_init 7 = .ok (.newarray .int, 2) := by decide +kernel
theorem dX8_init_9 : decode cX8_init 9 = .ok (.putfield 9, 3) := by decide +kernel
theorem dX8_init_12 : decode cX8_init 12 = .ok (.aload_n 0, 1) := by decide +kernel
theorem dX8_init_13 : decode cX8_init 13 = .ok (.bipush 64, 2) := by decide +kernel
theorem dX8_init_15 : decode cX8_init 15 = .ok (.newarray .int, 2) := by decide +kernel
theorem dX8_init_17 : decode cX8_init 17 = .ok (.putfield 15, 3) := by decide +kernel
theorem dX8_init_20 : decode cX8_init 20 = .ok (.aload_n 0, 1) := by decide +kernel
theorem dX8_init_21 : decode cX8_init 21 = .ok (.bipush 64, 2) := by decide +kernel
theorem dX8_init_23 : decode cX8_init 23 = .ok (.newarray .int, 2) := by decide +kernel
theorem dX8_init_25 : decode cX8_init 25 = .ok (.putfield 18, 3) := by decide +kernel
theorem dX8_init_28 : decode cX8_init 28 = .ok (.aload_n 0, 1) := by decide +kernel
theorem dX8_init_29 : decode cX8_init 29 = .ok (.bipush 64, 2) := by decide +kernel
theorem dX8_init_31 : decode cX8_init 31 = .ok (.newarray .boolean, 2) := by decide +kernel
theorem dX8_init_33 : decode cX8_init 33 = .ok (.putfield 21, 3) := by decide +kernel
theorem dX8_init_36 : decode cX8_init 36 = .ok (.aload_n 0, 1) := by decide +kernel
theorem dX8_init_37 : decode cX8_init 37 = .ok (.aload_n 1, 1) := by decide +kernel
theorem dX8_init_38 : decode cX8_init 38 = .ok (.putfield 25, 3) := by decide +kernel
theorem dX8_init_41 : decode cX8_init 41 = .ok (.aload_n 0, 1) := by decide +kernel
theorem dX8_init_42 : decode cX8_init 42 = .ok (.aload_n 2, 1) := by decide +kernel
theorem dX8_init_43 : decode cX8_init 43 = .ok (.putfield 29, 3) := by decide +kernel
theorem dX8_init_46 : decode cX8_init 46 = .ok (.return_, 1) := by decide +kernel
theorem dX8_begin_0 : decode cX8_begin 0 = .ok (.aload_n 0, 1) := by decide +kernel
theorem dX8_begin_1 : decode cX8_begin 1 = .ok (.getfield 9, 3) := by decide +kernel
theorem dX8_begin_4 : decode cX8_begin 4 = .ok (.iconst 0, 1) := by decide +kernel
theorem dX8_begin_5 : decode cX8_begin 5 = .ok (.invokestatic 33, 3) := by decide +kernel
theorem dX8_begin_8 : decode cX8_begin 8 = .ok (.aload_n 0, 1) := by decide +kernel
theorem dX8_begin_9 : decode cX8_begin 9 = .ok (.getfield 15, 3) := by decide +kernel
theorem dX8_begin_12 : decode cX8_begin 12 = .ok (.iconst (-1), 1) := by decide +kernel
theorem dX8_begin_13 : decode cX8_begin 13 = .ok (.invokestatic 33, 3) := by decide +kernel
theorem dX8_begin_16 : decode cX8_begin 16 = .ok (.aload_n 0, 1) := by decide +kernel
theorem dX8_begin_17 : decode cX8_begin 17 = .ok (.getfield 18, 3) := by decide +kernel
theorem dX8_begin_20 : decode cX8_begin 20 = .ok (.iconst (-1), 1) := by decide +kernel
theorem dX8_begin_21 : decode cX8_begin 21 = .ok (.invokestatic 33, 3) := by decide +kernel
theorem dX8_begin_24 : decode cX8_begin 24 = .ok (.aload_n 0, 1) := by decide +kernel
theorem dX8_begin_25 : decode cX8_begin 25 = .ok (.iconst 0, 1) := by decide +kernel
theorem dX8_begin_26 : decode cX8_begin 26 = .ok (.bipush 64, 2) := by decide +kernel
theorem dX8_begin_28 : decode cX8_begin 28 = .ok (.invokevirtual 39, 3) := by decide +kernel
theorem dX8_begin_31 : decode cX8_begin 31 = .ok (.aload_n 0, 1) := by decide +kernel
theorem dX8_begin_32 : decode cX8_begin 32 = .ok (.iconst 0, 1) := by decide +kernel
theorem dX8_begin_33 : decode cX8_begin 33 = .ok (.invokevirtual 43, 3) := by decide +kernel
theorem dX8_begin_36 : decode cX8_begin 36 = .ok (.return_, 1) := by decide +kernel
theorem dX8_keyOf_0 : decode cX8_keyOf 0 = .ok (.iload_n 1, 1) := by decide +kernel
theorem dX8_keyOf_1 : decode cX8_keyOf 1 = .ok (.invokestatic 47, 3) := by decide +kernel
theorem dX8_keyOf_4 : decode cX8_keyOf 4 = .ok (.ifCond .eq 12, 3) := by decide +kernel
theorem dX8_keyOf_7 : decode cX8_keyOf 7 = .ok (.aload_n 0, 1) := by decide +kernel
theorem dX8_keyOf_8 : decode cX8_keyOf 8 = .ok (.getfield 9, 3) := by decide +kernel
theorem dX8_keyOf_11 : decode cX8_keyOf 11 = .ok (.iload_n 1, 1) := by decide +kernel
theorem dX8_keyOf_12 : decode cX8_keyOf 12 = .ok (.iaload, 1) := by decide +kernel
theorem dX8_keyOf_13 : decode cX8_keyOf 13 = .ok (.goto 4, 3) := by decide +kernel
theorem dX8_keyOf_16 : decode cX8_keyOf 16 = .ok (.iconst 0, 1) := by decide +kernel
theorem dX8_keyOf_17 : decode cX8_keyOf 17 = .ok (.ireturn, 1) := by decide +kernel
theorem dX8_hasNode_0 : decode cX8_hasNode 0 = .ok (.aload_n 0, 1) := by decide +kernel
theorem dX8_hasNode_1 : decode cX8_hasNode 1 = .ok (.iload_n 1, 1) := by decide +kernel
theorem dX8_hasNode_2 : decode cX8_hasNode 2 = .ok (.invokevirtual 51, 3) := by decide +kernel
theorem dX8_hasNode_5 : decode cX8_hasNode 5 = .ok (.ifCond .eq 7, 3) := by decide +kernel
theorem dX8_hasNode_8 : decode cX8_hasNode 8 = .ok (.iconst 1, 1) := by decide +kernel
theorem dX8_hasNode_9 : decode cX8_hasNode 9 = .ok (.goto 4, 3) := by decide +kernel
theorem dX8_hasNode_12 : decode cX8_hasNode 12 = .ok (.iconst 0, 1) := by decide +kernel
theorem dX8_hasNode_13 : decode cX8_hasNode 13 = .ok (.ireturn, 1) := by decide +kernel
theorem dX8_recordOn_0 : decode cX8_recordOn 0 = .ok (.iload_n 1, 1) := by decide +kernel
theorem dX8_recordOn_1 : decode cX8_recordOn 1 = .ok (.invokestatic 55, 3) := by decide +kernel
theorem dX8_recordOn_4 : decode cX8_recordOn 4 = .ok (.ifCond .eq 12, 3) := by decide +kernel
theorem dX8_recordOn_7 : decode cX8_recordOn 7 = .ok (.aload_n 0, 1) := by decide +kernel
theorem dX8_recordOn_8 : decode cX8_recordOn 8 = .ok (.getfield 15, 3) := by decide +kernel
theorem dX8_recordOn_11 : decode cX8_recordOn 11 = .ok (.iload_n 1, 1) := by decide +kernel
theorem dX8_recordOn_12 : decode cX8_recordOn 12 = .ok (.iaload, 1) := by decide +kernel
theorem dX8_recordOn_13 : decode cX8_recordOn 13 = .ok (.goto 4, 3) := by decide +kernel
theorem dX8_recordOn_16 : decode cX8_recordOn 16 = .ok (.iconst (-1), 1) := by decide +kernel
theorem dX8_recordOn_17 : decode cX8_recordOn 17 = .ok (.ireturn, 1) := by decide +kernel
theorem dX8_dueDayOn_0 : decode cX8_dueDayOn 0 = .ok (.iload_n 1, 1) := by decide +kernel
theorem dX8_dueDayOn_1 : decode cX8_dueDayOn 1 = .ok (.invokestatic 55, 3) := by decide +kernel
theorem dX8_dueDayOn_4 : decode cX8_dueDayOn 4 = .ok (.ifCond .eq 12, 3) := by decide +kernel
theorem dX8_dueDayOn_7 : decode cX8_dueDayOn 7 = .ok (.aload_n 0, 1) := by decide +kernel
theorem dX8_dueDayOn_8 : decode cX8_dueDayOn 8 = .ok (.getfield 18, 3) := by decide +kernel
theorem dX8_dueDayOn_11 : decode cX8_dueDayOn 11 = .ok (.iload_n 1, 1) := by decide +kernel
theorem dX8_dueDayOn_12 : decode cX8_dueDayOn 12 = .ok (.iaload, 1) := by decide +kernel
theorem dX8_dueDayOn_13 : decode cX8_dueDayOn 13 = .ok (.goto 4, 3) := by decide +kernel
theorem dX8_dueDayOn_16 : decode cX8_dueDayOn 16 = .ok (.iconst (-1), 1) := by decide +kernel
theorem dX8_dueDayOn_17 : decode cX8_dueDayOn 17 = .ok (.ireturn, 1) := by decide +kernel
theorem dX8_isDue_0 : decode cX8_isDue 0 = .ok (.aload_n 0, 1) := by decide +kernel
theorem dX8_isDue_1 : decode cX8_isDue 1 = .ok (.iload_n 1, 1) := by decide +kernel
theorem dX8_isDue_2 : decode cX8_isDue 2 = .ok (.invokevirtual 58, 3) := by decide +kernel
theorem dX8_isDue_5 : decode cX8_isDue 5 = .ok (.istore_n 3, 1) := by decide +kernel
theorem dX8_isDue_6 : decode cX8_isDue 6 = .ok (.iload_n 3, 1) := by decide +kernel
theorem dX8_isDue_7 : decode cX8_isDue 7 = .ok (.iconst (-1), 1) := by decide +kernel
theorem dX8_isDue_8 : decode cX8_isDue 8 = .ok (.if_icmp .eq 12, 3) := by decide +kernel
theorem dX8_isDue_11 : decode cX8_isDue 11 = .ok (.iload_n 3, 1) := by decide +kernel
theorem dX8_isDue_12 : decode cX8_isDue 12 = .ok (.iload_n 2, 1) := by decide +kernel
theorem dX8_isDue_13 : decode cX8_isDue 13 = .ok (.if_icmp .gt 7, 3) := by decide +kernel
theorem dX8_isDue_16 : decode cX8_isDue 16 = .ok (.iconst 1, 1) := by decide +kernel
theorem dX8_isDue_17 : decode cX8_isDue 17 = .ok (.goto 4, 3) := by decide +kernel
theorem dX8_isDue_20 : decode cX8_isDue 20 = .ok (.iconst 0, 1) := by decide +kernel
theorem dX8_isDue_21 : decode cX8_isDue 21 = .ok (.ireturn, 1) := by decide +kernel
theorem dX8_isMarked_0 : decode cX8_isMarked 0 = .ok (.iload_n 1, 1) := by decide +kernel
theorem dX8_isMarked_1 : decode cX8_isMarked 1 = .ok (.invokestatic 55, 3) := by decide +kernel
theorem dX8_isMarked_4 : decode cX8_isMarked 4 = .ok (.ifCond .eq 16, 3) := by decide +kernel
theorem dX8_isMarked_7 : decode cX8_isMarked 7 = .ok (.aload_n 0, 1) := by decide +kernel
theorem dX8_isMarked_8 : decode cX8_isMarked 8 = .ok (.getfield 21, 3) := by decide +kernel
theorem dX8_isMarked_11 : decode cX8_isMarked 11 = .ok (.iload_n 1, 1) := by decide +kernel
theorem dX8_isMarked_12 : decode cX8_isMarked 12 = .ok (.baload, 1) := by decide +kernel
theorem dX8_isMarked_13 : decode cX8_isMarked 13 = .ok (.ifCond .eq 7, 3) := by decide +kernel
theorem dX8_isMarked_16 : decode cX8_isMarked 16 = .ok (.iconst 1, 1) := by decide +kernel
theorem dX8_isMarked_17 : decode cX8_isMarked 17 = .ok (.goto 4, 3) := by decide +kernel
theorem dX8_isMarked_20 : decode cX8_isMarked 20 = .ok (.iconst 0, 1) := by decide +kernel
theorem dX8_isMarked_21 : decode cX8_isMarked 21 = .ok (.ireturn, 1) := by decide +kernel
theorem dX8_putRecord_0 : decode cX8_putRecord 0 = .ok (.iload_n 1, 1) := by decide +kernel
theorem dX8_putRecord_1 : decode cX8_putRecord 1 = .ok (.invokestatic 55, 3) := by decide +kernel
theorem dX8_putRecord_4 : decode cX8_putRecord 4 = .ok (.ifCond .eq 10, 3) := by decide +kernel
theorem dX8_putRecord_7 : decode cX8_putRecord 7 = .ok (.aload_n 0, 1) := by decide +kernel
theorem dX8_putRecord_8 : decode cX8_putRecord 8 = .ok (.getfield 15, 3) := by decide +kernel
theorem dX8_putRecord_11 : decode cX8_putRecord 11 = .ok (.iload_n 1, 1) := by decide +kernel
theorem dX8_putRecord_12 : decode cX8_putRecord 12 = .ok (.iload_n 2, 1) := by decide +kernel
theorem dX8_putRecord_13 : decode cX8_putRecord 13 = .ok (.iastore, 1) := by decide +kernel
theorem dX8_putRecord_14 : decode cX8_putRecord 14 = .ok (.return_, 1) := by decide +kernel
theorem dX8_setDueDay_0 : decode cX8_setDueDay 0 = .ok (.iload_n 1, 1) := by decide +kernel
theorem dX8_setDueDay_1 : decode cX8_setDueDay 1 = .ok (.invokestatic 55, 3) := by decide +kernel
theorem dX8_setDueDay_4 : decode cX8_setDueDay 4 = .ok (.ifCond .eq 10, 3) := by decide +kernel
theorem dX8_setDueDay_7 : decode cX8_setDueDay 7 = .ok (.aload_n 0, 1) := by decide +kernel
theorem dX8_setDueDay_8 : decode cX8_setDueDay 8 = .ok (.getfield 18, 3) := by decide +kernel
theorem dX8_setDueDay_11 : decode cX8_setDueDay 11 = .ok (.iload_n 1, 1) := by decide +kernel
theorem dX8_setDueDay_12 : decode cX8_setDueDay 12 = .ok (.iload_n 2, 1) := by decide +kernel
theorem dX8_setDueDay_13 : decode cX8_setDueDay 13 = .ok (.iastore, 1) := by decide +kernel
theorem dX8_setDueDay_14 : decode cX8_setDueDay 14 = .ok (.return_, 1) := by decide +kernel
theorem dX8_setMark_0 : decode cX8_setMark 0 = .ok (.iload_n 1, 1) := by decide +kernel
theorem dX8_setMark_1 : decode cX8_setMark 1 = .ok (.invokestatic 55, 3) := by decide +kernel
theorem dX8_setMark_4 : decode cX8_setMark 4 = .ok (.ifCond .eq 10, 3) := by decide +kernel
theorem dX8_setMark_7 : decode cX8_setMark 7 = .ok (.aload_n 0, 1) := by decide +kernel
theorem dX8_setMark_8 : decode cX8_setMark 8 = .ok (.getfield 21, 3) := by decide +kernel
theorem dX8_setMark_11 : decode cX8_setMark 11 = .ok (.iload_n 1, 1) := by decide +kernel
theorem dX8_setMark_12 : decode cX8_setMark 12 = .ok (.iload_n 2, 1) := by decide +kernel
theorem dX8_setMark_13 : decode cX8_setMark 13 = .ok (.bastore, 1) := by decide +kernel
theorem dX8_setMark_14 : decode cX8_setMark 14 = .ok (.return_, 1) := by decide +kernel
theorem dX8_unmark_0 : decode cX8_unmark 0 = .ok (.iload_n 1, 1) := by decide +kernel
theorem dX8_unmark_1 : decode cX8_unmark 1 = .ok (.istore_n 3, 1) := by decide +kernel
theorem dX8_unmark_2 : decode cX8_unmark 2 = .ok (.iload_n 3, 1) := by decide +kernel
theorem dX8_unmark_3 : decode cX8_unmark 3 = .ok (.iload_n 2, 1) := by decide +kernel
theorem dX8_unmark_4 : decode cX8_unmark 4 = .ok (.if_icmp .ge 15, 3) := by decide +kernel
theorem dX8_unmark_7 : decode cX8_unmark 7 = .ok (.aload_n 0, 1) := by decide +kernel
theorem dX8_unmark_8 : decode cX8_unmark 8 = .ok (.iload_n 3, 1) := by decide +kernel
theorem dX8_unmark_9 : decode cX8_unmark 9 = .ok (.iconst 0, 1) := by decide +kernel
theorem dX8_unmark_10 : decode cX8_unmark 10 = .ok (.invokevirtual 61, 3) := by decide +kernel
theorem dX8_unmark_13 : decode cX8_unmark 13 = .ok (.iinc 3 1, 3) := by decide +kernel
theorem dX8_unmark_16 : decode cX8_unmark 16 = .ok (.goto (-14), 3) := by decide +kernel
theorem dX8_unmark_19 : decode cX8_unmark 19 = .ok (.return_, 1) := by decide +kernel
theorem dX8_countMarks_0 : decode cX8_countMarks 0 = .ok (.iconst 0, 1) := by decide +kernel
theorem dX8_countMarks_1 : decode cX8_countMarks 1 = .ok (.istore_n 1, 1) := by decide +kernel
theorem dX8_countMarks_2 : decode cX8_countMarks 2 = .ok (.iconst 0, 1) := by decide +kernel
theorem dX8_countMarks_3 : decode cX8_countMarks 3 = .ok (.istore_n 2, 1) := by decide +kernel
theorem dX8_countMarks_4 : decode cX8_countMarks 4 = .ok (.iload_n 2, 1) := by decide +kernel
theorem dX8_countMarks_5 : decode cX8_countMarks 5 = .ok (.bipush 64, 2) := by decide +kernel
theorem dX8_countMarks_7 : decode cX8_countMarks 7 = .ok (.if_icmp .ge 21, 3) := by decide +kernel
theorem dX8_countMarks_10 : decode cX8_countMarks 10 = .ok (.aload_n 0, 1) := by decide +kernel
theorem dX8_countMarks_11 : decode cX8_countMarks 11 = .ok (.getfield 21, 3) := by decide +kernel
theorem dX8_countMarks_14 : decode cX8_countMarks 14 = .ok (.iload_n 2, 1) := by decide +kernel
theorem dX8_countMarks_15 : decode cX8_countMarks 15 = .ok (.baload, 1) := by decide +kernel
theorem dX8_countMarks_16 : decode cX8_countMarks 16 = .ok (.ifCond .eq 6, 3) := by decide +kernel
theorem dX8_countMarks_19 : decode cX8_countMarks 19 = .ok (.iinc 1 1, 3) := by decide +kernel
theorem dX8_countMarks_22 : decode cX8_countMarks 22 = .ok (.iinc 2 1, 3) := by decide +kernel
theorem dX8_countMarks_25 : decode cX8_countMarks 25 = .ok (.goto (-21), 3) := by decide +kernel
theorem dX8_countMarks_28 : decode cX8_countMarks 28 = .ok (.iload_n 1, 1) := by decide +kernel
theorem dX8_countMarks_29 : decode cX8_countMarks 29 = .ok (.ireturn, 1) := by decide +kernel
theorem dX8_countRecords_0 : decode cX8_countRecords 0 = .ok (.iconst 0, 1) := by decide +kernel
theorem dX8_countRecords_1 : decode cX8_countRecords 1 = .ok (.istore_n 3, 1) := by decide +kernel
theorem dX8_countRecords_2 : decode cX8_countRecords 2 = .ok (.iload_n 1, 1) := by decide +kernel
theorem dX8_countRecords_3 : decode cX8_countRecords 3 = .ok (.istore 4, 2) := by decide +kernel
theorem dX8_countRecords_5 : decode cX8_countRecords 5 = .ok (.iload 4, 2) := by decide +kernel
theorem dX8_countRecords_7 : decode cX8_countRecords 7 = .ok (.iload_n 2, 1) := by decide +kernel
theorem dX8_countRecords_8 : decode cX8_countRecords 8 = .ok (.if_icmp .ge 22, 3) := by decide +kernel
theorem dX8_countRecords_11 : decode cX8_countRecords 11 = .ok (.aload_n 0, 1) := by decide +kernel
theorem dX8_countRecords_12 : decode cX8_countRecords 12 = .ok (.iload 4, 2) := by decide +kernel
theorem dX8_countRecords_14 : decode cX8_countRecords 14 = .ok (.invokevirtual 65, 3) := by decide +kernel
theorem dX8_countRecords_17 : decode cX8_countRecords 17 = .ok (.iconst (-1), 1) := by decide +kernel
theorem dX8_countRecords_18 : decode cX8_countRecords 18 = .ok (.if_icmp .eq 6, 3) := by decide +kernel
theorem dX8_countRecords_21 : decode cX8_countRecords 21 = .ok (.iinc 3 1, 3) := by decide +kernel
theorem dX8_countRecords_24 : decode cX8_countRecords 24 = .ok (.iinc 4 1, 3) := by decide +kernel
theorem dX8_countRecords_27 : decode cX8_countRecords 27 = .ok (.goto (-22), 3) := by decide +kernel
theorem dX8_countRecords_30 : decode cX8_countRecords 30 = .ok (.iload_n 3, 1) := by decide +kernel
theorem dX8_countRecords_31 : decode cX8_countRecords 31 = .ok (.ireturn, 1) := by decide +kernel
theorem dX8_countChildren_0 : decode cX8_countChildren 0 = .ok (.iload_n 1, 1) := by decide +kernel
theorem dX8_countChildren_1 : decode cX8_countChildren 1 = .ok (.invokestatic 68, 3) := by decide +kernel
theorem dX8_countChildren_4 : decode cX8_countChildren 4 = .ok (.istore_n 2, 1) := by decide +kernel
theorem dX8_countChildren_5 : decode cX8_countChildren 5 = .ok (.iconst 0, 1) := by decide +kernel
theorem dX8_countChildren_6 : decode cX8_countChildren 6 = .ok (.istore_n 3, 1) := by decide +kernel
theorem dX8_countChildren_7 : decode cX8_countChildren 7 = .ok (.iload_n 2, 1) := by decide +kernel
theorem dX8_countChildren_8 : decode cX8_countChildren 8 = .ok (.istore 4, 2) := by decide +kernel
theorem dX8_countChildren_10 : decode cX8_countChildren 10 = .ok (.iload 4, 2) := by decide +kernel
theorem dX8_countChildren_12 : decode cX8_countChildren 12 = .ok (.iload_n 2, 1) := by decide +kernel
theorem dX8_countChildren_13 : decode cX8_countChildren 13 = .ok (.iconst 4, 1) := by decide +kernel
theorem dX8_countChildren_14 : decode cX8_countChildren 14 = .ok (.iadd, 1) := by decide +kernel
theorem dX8_countChildren_15 : decode cX8_countChildren 15 = .ok (.if_icmp .ge 21, 3) := by decide +kernel
theorem dX8_countChildren_18 : decode cX8_countChildren 18 = .ok (.aload_n 0, 1) := by decide +kernel
theorem dX8_countChildren_19 : decode cX8_countChildren 19 = .ok (.iload 4, 2) := by decide +kernel
theorem dX8_countChildren_21 : decode cX8_countChildren 21 = .ok (.invokevirtual 71, 3) := by decide +kernel
theorem dX8_countChildren_24 : decode cX8_countChildren 24 = .ok (.ifCond .eq 6, 3) := by decide +kernel
theorem dX8_countChildren_27 : decode cX8_countChildren 27 = .ok (.iinc 3 1, 3) := by decide +kernel
theorem dX8_countChildren_30 : decode cX8_countChildren 30 = .ok (.iinc 4 1, 3) := by decide +kernel
theorem dX8_countChildren_33 : decode cX8_countChildren 33 = .ok (.goto (-23), 3) := by decide +kernel
theorem dX8_countChildren_36 : decode cX8_countChildren 36 = .ok (.iload_n 3, 1) := by decide +kernel
theorem dX8_countChildren_37 : decode cX8_countChildren 37 = .ok (.ireturn, 1) := by decide +kernel
theorem dX8_emptyOnWayTo_0 : decode cX8_emptyOnWayTo 0 = .ok (.iconst 0, 1) := by decide +kernel
theorem dX8_emptyOnWayTo_1 : decode cX8_emptyOnWayTo 1 = .ok (.istore_n 2, 1) := by decide +kernel
theorem dX8_emptyOnWayTo_2 : decode cX8_emptyOnWayTo 2 = .ok (.iload_n 1, 1) := by decide +kernel
theorem dX8_emptyOnWayTo_3 : decode cX8_emptyOnWayTo 3 = .ok (.invokestatic 74, 3) := by decide +kernel
theorem dX8_emptyOnWayTo_6 : decode cX8_emptyOnWayTo 6 = .ok (.istore_n 3, 1) := by decide +kernel
theorem dX8_emptyOnWayTo_7 : decode cX8_emptyOnWayTo 7 = .ok (.iload_n 3, 1) := by decide +kernel
theorem dX8_emptyOnWayTo_8 : decode cX8_emptyOnWayTo 8 = .ok (.ifCond .le 24, 3) := by decide +kernel
theorem dX8_emptyOnWayTo_11 : decode cX8_emptyOnWayTo 11 = .ok (.aload_n 0, 1) := by decide +kernel
theorem dX8_emptyOnWayTo_12 : decode cX8_emptyOnWayTo 12 = .ok (.iload_n 1, 1) := by decide +kernel
theorem dX8_emptyOnWayTo_13 : decode cX8_emptyOnWayTo 13 = .ok (.iload_n 3, 1) := by decide +kernel
theorem dX8_emptyOnWayTo_14 : decode cX8_emptyOnWayTo 14 = .ok (.invokestatic 77, 3) := by decide +kernel
theorem dX8_emptyOnWayTo_17 : decode cX8_emptyOnWayTo 17 = .ok (.invokevirtual 71, 3) := by decide +kernel
theorem dX8_emptyOnWayTo_20 : decode cX8_emptyOnWayTo 20 = .ok (.ifCond .ne 6, 3) := by decide +kernel
theorem dX8_emptyOnWayTo_23 : decode cX8_emptyOnWayTo 23 = .ok (.iinc 2 1, 3) := by decide +kernel
theorem dX8_emptyOnWayTo_26 : decode cX8_emptyOnWayTo 26 = .ok (.iinc 3 (-1), 3) := by decide +kernel
theorem dX8_emptyOnWayTo_29 : decode cX8_emptyOnWayTo 29 = .ok (.goto (-22), 3) := by decide +kernel
theorem dX8_emptyOnWayTo_32 : decode cX8_emptyOnWayTo 32 = .ok (.iload_n 2, 1) := by decide +kernel
theorem dX8_emptyOnWayTo_33 : decode cX8_emptyOnWayTo 33 = .ok (.ireturn, 1) := by decide +kernel
theorem dX8_renew_0 : decode cX8_renew 0 = .ok (.iload_n 1, 1) := by decide +kernel
theorem dX8_renew_1 : decode cX8_renew 1 = .ok (.invokestatic 47, 3) := by decide +kernel
theorem dX8_renew_4 : decode cX8_renew 4 = .ok (.ifCond .eq 31, 3) := by decide +kernel
theorem dX8_renew_7 : decode cX8_renew 7 = .ok (.aload_n 0, 1) := by decide +kernel
theorem dX8_renew_8 : decode cX8_renew 8 = .ok (.getfield 25, 3) := by decide +kernel
theorem dX8_renew_11 : decode cX8_renew 11 = .ok (.aload_n 0, 1) := by decide +kernel
theorem dX8_renew_12 : decode cX8_renew 12 = .ok (.getfield 9, 3) := by decide +kernel
theorem dX8_renew_15 : decode cX8_renew 15 = .ok (.iload_n 1, 1) := by decide +kernel
theorem dX8_renew_16 : decode cX8_renew 16 = .ok (.iaload, 1) := by decide +kernel
theorem dX8_renew_17 : decode cX8_renew 17 = .ok (.iconst (-1), 1) := by decide +kernel
theorem dX8_renew_18 : decode cX8_renew 18 = .ok (.invokevirtual 81, 3) := by decide +kernel
theorem dX8_renew_21 : decode cX8_renew 21 = .ok (.aload_n 0, 1) := by decide +kernel
theorem dX8_renew_22 : decode cX8_renew 22 = .ok (.getfield 9, 3) := by decide +kernel
theorem dX8_renew_25 : decode cX8_renew 25 = .ok (.iload_n 1, 1) := by decide +kernel
theorem dX8_renew_26 : decode cX8_renew 26 = .ok (.aload_n 0, 1) := by decide +kernel
theorem dX8_renew_27 : decode cX8_renew 27 = .ok (.getfield 25, 3) := by decide +kernel
theorem dX8_renew_30 : decode cX8_renew 30 = .ok (.iload_n 1, 1) := by decide +kernel
theorem dX8_renew_31 : decode cX8_renew 31 = .ok (.invokevirtual 86, 3) := by decide +kernel
theorem dX8_renew_34 : decode cX8_renew 34 = .ok (.iastore, 1) := by decide +kernel
theorem dX8_renew_35 : decode cX8_renew 35 = .ok (.return_, 1) := by decide +kernel
theorem dX8_moveNodes_0 : decode cX8_moveNodes 0 = .ok (.iload_n 1, 1) := by decide +kernel
theorem dX8_moveNodes_1 : decode cX8_moveNodes 1 = .ok (.istore_n 3, 1) := by decide +kernel
theorem dX8_moveNodes_2 : decode cX8_moveNodes 2 = .ok (.iload_n 2, 1) := by decide +kernel
theorem dX8_moveNodes_3 : decode cX8_moveNodes 3 = .ok (.istore 4, 2) := by decide +kernel
theorem dX8_moveNodes_5 : decode cX8_moveNodes 5 = .ok (.iconst 1, 1) := by decide +kernel
theorem dX8_moveNodes_6 : decode cX8_moveNodes 6 = .ok (.istore 5, 2) := by decide +kernel
theorem dX8_moveNodes_8 : decode cX8_moveNodes 8 = .ok (.iload_n 1, 1) := by decide +kernel
theorem dX8_moveNodes_9 : decode cX8_moveNodes 9 = .ok (.invokestatic 74, 3) := by decide +kernel
theorem dX8_moveNodes_12 : decode cX8_moveNodes 12 = .ok (.istore 6, 2) := by decide +kernel
theorem dX8_moveNodes_14 : decode cX8_moveNodes 14 = .ok (.iload 6, 2) := by decide +kernel
theorem dX8_moveNodes_16 : decode cX8_moveNodes 16 = .ok (.iconst 3, 1) := by decide +kernel
theorem dX8_moveNodes_17 : decode cX8_moveNodes 17 = .ok (.if_icmp .gt 56, 3) := by decide +kernel
theorem dX8_moveNodes_20 : decode cX8_moveNodes 20 = .ok (.iconst 0, 1) := by decide +kernel
theorem dX8_moveNodes_21 : decode cX8_moveNodes 21 = .ok (.istore 7, 2) := by decide +kernel
theorem dX8_moveNodes_23 : decode cX8_moveNodes 23 = .ok (.iload 7, 2) := by decide +kernel
theorem dX8_moveNodes_25 : decode cX8_moveNodes 25 = .ok (.iload 5, 2) := by decide +kernel
theorem dX8_moveNodes_27 : decode cX8_moveNodes 27 = .ok (.if_icmp .ge 22, 3) := by decide +kernel
theorem dX8_moveNodes_30 : decode cX8_moveNodes 30 = .ok (.aload_n 0, 1) := by decide +kernel
theorem dX8_moveNodes_31 : decode cX8_moveNodes 31 = .ok (.iload_n 3, 1) := by decide +kernel
theorem dX8_moveNodes_32 : decode cX8_moveNodes 32 = .ok (.iload 7, 2) := by decide +kernel
theorem dX8_moveNodes_34 : decode cX8_moveNodes 34 = .ok (.iadd, 1) := by decide +kernel
theorem dX8_moveNodes_35 : decode cX8_moveNodes 35 = .ok (.iload 4, 2) := by decide +kernel
theorem dX8_moveNodes_37 : decode cX8_moveNodes 37 = .ok (.iload 7, 2) := by decide +kernel
theorem dX8_moveNodes_39 : decode cX8_moveNodes 39 = .ok (.iadd, 1) := by decide +kernel
theorem dX8_moveNodes_40 : decode cX8_moveNodes 40 = .ok (.invokevirtual 89, 3) := by decide +kernel
theorem dX8_moveNodes_43 : decode cX8_moveNodes 43 = .ok (.iinc 7 1, 3) := by decide +kernel
theorem dX8_moveNodes_46 : decode cX8_moveNodes 46 = .ok (.goto (-23), 3) := by decide +kernel
theorem dX8_moveNodes_49 : decode cX8_moveNodes 49 = .ok (.iload_n 3, 1) := by decide +kernel
theorem dX8_moveNodes_50 : decode cX8_moveNodes 50 = .ok (.invokestatic 68, 3) := by decide +kernel
theorem dX8_moveNodes_53 : decode cX8_moveNodes 53 = .ok (.istore_n 3, 1) := by decide +kernel
theorem dX8_moveNodes_54 : decode cX8_moveNodes 54 = .ok (.iload 4, 2) := by decide +kernel
theorem dX8_moveNodes_56 : decode cX8_moveNodes 56 = .ok (.invokestatic 68, 3) := by decide +kernel
theorem dX8_moveNodes_59 : decode cX8_moveNodes 59 = .ok (.istore 4, 2) := by decide +kernel
theorem dX8_moveNodes_61 : decode cX8_moveNodes 61 = .ok (.iload 5, 2) := by decide +kernel
theorem dX8_moveNodes_63 : decode cX8_moveNodes 63 = .ok (.iconst 4, 1) := by decide +kernel
theorem dX8_moveNodes_64 : decode cX8_moveNodes 64 = .ok (.imul, 1) := by decide +kernel
theorem dX8_moveNodes_65 : decode cX8_moveNodes 65 = .ok (.istore 5, 2) := by decide +kernel
theorem dX8_moveNodes_67 : decode cX8_moveNodes 67 = .ok (.iinc 6 1, 3) := by decide +kernel
theorem dX8_moveNodes_70 : decode cX8_moveNodes 70 = .ok (.goto (-56), 3) := by decide +kernel
theorem dX8_moveNodes_73 : decode cX8_moveNodes 73 = .ok (.return_, 1) := by decide +kernel
theorem dX8_pruneAbove_0 : decode cX8_pruneAbove 0 = .ok (.iload_n 1, 1) := by decide +kernel
theorem dX8_pruneAbove_1 : decode cX8_pruneAbove 1 = .ok (.invokestatic 74, 3) := by decide +kernel
theorem dX8_pruneAbove_4 : decode cX8_pruneAbove 4 = .ok (.iconst 1, 1) := by decide +kernel
theorem dX8_pruneAbove_5 : decode cX8_pruneAbove 5 = .ok (.isub, 1) := by decide +kernel
theorem dX8_pruneAbove_6 : decode cX8_pruneAbove 6 = .ok (.istore_n 2, 1) := by decide +kernel
theorem dX8_pruneAbove_7 : decode cX8_pruneAbove 7 = .ok (.iload_n 2, 1) := by decide +kernel
theorem dX8_pruneAbove_8 : decode cX8_pruneAbove 8 = .ok (.ifCond .le 28, 3) := by decide +kernel
theorem dX8_pruneAbove_11 : decode cX8_pruneAbove 11 = .ok (.iload_n 1, 1) := by decide +kernel
theorem dX8_pruneAbove_12 : decode cX8_pruneAbove 12 = .ok (.iload_n 2, 1) := by decide +kernel
theorem dX8_pruneAbove_13 : decode cX8_pruneAbove 13 = .ok (.invokestatic 77, 3) := by decide +kernel
theorem dX8_pruneAbove_16 : decode cX8_pruneAbove 16 = .ok (.istore_n 3, 1) := by decide +kernel
theorem dX8_pruneAbove_17 : decode cX8_pruneAbove 17 = .ok (.aload_n 0, 1) := by decide +kernel
theorem dX8_pruneAbove_18 : decode cX8_pruneAbove 18 = .ok (.iload_n 3, 1) := by decide +kernel
theorem dX8_pruneAbove_19 : decode cX8_pruneAbove 19 = .ok (.invokevirtual 92, 3) := by decide +kernel
theorem dX8_pruneAbove_22 : decode cX8_pruneAbove 22 = .ok (.ifCond .ne 8, 3) := by decide +kernel
theorem dX8_pruneAbove_25 : decode cX8_pruneAbove 25 = .ok (.aload_n 0, 1) := by decide +kernel
theorem dX8_pruneAbove_26 : decode cX8_pruneAbove 26 = .ok (.iload_n 3, 1) := by decide +kernel
theorem dX8_pruneAbove_27 : decode cX8_pruneAbove 27 = .ok (.invokevirtual 95, 3) := by decide +kernel
theorem dX8_pruneAbove_30 : decode cX8_pruneAbove 30 = .ok (.iinc 2 (-1), 3) := by decide +kernel
theorem dX8_pruneAbove_33 : decode cX8_pruneAbove 33 = .ok (.goto (-26), 3) := by decide +kernel
theorem dX8_pruneAbove_36 : decode cX8_pruneAbove 36 = .ok (.return_, 1) := by decide +kernel
theorem dX8_clearAllBut_0 : decode cX8_clearAllBut 0 = .ok (.iconst 1, 1) := by decide +kernel
theorem dX8_clearAllBut_1 : decode cX8_clearAllBut 1 = .ok (.istore_n 2, 1) := by decide +kernel
theorem dX8_clearAllBut_2 : decode cX8_clearAllBut 2 = .ok (.iload_n 2, 1) := by decide +kernel
theorem dX8_clearAllBut_3 : decode cX8_clearAllBut 3 = .ok (.bipush 85, 2) := by decide +kernel
theorem dX8_clearAllBut_5 : decode cX8_clearAllBut 5 = .ok (.if_icmp .ge 22, 3) := by decide +kernel
theorem dX8_clearAllBut_8 : decode cX8_clearAllBut 8 = .ok (.aload_n 1, 1) := by decide +kernel
theorem dX8_clearAllBut_9 : decode cX8_clearAllBut 9 = .ok (.iload_n 2, 1) := by decide +kernel
theorem dX8_clearAllBut_10 : decode cX8_clearAllBut 10 = .ok (.invokevirtual 98, 3) := by decide +kernel
theorem dX8_clearAllBut_13 : decode cX8_clearAllBut 13 = .ok (.ifCond .ne 8, 3) := by decide +kernel
theorem dX8_clearAllBut_16 : decode cX8_clearAllBut 16 = .ok (.aload_n 0, 1) := by decide +kernel
theorem dX8_clearAllBut_17 : decode cX8_clearAllBut 17 = .ok (.iload_n 2, 1) := by decide +kernel
theorem dX8_clearAllBut_18 : decode cX8_clearAllBut 18 = .ok (.invokevirtual 95, 3) := by decide +kernel
theorem dX8_clearAllBut_21 : decode cX8_clearAllBut 21 = .ok (.iinc 2 1, 3) := by decide +kernel
theorem dX8_clearAllBut_24 : decode cX8_clearAllBut 24 = .ok (.goto (-22), 3) := by decide +kernel
theorem dX8_clearAllBut_27 : decode cX8_clearAllBut 27 = .ok (.return_, 1) := by decide +kernel
theorem dX8_clear_0 : decode cX8_clear 0 = .ok (.iload_n 1, 1) := by decide +kernel
theorem dX8_clear_1 : decode cX8_clear 1 = .ok (.invokestatic 47, 3) := by decide +kernel
theorem dX8_clear_4 : decode cX8_clear 4 = .ok (.ifCond .ne 4, 3) := by decide +kernel
theorem dX8_clear_7 : decode cX8_clear 7 = .ok (.return_, 1) := by decide +kernel
theorem dX8_clear_8 : decode cX8_clear 8 = .ok (.aload_n 0, 1) := by decide +kernel
theorem dX8_clear_9 : decode cX8_clear 9 = .ok (.getfield 25, 3) := by decide +kernel
theorem dX8_clear_12 : decode cX8_clear 12 = .ok (.aload_n 0, 1) := by decide +kernel
theorem dX8_clear_13 : decode cX8_clear 13 = .ok (.getfield 9, 3) := by decide +kernel
theorem dX8_clear_16 : decode cX8_clear 16 = .ok (.iload_n 1, 1) := by decide +kernel
theorem dX8_clear_17 : decode cX8_clear 17 = .ok (.iaload, 1) := by decide +kernel
theorem dX8_clear_18 : decode cX8_clear 18 = .ok (.iconst (-1), 1) := by decide +kernel
theorem dX8_clear_19 : decode cX8_clear 19 = .ok (.invokevirtual 81, 3) := by decide +kernel
theorem dX8_clear_22 : decode cX8_clear 22 = .ok (.aload_n 0, 1) := by decide +kernel
theorem dX8_clear_23 : decode cX8_clear 23 = .ok (.getfield 9, 3) := by decide +kernel
theorem dX8_clear_26 : decode cX8_clear 26 = .ok (.iload_n 1, 1) := by decide +kernel
theorem dX8_clear_27 : decode cX8_clear 27 = .ok (.iconst 0, 1) := by decide +kernel
theorem dX8_clear_28 : decode cX8_clear 28 = .ok (.iastore, 1) := by decide +kernel
theorem dX8_clear_29 : decode cX8_clear 29 = .ok (.iload_n 1, 1) := by decide +kernel
theorem dX8_clear_30 : decode cX8_clear 30 = .ok (.bipush 21, 2) := by decide +kernel
theorem dX8_clear_32 : decode cX8_clear 32 = .ok (.isub, 1) := by decide +kernel
theorem dX8_clear_33 : decode cX8_clear 33 = .ok (.istore_n 2, 1) := by decide +kernel
theorem dX8_clear_34 : decode cX8_clear 34 = .ok (.iload_n 2, 1) := by decide +kernel
theorem dX8_clear_35 : decode cX8_clear 35 = .ok (.invokestatic 55, 3) := by decide +kernel
theorem dX8_clear_38 : decode cX8_clear 38 = .ok (.ifCond .eq 38, 3) := by decide +kernel
theorem dX8_clear_41 : decode cX8_clear 41 = .ok (.aload_n 0, 1) := by decide +kernel
theorem dX8_clear_42 : decode cX8_clear 42 = .ok (.getfield 29, 3) := by decide +kernel
theorem dX8_clear_45 : decode cX8_clear 45 = .ok (.aload_n 0, 1) := by decide +kernel
theorem dX8_clear_46 : decode cX8_clear 46 = .ok (.getfield 15, 3) := by decide +kernel
theorem dX8_clear_49 : decode cX8_clear 49 = .ok (.iload_n 2, 1) := by decide +kernel
theorem dX8_clear_50 : decode cX8_clear 50 = .ok (.iaload, 1) := by decide +kernel
theorem dX8_clear_51 : decode cX8_clear 51 = .ok (.iconst (-1), 1) := by decide +kernel
theorem dX8_clear_52 : decode cX8_clear 52 = .ok (.invokevirtual 103, 3) := by decide +kernel
theorem dX8_clear_55 : decode cX8_clear 55 = .ok (.aload_n 0, 1) := by decide +kernel
theorem dX8_clear_56 : decode cX8_clear 56 = .ok (.getfield 15, 3) := by decide +kernel
theorem dX8_clear_59 : decode cX8_clear 59 = .ok (.iload_n 2, 1) := by decide +kernel
theorem dX8_clear_60 : decode cX8_clear 60 = .ok (.iconst (-1), 1) := by decide +kernel
theorem dX8_clear_61 : decode cX8_clear 61 = .ok (.iastore, 1) := by decide +kernel
theorem dX8_clear_62 : decode cX8_clear 62 = .ok (.aload_n 0, 1) := by decide +kernel
theorem dX8_clear_63 : decode cX8_clear 63 = .ok (.getfield 18, 3) := by decide +kernel
theorem dX8_clear_66 : decode cX8_clear 66 = .ok (.iload_n 2, 1) := by decide +kernel
theorem dX8_clear_67 : decode cX8_clear 67 = .ok (.iconst (-1), 1) := by decide +kernel
theorem dX8_clear_68 : decode cX8_clear 68 = .ok (.iastore, 1) := by decide +kernel
theorem dX8_clear_69 : decode cX8_clear 69 = .ok (.aload_n 0, 1) := by decide +kernel
theorem dX8_clear_70 : decode cX8_clear 70 = .ok (.getfield 21, 3) := by decide +kernel
theorem dX8_clear_73 : decode cX8_clear 73 = .ok (.iload_n 2, 1) := by decide +kernel
theorem dX8_clear_74 : decode cX8_clear 74 = .ok (.iconst 0, 1) := by decide +kernel
theorem dX8_clear_75 : decode cX8_clear 75 = .ok (.bastore, 1) := by decide +kernel
theorem dX8_clear_76 : decode cX8_clear 76 = .ok (.return_, 1) := by decide +kernel
theorem dX8_moveNode_0 : decode cX8_moveNode 0 = .ok (.iload_n 1, 1) := by decide +kernel
theorem dX8_moveNode_1 : decode cX8_moveNode 1 = .ok (.invokestatic 47, 3) := by decide +kernel
theorem dX8_moveNode_4 : decode cX8_moveNode 4 = .ok (.ifCond .eq 10, 3) := by decide +kernel
theorem dX8_moveNode_7 : decode cX8_moveNode 7 = .ok (.iload_n 2, 1) := by decide +kernel
theorem dX8_moveNode_8 : decode cX8_moveNode 8 = .ok (.invokestatic 47, 3) := by decide +kernel
theorem dX8_moveNode_11 : decode cX8_moveNode 11 = .ok (.ifCond .ne 4, 3) := by decide +kernel
theorem dX8_moveNode_14 : decode cX8_moveNode 14 = .ok (.return_, 1) := by decide +kernel
theorem dX8_moveNode_15 : decode cX8_moveNode 15 = .ok (.aload_n 0, 1) := by decide +kernel
theorem dX8_moveNode_16 : decode cX8_moveNode 16 = .ok (.getfield 25, 3) := by decide +kernel
theorem dX8_moveNode_19 : decode cX8_moveNode 19 = .ok (.aload_n 0, 1) := by decide +kernel
theorem dX8_moveNode_20 : decode cX8_moveNode 20 = .ok (.getfield 9, 3) := by decide +kernel
theorem dX8_moveNode_23 : decode cX8_moveNode 23 = .ok (.iload_n 1, 1) := by decide +kernel
theorem dX8_moveNode_24 : decode cX8_moveNode 24 = .ok (.iaload, 1) := by decide +kernel
theorem dX8_moveNode_25 : decode cX8_moveNode 25 = .ok (.iload_n 2, 1) := by decide +kernel
theorem dX8_moveNode_26 : decode cX8_moveNode 26 = .ok (.invokevirtual 81, 3) := by decide +kernel
theorem dX8_moveNode_29 : decode cX8_moveNode 29 = .ok (.aload_n 0, 1) := by decide +kernel
theorem dX8_moveNode_30 : decode cX8_moveNode 30 = .ok (.getfield 9, 3) := by decide +kernel
theorem dX8_moveNode_33 : decode cX8_moveNode 33 = .ok (.iload_n 2, 1) := by decide +kernel
theorem dX8_moveNode_34 : decode cX8_moveNode 34 = .ok (.aload_n 0, 1) := by decide +kernel
theorem dX8_moveNode_35 : decode cX8_moveNode 35 = .ok (.getfield 9, 3) := by decide +kernel
theorem dX8_moveNode_38 : decode cX8_moveNode 38 = .ok (.iload_n 1, 1) := by decide +kernel
theorem dX8_moveNode_39 : decode cX8_moveNode 39 = .ok (.iaload, 1) := by decide +kernel
theorem dX8_moveNode_40 : decode cX8_moveNode 40 = .ok (.iastore, 1) := by decide +kernel
theorem dX8_moveNode_41 : decode cX8_moveNode 41 = .ok (.aload_n 0, 1) := by decide +kernel
theorem dX8_moveNode_42 : decode cX8_moveNode 42 = .ok (.getfield 9, 3) := by decide +kernel
theorem dX8_moveNode_45 : decode cX8_moveNode 45 = .ok (.iload_n 1, 1) := by decide +kernel
theorem dX8_moveNode_46 : decode cX8_moveNode 46 = .ok (.iconst 0, 1) := by decide +kernel
theorem dX8_moveNode_47 : decode cX8_moveNode 47 = .ok (.iastore, 1) := by decide +kernel
theorem dX8_moveNode_48 : decode cX8_moveNode 48 = .ok (.iload_n 1, 1) := by decide +kernel
theorem dX8_moveNode_49 : decode cX8_moveNode 49 = .ok (.bipush 21, 2) := by decide +kernel
theorem dX8_moveNode_51 : decode cX8_moveNode 51 = .ok (.isub, 1) := by decide +kernel
theorem dX8_moveNode_52 : decode cX8_moveNode 52 = .ok (.istore_n 3, 1) := by decide +kernel
theorem dX8_moveNode_53 : decode cX8_moveNode 53 = .ok (.iload_n 2, 1) := by decide +kernel
theorem dX8_moveNode_54 : decode cX8_moveNode 54 = .ok (.bipush 21, 2) := by decide +kernel
theorem dX8_moveNode_56 : decode cX8_moveNode 56 = .ok (.isub, 1) := by decide +kernel
theorem dX8_moveNode_57 : decode cX8_moveNode 57 = .ok (.istore 4, 2) := by decide +kernel
theorem dX8_moveNode_59 : decode cX8_moveNode 59 = .ok (.iload_n 3, 1) := by decide +kernel
theorem dX8_moveNode_60 : decode cX8_moveNode 60 = .ok (.invokestatic 55, 3) := by decide +kernel
theorem dX8_moveNode_63 : decode cX8_moveNode 63 = .ok (.ifCond .eq 66, 3) := by decide +kernel
theorem dX8_moveNode_66 : decode cX8_moveNode 66 = .ok (.iload 4, 2) := by decide +kernel
theorem dX8_moveNode_68 : decode cX8_moveNode 68 = .ok (.invokestatic 55, 3) := by decide +kernel
theorem dX8_moveNode_71 : decode cX8_moveNode 71 = .ok (.ifCond .eq 58, 3) := by decide +kernel
theorem dX8_moveNode_74 : decode cX8_moveNode 74 = .ok (.aload_n 0, 1) := by decide +kernel
theorem dX8_moveNode_75 : decode cX8_moveNode 75 = .ok (.getfield 29, 3) := by decide +kernel
theorem dX8_moveNode_78 : decode cX8_moveNode 78 = .ok (.aload_n 0, 1) := by decide +kernel
theorem dX8_moveNode_79 : decode cX8_moveNode 79 = .ok (.getfield 15, 3) := by decide +kernel
theorem dX8_moveNode_82 : decode cX8_moveNode 82 = .ok (.iload_n 3, 1) := by decide +kernel
theorem dX8_moveNode_83 : decode cX8_moveNode 83 = .ok (.iaload, 1) := by decide +kernel
theorem dX8_moveNode_84 : decode cX8_moveNode 84 = .ok (.iload 4, 2) := by decide +kernel
theorem dX8_moveNode_86 : decode cX8_moveNode 86 = .ok (.invokevirtual 103, 3) := by decide +kernel
theorem dX8_moveNode_89 : decode cX8_moveNode 89 = .ok (.aload_n 0, 1) := by decide +kernel
theorem dX8_moveNode_90 : decode cX8_moveNode 90 = .ok (.getfield 15, 3) := by decide +kernel
theorem dX8_moveNode_93 : decode cX8_moveNode 93 = .ok (.iload 4, 2) := by decide +kernel
theorem dX8_moveNode_95 : decode cX8_moveNode 95 = .ok (.aload_n 0, 1) := by decide +kernel
theorem dX8_moveNode_96 : decode cX8_moveNode 96 = .ok (.getfield 15, 3) := by decide +kernel
theorem dX8_moveNode_99 : decode cX8_moveNode 99 = .ok (.iload_n 3, 1) := by decide +kernel
theorem dX8_moveNode_100 : decode cX8_moveNode 100 = .ok (.iaload, 1) := by decide +kernel
theorem dX8_moveNode_101 : decode cX8_moveNode 101 = .ok (.iastore, 1) := by decide +kernel
theorem dX8_moveNode_102 : decode cX8_moveNode 102 = .ok (.aload_n 0, 1) := by decide +kernel
theorem dX8_moveNode_103 : decode cX8_moveNode 103 = .ok (.getfield 15, 3) := by decide +kernel
theorem dX8_moveNode_106 : decode cX8_moveNode 106 = .ok (.iload_n 3, 1) := by decide +kernel
theorem dX8_moveNode_107 : decode cX8_moveNode 107 = .ok (.iconst (-1), 1) := by decide +kernel
theorem dX8_moveNode_108 : decode cX8_moveNode 108 = .ok (.iastore, 1) := by decide +kernel
theorem dX8_moveNode_109 : decode cX8_moveNode 109 = .ok (.aload_n 0, 1) := by decide +kernel
theorem dX8_moveNode_110 : decode cX8_moveNode 110 = .ok (.getfield 18, 3) := by decide +kernel
theorem dX8_moveNode_113 : decode cX8_moveNode 113 = .ok (.iload 4, 2) := by decide +kernel
theorem dX8_moveNode_115 : decode cX8_moveNode 115 = .ok (.aload_n 0, 1) := by decide +kernel
theorem dX8_moveNode_116 : decode cX8_moveNode 116 = .ok (.getfield 18, 3) := by decide +kernel
theorem dX8_moveNode_119 : decode cX8_moveNode 119 = .ok (.iload_n 3, 1) := by decide +kernel
theorem dX8_moveNode_120 : decode cX8_moveNode 120 = .ok (.iaload, 1) := by decide +kernel
theorem dX8_moveNode_121 : decode cX8_moveNode 121 = .ok (.iastore, 1) := by decide +kernel
theorem dX8_moveNode_122 : decode cX8_moveNode 122 = .ok (.aload_n 0, 1) := by decide +kernel
theorem dX8_moveNode_123 : decode cX8_moveNode 123 = .ok (.getfield 18, 3) := by decide +kernel
theorem dX8_moveNode_126 : decode cX8_moveNode 126 = .ok (.iload_n 3, 1) := by decide +kernel
theorem dX8_moveNode_127 : decode cX8_moveNode 127 = .ok (.iconst (-1), 1) := by decide +kernel
theorem dX8_moveNode_128 : decode cX8_moveNode 128 = .ok (.iastore, 1) := by decide +kernel
theorem dX8_moveNode_129 : decode cX8_moveNode 129 = .ok (.return_, 1) := by decide +kernel
theorem dX9_init_0 : decode cX9_init 0 = .ok (.aload_n 0, 1) := by decide +kernel
theorem dX9_init_1 : decode cX9_init 1 = .ok (.invokespecial 1, 3) := by decide +kernel
theorem dX9_init_4 : decode cX9_init 4 = .ok (.aload_n 0, 1) := by decide +kernel
theorem dX9_init_5 : decode cX9_init 5 = .ok (.new 7, 3) := by decide +kernel
theorem dX9_init_8 : decode cX9_init 8 = .ok (.dup, 1) := by decide +kernel
theorem dX9_init_9 : decode cX9_init 9 = .ok (.invokespecial 9, 3) := by decide +kernel
theorem dX9_init_12 : decode cX9_init 12 = .ok (.putfield 10, 3) := by decide +kernel
theorem dX9_init_15 : decode cX9_init 15 = .ok (.aload_n 0, 1) := by decide +kernel
theorem dX9_init_16 : decode cX9_init 16 = .ok (.new 16, 3) := by decide +kernel
theorem dX9_init_19 : decode cX9_init 19 = .ok (.dup, 1) := by decide +kernel
theorem dX9_init_20 : decode cX9_init 20 = .ok (.invokespecial 18, 3) := by decide +kernel
theorem dX9_init_23 : decode cX9_init 23 = .ok (.putfield 19, 3) := by decide +kernel
theorem dX9_init_26 : decode cX9_init 26 = .ok (.aload_n 0, 1) := by decide +kernel
theorem dX9_init_27 : decode cX9_init 27 = .ok (.new 23, 3) := by decide +kernel
theorem dX9_init_30 : decode cX9_init 30 = .ok (.dup, 1) := by decide +kernel
theorem dX9_init_31 : decode cX9_init 31 = .ok (.aload_n 0, 1) := by decide +kernel
theorem dX9_init_32 : decode cX9_init 32 = .ok (.getfield 10, 3) := by decide +kernel
theorem dX9_init_35 : decode cX9_init 35 = .ok (.aload_n 0, 1) := by decide +kernel
theorem dX9_init_36 : decode cX9_init 36 = .ok (.getfield 19, 3) := by decide +kernel
theorem dX9_init_39 : decode cX9_init 39 = .ok (.invokespecial 25, 3) := by decide +kernel
theorem dX9_init_42 : decode cX9_init 42 = .ok (.putfield 28, 3) := by decide +kernel
theorem dX9_init_45 : decode cX9_init 45 = .ok (.aload_n 0, 1) := by decide +kernel
theorem dX9_init_46 : decode cX9_init 46 = .ok (.new 32, 3) := by decide +kernel
theorem dX9_init_49 : decode cX9_init 49 = .ok (.dup, 1) := by decide +kernel
theorem dX9_init_50 : decode cX9_init 50 = .ok (.invokespecial 34, 3) := by decide +kernel
theorem dX9_init_53 : decode cX9_init 53 = .ok (.putfield 35, 3) := by decide +kernel
theorem dX9_init_56 : decode cX9_init 56 = .ok (.aload_n 0, 1) := by decide +kernel
theorem dX9_init_57 : decode cX9_init 57 = .ok (.new 39, 3) := by decide +kernel
theorem dX9_init_60 : decode cX9_init 60 = .ok (.dup, 1) := by decide +kernel
theorem dX9_init_61 : decode cX9_init 61 = .ok (.aload_n 0, 1) := by decide +kernel
theorem dX9_init_62 : decode cX9_init 62 = .ok (.getfield 10, 3) := by decide +kernel
theorem dX9_init_65 : decode cX9_init 65 = .ok (.aload_n 0, 1) := by decide +kernel
theorem dX9_init_66 : decode cX9_init 66 = .ok (.getfield 19, 3) := by decide +kernel
theorem dX9_init_69 : decode cX9_init 69 = .ok (.aload_n 0, 1) := by decide +kernel
theorem dX9_init_70 : decode cX9_init 70 = .ok (.getfield 35, 3) := by decide +kernel
theorem dX9_init_73 : decode cX9_init 73 = .ok (.invokespecial 41, 3) := by decide +kernel
theorem dX9_init_76 : decode cX9_init 76 = .ok (.putfield 44, 3) := by decide +kernel
theorem dX9_init_79 : decode cX9_init 79 = .ok (.aload_n 0, 1) := by decide +kernel
theorem dX9_init_80 : decode cX9_init 80 = .ok (.new 48, 3) := by decide +kernel
theorem dX9_init_83 : decode cX9_init 83 = .ok (.dup, 1) := by decide +kernel
theorem dX9_init_84 : decode cX9_init 84 = .ok (.aload_n 0, 1) := by decide +kernel
theorem dX9_init_85 : decode cX9_init 85 = .ok (.getfield 10, 3) := by decide +kernel
theorem dX9_init_88 : decode cX9_init 88 = .ok (.aload_n 0, 1) := by decide +kernel
theorem dX9_init_89 : decode cX9_init 89 = .ok (.getfield 19, 3) := by decide +kernel
theorem dX9_init_92 : decode cX9_init 92 = .ok (.aload_n 0, 1) := by decide +kernel
theorem dX9_init_93 : decode cX9_init 93 = .ok (.getfield 28, 3) := by decide +kernel
theorem dX9_init_96 : decode cX9_init 96 = .ok (.aload_n 0, 1) := by decide +kernel
theorem dX9_init_97 : decode cX9_init 97 = .ok (.getfield 35, 3) := by decide +kernel
theorem dX9_init_100 : decode cX9_init 100 = .ok (.invokespecial 50, 3) := by decide +kernel
theorem dX9_init_103 : decode cX9_init 103 = .ok (.putfield 53, 3) := by decide +kernel
theorem dX9_init_106 : decode cX9_init 106 = .ok (.aload_n 0, 1) := by decide +kernel
theorem dX9_init_107 : decode cX9_init 107 = .ok (.new 57, 3) := by decide +kernel
theorem dX9_init_110 : decode cX9_init 110 = .ok (.dup, 1) := by decide +kernel
theorem dX9_init_111 : decode cX9_init 111 = .ok (.aload_n 0, 1) := by decide +kernel
theorem dX9_init_112 : decode cX9_init 112 = .ok (.getfield 28, 3) := by decide +kernel
theorem dX9_init_115 : decode cX9_init 115 = .ok (.aload_n 0, 1) := by decide +kernel
theorem dX9_init_116 : decode cX9_init 116 = .ok (.getfield 44, 3) := by decide +kernel
theorem dX9_init_119 : decode cX9_init 119 = .ok (.invokespecial 59, 3) := by decide +kernel
theorem dX9_init_122 : decode cX9_init 122 = .ok (.putfield 62, 3) := by decide +kernel
theorem dX9_init_125 : decode cX9_init 125 = .ok (.aload_n 0, 1) := by decide +kernel
theorem dX9_init_126 : decode cX9_init 126 = .ok (.new 66, 3) := by decide +kernel
theorem dX9_init_129 : decode cX9_init 129 = .ok (.dup, 1) := by decide +kernel
theorem dX9_init_130 : decode cX9_init 130 = .ok (.aload_n 0, 1) := by decide +kernel
theorem dX9_init_131 : decode cX9_init 131 = .ok (.getfield 28, 3) := by decide +kernel
theorem dX9_init_134 : decode cX9_init 134 = .ok (.invokespecial 68, 3) := by decide +kernel
theorem dX9_init_137 : decode cX9_init 137 = .ok (.putfield 71, 3) := by decide +kernel
theorem dX9_init_140 : decode cX9_init 140 = .ok (.aload_n 0, 1) := by decide +kernel
theorem dX9_init_141 : decode cX9_init 141 = .ok (.new 75, 3) := by decide +kernel
theorem dX9_init_144 : decode cX9_init 144 = .ok (.dup, 1) := by decide +kernel
theorem dX9_init_145 : decode cX9_init 145 = .ok (.aload_n 0, 1) := by decide +kernel
theorem dX9_init_146 : decode cX9_init 146 = .ok (.getfield 28, 3) := by decide +kernel
theorem dX9_init_149 : decode cX9_init 149 = .ok (.aload_n 0, 1) := by decide +kernel
theorem dX9_init_150 : decode cX9_init 150 = .ok (.getfield 71, 3) := by decide +kernel
theorem dX9_init_153 : decode cX9_init 153 = .ok (.invokespecial 77, 3) := by decide +kernel
theorem dX9_init_156 : decode cX9_init 156 = .ok (.putfield 80, 3) := by decide +kernel
theorem dX9_init_159 : decode cX9_init 159 = .ok (.aload_n 0, 1) := by decide +kernel
theorem dX9_init_160 : decode cX9_init 160 = .ok (.bipush 8, 2) := by decide +kernel
theorem dX9_init_162 : decode cX9_init 162 = .ok (.newarray .int, 2) := by decide +kernel
theorem dX9_init_164 : decode cX9_init 164 = .ok (.putfield 84, 3) := by decide +kernel
theorem dX9_init_167 : decode cX9_init 167 = .ok (.aload_n 0, 1) := by decide +kernel
theorem dX9_init_168 : decode cX9_init 168 = .ok (.iconst 4, 1) := by decide +kernel
theorem dX9_init_169 : decode cX9_init 169 = .ok (.newarray .int, 2) := by decide +kernel
theorem dX9_init_171 : decode cX9_init 171 = .ok (.putfield 88, 3) := by decide +kernel
theorem dX9_init_174 : decode cX9_init 174 = .ok (.aload_n 0, 1) := by decide +kernel
theorem dX9_init_175 : decode cX9_init 175 = .ok (.iconst 4, 1) := by decide +kernel
theorem dX9_init_176 : decode cX9_init 176 = .ok (.newarray .int, 2) := by decide +kernel
theorem dX9_init_178 : decode cX9_init 178 = .ok (.putfield 91, 3) := by decide +kernel
theorem dX9_init_181 : decode cX9_init 181 = .ok (.aload_n 0, 1) := by decide +kernel
theorem dX9_init_182 : decode cX9_init 182 = .ok (.iconst 0, 1) := by decide +kernel
theorem dX9_init_183 : decode cX9_init 183 = .ok (.invokevirtual 94, 3) := by decide +kernel
theorem dX9_init_186 : decode cX9_init 186 = .ok (.return_, 1) := by decide +kernel
theorem dX9_reset_0 : decode cX9_reset 0 = .ok (.aload_n 0, 1) := by decide +kernel
theorem dX9_reset_1 : decode cX9_reset 1 = .ok (.iload_n 1, 1) := by decide +kernel
theorem dX9_reset_2 : decode cX9_reset 2 = .ok (.invokevirtual 94, 3) := by decide +kernel
theorem dX9_reset_5 : decode cX9_reset 5 = .ok (.return_, 1) := by decide +kernel
theorem dX9_store_0 : decode cX9_store 0 = .ok (.iload_n 1, 1) := by decide +kernel
theorem dX9_store_1 : decode cX9_store 1 = .ok (.bipush 64, 2) := by decide +kernel
theorem dX9_store_3 : decode cX9_store 3 = .ok (.invokestatic 98, 3) := by decide +kernel
theorem dX9_store_6 : decode cX9_store 6 = .ok (.aload_n 0, 1) := by decide +kernel
theorem dX9_store_7 : decode cX9_store 7 = .ok (.getfield 28, 3) := by decide +kernel
theorem dX9_store_10 : decode cX9_store 10 = .ok (.iload_n 1, 1) := by decide +kernel
theorem dX9_store_11 : decode cX9_store 11 = .ok (.invokevirtual 102, 3) := by decide +kernel
theorem dX9_store_14 : decode cX9_store 14 = .ok (.iconst (-1), 1) := by decide +kernel
theorem dX9_store_15 : decode cX9_store 15 = .ok (.if_icmp .ne 13, 3) := by decide +kernel
theorem dX9_store_18 : decode cX9_store 18 = .ok (.aload_n 0, 1) := by decide +kernel
theorem dX9_store_19 : decode cX9_store 19 = .ok (.getfield 19, 3) := by decide +kernel
theorem dX9_store_22 : decode cX9_store 22 = .ok (.invokevirtual 106, 3) := by decide +kernel
theorem dX9_store_25 : decode cX9_store 25 = .ok (.ifCond .eq 13, 3) := by decide +kernel
theorem dX9_store_28 : decode cX9_store 28 = .ok (.new 110, 3) := by decide +kernel
theorem dX9_store_31 : decode cX9_store 31 = .ok (.dup, 1) := by decide +kernel
theorem dX9_store_32 : decode cX9_store 32 = .ok (.ldc 112, 2) := by decide +kernel
theorem dX9_store_34 : decode cX9_store 34 = .ok (.invokespecial 114, 3) := by decide +kernel
theorem dX9_store_37 : decode cX9_store 37 = .ok (.athrow, 1) := by decide +kernel
theorem dX9_store_38 : decode cX9_store 38 = .ok (.iload_n 1, 1) := by decide +kernel
theorem dX9_store_39 : decode cX9_store 39 = .ok (.invokestatic 117, 3) := by decide +kernel
theorem dX9_store_42 : decode cX9_store 42 = .ok (.istore 4, 2) := by decide +kernel
theorem dX9_store_44 : decode cX9_store 44 = .ok (.aload_n 0, 1) := by decide +kernel
theorem dX9_store_45 : decode cX9_store 45 = .ok (.aload_n 0, 1) := by decide +kernel
theorem dX9_store_46 : decode cX9_store 46 = .ok (.getfield 28, 3) := by decide +kernel
theorem dX9_store_49 : decode cX9_store 49 = .ok (.iload 4, 2) := by decide +kernel
theorem dX9_store_51 : decode cX9_store 51 = .ok (.invokevirtual 120, 3) := by decide +kernel
theorem dX9_store_54 : decode cX9_store 54 = .ok (.iconst 1, 1) := by decide +kernel
theorem dX9_store_55 : decode cX9_store 55 = .ok (.iadd, 1) := by decide +kernel
theorem dX9_store_56 : decode cX9_store 56 = .ok (.invokevirtual 123, 3) := by decide +kernel
theorem dX9_store_59 : decode cX9_store 59 = .ok (.aload_n 0, 1) := by decide +kernel
theorem dX9_store_60 : decode cX9_store 60 = .ok (.iload 4, 2) := by decide +kernel
theorem dX9_store_62 : decode cX9_store 62 = .ok (.invokevirtual 126, 3) := by decide +kernel
theorem dX9_store_65 : decode cX9_store 65 = .ok (.aload_n 0, 1) := by decide +kernel
theorem dX9_store_66 : decode cX9_store 66 = .ok (.getfield 19, 3) := by decide +kernel
theorem dX9_store_69 : decode cX9_store 69 = .ok (.iload_n 1, 1) := by decide +kernel
theorem dX9_store_70 : decode cX9_store 70 = .ok (.lload_n 2, 1) := by decide +kernel
theorem dX9_store_71 : decode cX9_store 71 = .ok (.invokevirtual 129, 3) := by decide +kernel
theorem dX9_store_74 : decode cX9_store 74 = .ok (.istore 5, 2) := by decide +kernel
theorem dX9_store_76 : decode cX9_store 76 = .ok (.aload_n 0, 1) := by decide +kernel
theorem dX9_store_77 : decode cX9_store 77 = .ok (.getfield 28, 3) := by decide +kernel
theorem dX9_store_80 : decode cX9_store 80 = .ok (.iload_n 1, 1) := by decide +kernel
theorem dX9_store_81 : decode cX9_store 81 = .ok (.iload 5, 2) := by decide +kernel
theorem dX9_store_83 : decode cX9_store 83 = .ok (.invokevirtual 133, 3) := by decide +kernel
theorem dX9_store_86 : decode cX9_store 86 = .ok (.aload_n 0, 1) := by decide +kernel
theorem dX9_store_87 : decode cX9_store 87 = .ok (.iconst 1, 1) := by decide +kernel
theorem dX9_store_88 : decode cX9_store 88 = .ok (.iload 5, 2) := by decide +kernel
theorem dX9_store_90 : decode cX9_store 90 = .ok (.aload_n 0, 1) := by decide +kernel
theorem dX9_store_91 : decode cX9_store 91 = .ok (.getfield 28, 3) := by decide +kernel
theorem dX9_store_94 : decode cX9_store 94 = .ok (.iload 4, 2) := by decide +kernel
theorem dX9_store_96 : decode cX9_store 96 = .ok (.invokevirtual 136, 3) := by decide +kernel
theorem dX9_store_99 : decode cX9_store 99 = .ok (.invokevirtual 139, 3) := by decide +kernel
theorem dX9_store_102 : decode cX9_store 102 = .ok (.iload 5, 2) := by decide +kernel
theorem dX9_store_104 : decode cX9_store 104 = .ok (.ireturn, 1) := by decide +kernel
theorem dX9_read_0 : decode cX9_read 0 = .ok (.iload_n 1, 1) := by decide +kernel
theorem dX9_read_1 : decode cX9_read 1 = .ok (.bipush 64, 2) := by decide +kernel
theorem dX9_read_3 : decode cX9_read 3 = .ok (.invokestatic 98, 3) := by decide +kernel
theorem dX9_read_6 : decode cX9_read 6 = .ok (.aload_n 0, 1) := by decide +kernel
theorem dX9_read_7 : decode cX9_read 7 = .ok (.getfield 53, 3) := by decide +kernel
theorem dX9_read_10 : decode cX9_read 10 = .ok (.iconst (-1), 1) := by decide +kernel
theorem dX9_read_11 : decode cX9_read 11 = .ok (.invokevirtual 143, 3) := by decide +kernel
theorem dX9_read_14 : decode cX9_read 14 = .ok (.aload_n 0, 1) := by decide +kernel
theorem dX9_read_15 : decode cX9_read 15 = .ok (.getfield 53, 3) := by decide +kernel
theorem dX9_read_18 : decode cX9_read 18 = .ok (.iload_n 1, 1) := by decide +kernel
theorem dX9_read_19 : decode cX9_read 19 = .ok (.iconst (-1), 1) := by decide +kernel
theorem dX9_read_20 : decode cX9_read 20 = .ok (.invokevirtual 146, 3) := by decide +kernel
theorem dX9_read_23 : decode cX9_read 23 = .ok (.ifCond .ne 13, 3) := by decide +kernel
theorem dX9_read_26 : decode cX9_read 26 = .ok (.new 150, 3) := by decide +kernel
theorem dX9_read_29 : decode cX9_read 29 = .ok (.dup, 1) := by decide +kernel
theorem dX9_read_30 : decode cX9_read 30 = .ok (.ldc 152, 2) := by decide +kernel
theorem dX9_read_32 : decode cX9_read 32 = .ok (.invokespecial 154, 3) := by decide +kernel
theorem dX9_read_35 : decode cX9_read 35 = .ok (.athrow, 1) := by decide +kernel
theorem dX9_read_36 : decode cX9_read 36 = .ok (.aload_n 0, 1) := by decide +kernel
theorem dX9_read_37 : decode cX9_read 37 = .ok (.getfield 19, 3) := by decide +kernel
theorem dX9_read_40 : decode cX9_read 40 = .ok (.aload_n 0, 1) := by decide +kernel
theorem dX9_read_41 : decode cX9_read 41 = .ok (.getfield 28, 3) := by decide +kernel
theorem dX9_read_44 : decode cX9_read 44 = .ok (.iload_n 1, 1) := by decide +kernel
theorem dX9_read_45 : decode cX9_read 45 = .ok (.invokevirtual 102, 3) := by decide +kernel
theorem dX9_read_48 : decode cX9_read 48 = .ok (.invokevirtual 155, 3) := by decide +kernel
theorem dX9_read_51 : decode cX9_read 51 = .ok (.lreturn, 1) := by decide +kernel
theorem dX9_recordAt_0 : decode cX9_recordAt 0 = .ok (.iload_n 1, 1) := by decide +kernel
theorem dX9_recordAt_1 : decode cX9_recordAt 1 = .ok (.bipush 64, 2) := by decide +kernel
theorem dX9_recordAt_3 : decode cX9_recordAt 3 = .ok (.invokestatic 98, 3) := by decide +kernel
theorem dX9_recordAt_6 : decode cX9_recordAt 6 = .ok (.aload_n 0, 1) := by decide +kernel
theorem dX9_recordAt_7 : decode cX9_recordAt 7 = .ok (.getfield 28, 3) := by decide +kernel
theorem dX9_recordAt_10 : decode cX9_recordAt 10 = .ok (.iload_n 1, 1) := by decide +kernel
theorem dX9_recordAt_11 : decode cX9_recordAt 11 = .ok (.invokevirtual 102, 3) := by decide +kernel
theorem dX9_recordAt_14 : decode cX9_recordAt 14 = .ok (.ireturn, 1) := by decide +kernel
theorem dX9_leafOf_0 : decode cX9_leafOf 0 = .ok (.iload_n 1, 1) := by decide +kernel
theorem dX9_leafOf_1 : decode cX9_leafOf 1 = .ok (.aload_n 0, 1) := by decide +kernel
theorem dX9_leafOf_2 : decode cX9_leafOf 2 = .ok (.getfield 19, 3) := by decide +kernel
theorem dX9_leafOf_5 : decode cX9_leafOf 5 = .ok (.invokevirtual 159, 3) := by decide +kernel
theorem dX9_leafOf_8 : decode cX9_leafOf 8 = .ok (.invokestatic 98, 3) := by decide +kernel
theorem dX9_leafOf_11 : decode cX9_leafOf 11 = .ok (.aload_n 0, 1) := by decide +kernel
theorem dX9_leafOf_12 : decode cX9_leafOf 12 = .ok (.getfield 19, 3) := by decide +kernel
theorem dX9_leafOf_15 : decode cX9_leafOf 15 = .ok (.iload_n 1, 1) := by decide +kernel
theorem dX9_leafOf_16 : decode cX9_leafOf 16 = .ok (.invokevirtual 163, 3) := by decide +kernel
theorem dX9_leafOf_19 : decode cX9_leafOf 19 = .ok (.ireturn, 1) := by decide +kernel
theorem dX9_recordCount_0 : decode cX9_recordCount 0 = .ok (.iload_n 1, 1) := by decide +kernel
theorem dX9_recordCount_1 : decode cX9_recordCount 1 = .ok (.iconst 2, 1) := by decide +kernel
theorem dX9_recordCount_2 : decode cX9_recordCount 2 = .ok (.invokestatic 166, 3) := by decide +kernel
theorem dX9_recordCount_5 : decode cX9_recordCount 5 = .ok (.iload_n 1, 1) := by decide +kernel
theorem dX9_recordCount_6 : decode cX9_recordCount 6 = .ok (.ifCond .ne 11, 3) := by decide +kernel
theorem dX9_recordCount_9 : decode cX9_recordCount 9 = .ok (.aload_n 0, 1) := by decide +kernel
theorem dX9_recordCount_10 : decode cX9_recordCount 10 = .ok (.getfield 19, 3) := by decide +kernel
theorem dX9_recordCount_13 : decode cX9_recordCount 13 = .ok (.invokevirtual 159, 3) := by decide +kernel
theorem dX9_recordCount_16 : decode cX9_recordCount 16 = .ok (.ireturn, 1) := by decide +kernel
theorem dX9_recordCount_17 : decode cX9_recordCount 17 = .ok (.aload_n 0, 1) := by decide +kernel
theorem dX9_recordCount_18 : decode cX9_recordCount 18 = .ok (.getfield 28, 3) := by decide +kernel
theorem dX9_recordCount_21 : decode cX9_recordCount 21 = .ok (.iconst 0, 1) := by decide +kernel
theorem dX9_recordCount_22 : decode cX9_recordCount 22 = .ok (.bipush 64, 2) := by decide +kernel
theorem dX9_recordCount_24 : decode cX9_recordCount 24 = .ok (.invokevirtual 169, 3) := by decide +kernel
theorem dX9_recordCount_27 : decode cX9_recordCount 27 = .ok (.istore_n 2, 1) := by decide +kernel
theorem dX9_recordCount_28 : decode cX9_recordCount 28 = .ok (.iload_n 1, 1) := by decide +kernel
theorem dX9_recordCount_29 : decode cX9_recordCount 29 = .ok (.iconst 1, 1) := by decide +kernel
theorem dX9_recordCount_30 : decode cX9_recordCount 30 = .ok (.if_icmp .ne 5, 3) := by decide +kernel
theorem dX9_recordCount_33 : decode cX9_recordCount 33 = .ok (.iload_n 2, 1) := by decide +kernel
theorem dX9_recordCount_34 : decode cX9_recordCount 34 = .ok (.ireturn, 1) := by decide +kernel
theorem dX9_recordCount_35 : decode cX9_recordCount 35 = .ok (.aload_n 0, 1) := by decide +kernel
theorem dX9_recordCount_36 : decode cX9_recordCount 36 = .ok (.getfield 53, 3) := by decide +kernel
theorem dX9_recordCount_39 : decode cX9_recordCount 39 = .ok (.iconst (-1), 1) := by decide +kernel
theorem dX9_recordCount_40 : decode cX9_recordCount 40 = .ok (.invokevirtual 143, 3) := by decide +kernel
theorem dX9_recordCount_43 : decode cX9_recordCount 43 = .ok (.iload_n 2, 1) := by decide +kernel
theorem dX9_recordCount_44 : decode cX9_recordCount 44 = .ok (.aload_n 0, 1) := by decide +kernel
theorem dX9_recordCount_45 : decode cX9_recordCount 45 = .ok (.getfield 53, 3) := by decide +kernel
theorem dX9_recordCount_48 : decode cX9_recordCount 48 = .ok (.iconst (-1), 1) := by decide +kernel
theorem dX9_recordCount_49 : decode cX9_recordCount 49 = .ok (.invokevirtual 173, 3) := by decide +kernel
theorem dX9_recordCount_52 : decode cX9_recordCount 52 = .ok (.isub, 1) := by decide +kernel
theorem dX9_recordCount_53 : decode cX9_recordCount 53 = .ok (.ireturn, 1) := by decide +kernel
theorem dX9_openers_0 : decode cX9_openers 0 = .ok (.iload_n 1, 1) := by decide +kernel
theorem dX9_openers_1 : decode cX9_openers 1 = .ok (.aload_n 0, 1) := by decide +kernel
theorem dX9_openers_2 : decode cX9_openers 2 = .ok (.getfield 19, 3) := by decide +kernel
theorem dX9_openers_5 : decode cX9_openers 5 = .ok (.invokevirtual 159, 3) := by decide +kernel
theorem dX9_openers_8 : decode cX9_openers 8 = .ok (.invokestatic 98, 3) := by decide +kernel
theorem dX9_openers_11 : decode cX9_openers 11 = .ok (.aload_n 0, 1) := by decide +kernel
theorem dX9_openers_12 : decode cX9_openers 12 = .ok (.getfield 44, 3) := by decide +kernel
theorem dX9_openers_15 : decode cX9_openers 15 = .ok (.iload_n 1, 1) := by decide +kernel
theorem dX9_openers_16 : decode cX9_openers 16 = .ok (.invokevirtual 176, 3) := by decide +kernel
theorem dX9_openers_19 : decode cX9_openers 19 = .ok (.aload_n 0, 1) := by decide +kernel
theorem dX9_openers_20 : decode cX9_openers 20 = .ok (.getfield 44, 3) := by decide +kernel
theorem dX9_openers_23 : decode cX9_openers 23 = .ok (.aload_n 0, 1) := by decide +kernel
theorem dX9_openers_24 : decode cX9_openers 24 = .ok (.getfield 28, 3) := by decide +kernel
theorem dX9_openers_27 : decode cX9_openers 27 = .ok (.iconst 0, 1) := by decide +kernel
theorem dX9_openers_28 : decode cX9_openers 28 = .ok (.invokevirtual 136, 3) := by decide +kernel
theorem dX9_openers_31 : decode cX9_openers 31 = .ok (.invokevirtual 179, 3) := by decide +kernel
theorem dX9_openers_34 : decode cX9_openers 34 = .ok (.ifCond .le 7, 3) := by decide +kernel
theorem dX9_openers_37 : decode cX9_openers 37 = .ok (.iconst 1, 1) := by decide +kernel
theorem dX9_openers_38 : decode cX9_openers 38 = .ok (.goto 4, 3) := by decide +kernel
theorem dX9_openers_41 : decode cX9_openers 41 = .ok (.iconst 0, 1) := by decide +kernel
theorem dX9_openers_42 : decode cX9_openers 42 = .ok (.istore_n 2, 1) := by decide +kernel
theorem dX9_openers_43 : decode cX9_openers 43 = .ok (.iconst 0, 1) := by decide +kernel
theorem dX9_openers_44 : decode cX9_openers 44 = .ok (.istore_n 3, 1) := by decide +kernel
theorem dX9_openers_45 : decode cX9_openers 45 = .ok (.iload_n 3, 1) := by decide +kernel
theorem dX9_openers_46 : decode cX9_openers 46 = .ok (.iconst 4, 1) := by decide +kernel
theorem dX9_openers_47 : decode cX9_openers 47 = .ok (.if_icmp .ge 31, 3) := by decide +kernel
theorem dX9_openers_50 : decode cX9_openers 50 = .ok (.aload_n 0, 1) := by decide +kernel
theorem dX9_openers_51 : decode cX9_openers 51 = .ok (.getfield 44, 3) := by decide +kernel
theorem dX9_openers_54 : decode cX9_openers 54 = .ok (.aload_n 0, 1) := by decide +kernel
theorem dX9_openers_55 : decode cX9_openers 55 = .ok (.getfield 88, 3) := by decide +kernel
theorem dX9_openers_58 : decode cX9_openers 58 = .ok (.iload_n 3, 1) := by decide +kernel
theorem dX9_openers_59 : decode cX9_openers 59 = .ok (.iaload, 1) := by decide +kernel
theorem dX9_openers_60 : decode cX9_openers 60 = .ok (.invokevirtual 179, 3) := by decide +kernel
theorem dX9_openers_63 : decode cX9_openers 63 = .ok (.ifCond .le 9, 3) := by decide +kernel
theorem dX9_openers_66 : decode cX9_openers 66 = .ok (.iload_n 2, 1) := by decide +kernel
theorem dX9_openers_67 : decode cX9_openers 67 = .ok (.iconst 2, 1) := by decide +kernel
theorem dX9_openers_68 : decode cX9_openers 68 = .ok (.iload_n 3, 1) := by decide +kernel
theorem dX9_openers_69 : decode cX9_openers 69 = .ok (.ishl, 1) := by decide +kernel
theorem dX9_openers_70 : decode cX9_openers 70 = .ok (.ior, 1) := by decide +kernel
theorem dX9_openers_71 : decode cX9_openers 71 = .ok (.istore_n 2, 1) := by decide +kernel
theorem dX9_openers_72 : decode cX9_openers 72 = .ok (.iinc 3 1, 3) := by decide +kernel
theorem dX9_openers_75 : decode cX9_openers 75 = .ok (.goto (-30), 3) := by decide +kernel
theorem dX9_openers_78 : decode cX9_openers 78 = .ok (.iload_n 2, 1) := by decide +kernel
theorem dX9_openers_79 : decode cX9_openers 79 = .ok (.ireturn, 1) := by decide +kernel
theorem dX9_openWith_0 : decode cX9_openWith 0 = .ok (.iload_n 1, 1) := by decide +kernel
theorem dX9_openWith_1 : decode cX9_openWith 1 = .ok (.iconst 4, 1) := by decide +kernel
theorem dX9_openWith_2 : decode cX9_openWith 2 = .ok (.invokestatic 98, 3) := by decide +kernel
theorem dX9_openWith_5 : decode cX9_openWith 5 = .ok (.iload_n 2, 1) := by decide +kernel
theorem dX9_openWith_6 : decode cX9_openWith 6 = .ok (.aload_n 0, 1) := by decide +kernel
theorem dX9_openWith_7 : decode cX9_openWith 7 = .ok (.getfield 19, 3) := by decide +kernel
theorem dX9_openWith_10 : decode cX9_openWith 10 = .ok (.invokevirtual 159, 3) := by decide +kernel
theorem dX9_openWith_13 : decode cX9_openWith 13 = .ok (.invokestatic 98, 3) := by decide +kernel
theorem dX9_openWith_16 : decode cX9_openWith 16 = .ok (.aload_n 0, 1) := by decide +kernel
theorem dX9_openWith_17 : decode cX9_openWith 17 = .ok (.aload_n 0, 1) := by decide +kernel
theorem dX9_openWith_18 : decode cX9_openWith 18 = .ok (.getfield 88, 3) := by decide +kernel
theorem dX9_openWith_21 : decode cX9_openWith 21 = .ok (.iload_n 1, 1) := by decide +kernel
theorem dX9_openWith_22 : decode cX9_openWith 22 = .ok (.iaload, 1) := by decide +kernel
theorem dX9_openWith_23 : decode cX9_openWith 23 = .ok (.iload_n 2, 1) := by decide +kernel
theorem dX9_openWith_24 : decode cX9_openWith 24 = .ok (.invokevirtual 182, 3) := by decide +kernel
theorem dX9_openWith_27 : decode cX9_openWith 27 = .ok (.pop, 1) := by decide +kernel
theorem dX9_openWith_28 : decode cX9_openWith 28 = .ok (.aload_n 0, 1) := by decide +kernel
theorem dX9_openWith_29 : decode cX9_openWith 29 = .ok (.getfield 19, 3) := by decide +kernel
theorem dX9_openWith_32 : decode cX9_openWith 32 = .ok (.iload_n 2, 1) := by decide +kernel
theorem dX9_openWith_33 : decode cX9_openWith 33 = .ok (.invokevirtual 155, 3) := by decide +kernel
theorem dX9_openWith_36 : decode cX9_openWith 36 = .ok (.lreturn, 1) := by decide +kernel
theorem dX9_openSteps_0 : decode cX9_openSteps 0 = .ok (.iload_n 1, 1) := by decide +kernel
theorem dX9_openSteps_1 : decode cX9_openSteps 1 = .ok (.iconst (-1), 1) := by decide +kernel
theorem dX9_openSteps_2 : decode cX9_openSteps 2 = .ok (.if_icmp .eq 8, 3) := by decide +kernel
theorem dX9_openSteps_5 : decode cX9_openSteps 5 = .ok (.iload_n 1, 1) := by decide +kernel
theorem dX9_openSteps_6 : decode cX9_openSteps 6 = .ok (.iconst 4, 1) := by decide +kernel
theorem dX9_openSteps_7 : decode cX9_openSteps 7 = .ok (.invokestatic 98, 3) := by decide +kernel
theorem dX9_openSteps_10 : decode cX9_openSteps 10 = .ok (.iload_n 2, 1) := by decide +kernel
theorem dX9_openSteps_11 : decode cX9_openSteps 11 = .ok (.aload_n 0, 1) := by decide +kernel
theorem dX9_openSteps_12 : decode cX9_openSteps 12 = .ok (.getfield 19, 3) := by decide +kernel
theorem dX9_openSteps_15 : decode cX9_openSteps 15 = .ok (.invokevirtual 159, 3) := by decide +kernel
theorem dX9_openSteps_18 : decode cX9_openSteps 18 = .ok (.invokestatic 98, 3) := by decide +kernel
theorem dX9_openSteps_21 : decode cX9_openSteps 21 = .ok (.aload_n 0, 1) := by decide +kernel
theorem dX9_openSteps_22 : decode cX9_openSteps 22 = .ok (.iload_n 1, 1) := by decide +kernel
theorem dX9_openSteps_23 : decode cX9_openSteps 23 = .ok (.ifCond .ge 14, 3) := by decide +kernel
theorem dX9_openSteps_26 : decode cX9_openSteps 26 = .ok (.aload_n 0, 1) := by decide +kernel
theorem dX9_openSteps_27 : decode cX9_openSteps 27 = .ok (.getfield 28, 3) := by decide +kernel
theorem dX9_openSteps_30 : decode cX9_openSteps 30 = .ok (.iconst 0, 1) := by decide +kernel
theorem dX9_openSteps_31 : decode cX9_openSteps 31 = .ok (.invokevirtual 136, 3) := by decide +kernel
theorem dX9_openSteps_34 : decode cX9_openSteps 34 = .ok (.goto 9, 3) := by decide +kernel
theorem dX9_openSteps_37 : decode cX9_openSteps 37 = .ok (.aload_n 0, 1) := by decide +kernel
theorem dX9_openSteps_38 : decode cX9_openSteps 38 = .ok (.getfield 88, 3) := by decide +kernel
theorem dX9_openSteps_41 : decode cX9_openSteps 41 = .ok (.iload_n 1, 1) := by decide +kernel
theorem dX9_openSteps_42 : decode cX9_openSteps 42 = .ok (.iaload, 1) := by decide +kernel
theorem dX9_openSteps_43 : decode cX9_openSteps 43 = .ok (.iload_n 2, 1) := by decide +kernel
theorem dX9_openSteps_44 : decode cX9_openSteps 44 = .ok (.invokevirtual 182, 3) := by decide +kernel
theorem dX9_openSteps_47 : decode cX9_openSteps 47 = .ok (.ireturn, 1) := by decide +kernel
theorem dX9_exposedBy_0 : decode cX9_exposedBy 0 = .ok (.iload_n 1, 1) := by decide +kernel
theorem dX9_exposedBy_1 : decode cX9_exposedBy 1 = .ok (.iconst 4, 1) := by decide +kernel
theorem dX9_exposedBy_2 : decode cX9_exposedBy 2 = .ok (.invokestatic 98, 3) := by decide +kernel
theorem dX9_exposedBy_5 : decode cX9_exposedBy 5 = .ok (.iload_n 2, 1) := by decide +kernel
theorem dX9_exposedBy_6 : decode cX9_exposedBy 6 = .ok (.aload_n 0, 1) := by decide +kernel
theorem dX9_exposedBy_7 : decode cX9_exposedBy 7 = .ok (.getfield 35, 3) := by decide +kernel
theorem dX9_exposedBy_10 : decode cX9_exposedBy 10 = .ok (.invokevirtual 185, 3) := by decide +kernel
theorem dX9_exposedBy_13 : decode cX9_exposedBy 13 = .ok (.invokestatic 98, 3) := by decide +kernel
theorem dX9_exposedBy_16 : decode cX9_exposedBy 16 = .ok (.aload_n 0, 1) := by decide +kernel
theorem dX9_exposedBy_17 : decode cX9_exposedBy 17 = .ok (.getfield 44, 3) := by decide +kernel
theorem dX9_exposedBy_20 : decode cX9_exposedBy 20 = .ok (.aload_n 0, 1) := by decide +kernel
theorem dX9_exposedBy_21 : decode cX9_exposedBy 21 = .ok (.getfield 88, 3) := by decide +kernel
theorem dX9_exposedBy_24 : decode cX9_exposedBy 24 = .ok (.iload_n 1, 1) := by decide +kernel
theorem dX9_exposedBy_25 : decode cX9_exposedBy 25 = .ok (.iaload, 1) := by decide +kernel
theorem dX9_exposedBy_26 : decode cX9_exposedBy 26 = .ok (.iload_n 2, 1) := by decide +kernel
theorem dX9_exposedBy_27 : decode cX9_exposedBy 27 = .ok (.iload_n 2, 1) := by decide +kernel
theorem dX9_exposedBy_28 : decode cX9_exposedBy 28 = .ok (.invokevirtual 186, 3) := by decide +kernel
theorem dX9_exposedBy_31 : decode cX9_exposedBy 31 = .ok (.aload_n 0, 1) := by decide +kernel
theorem dX9_exposedBy_32 : decode cX9_exposedBy 32 = .ok (.getfield 44, 3) := by decide +kernel
theorem dX9_exposedBy_35 : decode cX9_exposedBy 35 = .ok (.iconst 1, 1) := by decide +kernel
theorem dX9_exposedBy_36 : decode cX9_exposedBy 36 = .ok (.invokevirtual 189, 3) := by decide +kernel
theorem dX9_exposedBy_39 : decode cX9_exposedBy 39 = .ok (.aload_n 0, 1) := by decide +kernel
theorem dX9_exposedBy_40 : decode cX9_exposedBy 40 = .ok (.getfield 44, 3) := by decide +kernel
theorem dX9_exposedBy_43 : decode cX9_exposedBy 43 = .ok (.iconst 0, 1) := by decide +kernel
theorem dX9_exposedBy_44 : decode cX9_exposedBy 44 = .ok (.invokevirtual 189, 3) := by decide +kernel
theorem dX9_exposedBy_47 : decode cX9_exposedBy 47 = .ok (.iadd, 1) := by decide +kernel
theorem dX9_exposedBy_48 : decode cX9_exposedBy 48 = .ok (.ireturn, 1) := by decide +kernel
theorem dX9_hold_0 : decode cX9_hold 0 = .ok (.iload_n 1, 1) := by decide +kernel
theorem dX9_hold_1 : decode cX9_hold 1 = .ok (.bipush 8, 2) := by decide +kernel
theorem dX9_hold_3 : decode cX9_hold 3 = .ok (.invokestatic 98, 3) := by decide +kernel
theorem dX9_hold_6 : decode cX9_hold 6 = .ok (.iload_n 2, 1) := by decide +kernel
theorem dX9_hold_7 : decode cX9_hold 7 = .ok (.bipush 85, 2) := by decide +kernel
theorem dX9_hold_9 : decode cX9_hold 9 = .ok (.invokestatic 98, 3) := by decide +kernel
theorem dX9_hold_12 : decode cX9_hold 12 = .ok (.aload_n 0, 1) := by decide +kernel
theorem dX9_hold_13 : decode cX9_hold 13 = .ok (.getfield 84, 3) := by decide +kernel
theorem dX9_hold_16 : decode cX9_hold 16 = .ok (.iload_n 1, 1) := by decide +kernel
theorem dX9_hold_17 : decode cX9_hold 17 = .ok (.iload_n 2, 1) := by decide +kernel
theorem dX9_hold_18 : decode cX9_hold 18 = .ok (.iastore, 1) := by decide +kernel
theorem dX9_hold_19 : decode cX9_hold 19 = .ok (.iload_n 2, 1) := by decide +kernel
theorem dX9_hold_20 : decode cX9_hold 20 = .ok (.invokestatic 193, 3) := by decide +kernel
theorem dX9_hold_23 : decode cX9_hold 23 = .ok (.istore_n 3, 1) := by decide +kernel
theorem dX9_hold_24 : decode cX9_hold 24 = .ok (.iload_n 3, 1) := by decide +kernel
theorem dX9_hold_25 : decode cX9_hold 25 = .ok (.iload_n 2, 1) := by decide +kernel
theorem dX9_hold_26 : decode cX9_hold 26 = .ok (.invokestatic 196, 3) := by decide +kernel
theorem dX9_hold_29 : decode cX9_hold 29 = .ok (.iadd, 1) := by decide +kernel
theorem dX9_hold_30 : decode cX9_hold 30 = .ok (.istore 4, 2) := by decide +kernel
theorem dX9_hold_32 : decode cX9_hold 32 = .ok (.aload_n 0, 1) := by decide +kernel
theorem dX9_hold_33 : decode cX9_hold 33 = .ok (.getfield 28, 3) := by decide +kernel
theorem dX9_hold_36 : decode cX9_hold 36 = .ok (.iload_n 3, 1) := by decide +kernel
theorem dX9_hold_37 : decode cX9_hold 37 = .ok (.iload 4, 2) := by decide +kernel
theorem dX9_hold_39 : decode cX9_hold 39 = .ok (.invokevirtual 199, 3) := by decide +kernel
theorem dX9_hold_42 : decode cX9_hold 42 = .ok (.aload_n 0, 1) := by decide +kernel
theorem dX9_hold_43 : decode cX9_hold 43 = .ok (.getfield 28, 3) := by decide +kernel
theorem dX9_hold_46 : decode cX9_hold 46 = .ok (.iload_n 3, 1) := by decide +kernel
theorem dX9_hold_47 : decode cX9_hold 47 = .ok (.iload 4, 2) := by decide +kernel
theorem dX9_hold_49 : decode cX9_hold 49 = .ok (.invokevirtual 169, 3) := by decide +kernel
theorem dX9_hold_52 : decode cX9_hold 52 = .ok (.ireturn, 1) := by decide +kernel
theorem dX9_release_0 : decode cX9_release 0 = .ok (.iload_n 1, 1) := by decide +kernel
theorem dX9_release_1 : decode cX9_release 1 = .ok (.bipush 8, 2) := by decide +kernel
theorem dX9_release_3 : decode cX9_release 3 = .ok (.invokestatic 98, 3) := by decide +kernel
theorem dX9_release_6 : decode cX9_release 6 = .ok (.aload_n 0, 1) := by decide +kernel
theorem dX9_release_7 : decode cX9_release 7 = .ok (.getfield 84, 3) := by decide +kernel
theorem dX9_release_10 : decode cX9_release 10 = .ok (.iload_n 1, 1) := by decide +kernel
theorem dX9_release_11 : decode cX9_release 11 = .ok (.iaload, 1) := by decide +kernel
theorem dX9_release_12 : decode cX9_release 12 = .ok (.istore_n 2, 1) := by decide +kernel
theorem dX9_release_13 : decode cX9_release 13 = .ok (.aload_n 0, 1) := by decide +kernel
theorem dX9_release_14 : decode cX9_release 14 = .ok (.getfield 84, 3) := by decide +kernel
theorem dX9_release_17 : decode cX9_release 17 = .ok (.iload_n 1, 1) := by decide +kernel
theorem dX9_release_18 : decode cX9_release 18 = .ok (.iconst (-1), 1) := by decide +kernel
theorem dX9_release_19 : decode cX9_release 19 = .ok (.iastore, 1) := by decide +kernel
theorem dX9_release_20 : decode cX9_release 20 = .ok (.iload_n 2, 1) := by decide +kernel
theorem dX9_release_21 : decode cX9_release 21 = .ok (.ireturn, 1) := by decide +kernel
theorem dX9_pins_0 : decode cX9_pins 0 = .ok (.iload_n 1, 1) := by decide +kernel
theorem dX9_pins_1 : decode cX9_pins 1 = .ok (.bipush 64, 2) := by decide +kernel
theorem dX9_pins_3 : decode cX9_pins 3 = .ok (.invokestatic 98, 3) := by decide +kernel
theorem dX9_pins_6 : decode cX9_pins 6 = .ok (.aload_n 0, 1) := by decide +kernel
theorem dX9_pins_7 : decode cX9_pins 7 = .ok (.iload_n 1, 1) := by decide +kernel
theorem dX9_pins_8 : decode cX9_pins 8 = .ok (.invokevirtual 202, 3) := by decide +kernel
theorem dX9_pins_11 : decode cX9_pins 11 = .ok (.ireturn, 1) := by decide +kernel
theorem dX9_mark_0 : decode cX9_mark 0 = .ok (.iload_n 1, 1) := by decide +kernel
theorem dX9_mark_1 : decode cX9_mark 1 = .ok (.bipush 64, 2) := by decide +kernel
theorem dX9_mark_3 : decode cX9_mark 3 = .ok (.invokestatic 98, 3) := by decide +kernel
theorem dX9_mark_6 : decode cX9_mark 6 = .ok (.aload_n 0, 1) := by decide +kernel
theorem dX9_mark_7 : decode cX9_mark 7 = .ok (.getfield 28, 3) := by decide +kernel
theorem dX9_mark_10 : decode cX9_mark 10 = .ok (.iload_n 1, 1) := by decide +kernel
theorem dX9_mark_11 : decode cX9_mark 11 = .ok (.invokevirtual 102, 3) := by decide +kernel
theorem dX9_mark_14 : decode cX9_mark 14 = .ok (.iconst (-1), 1) := by decide +kernel
theorem dX9_mark_15 : decode cX9_mark 15 = .ok (.if_icmp .eq 15, 3) := by decide +kernel
theorem dX9_mark_18 : decode cX9_mark 18 = .ok (.iload_n 2, 1) := by decide +kernel
theorem dX9_mark_19 : decode cX9_mark 19 = .ok (.ifCond .eq 21, 3) := by decide +kernel
theorem dX9_mark_22 : decode cX9_mark 22 = .ok (.aload_n 0, 1) := by decide +kernel
theorem dX9_mark_23 : decode cX9_mark 23 = .ok (.iload_n 1, 1) := by decide +kernel
theorem dX9_mark_24 : decode cX9_mark 24 = .ok (.invokevirtual 202, 3) := by decide +kernel
theorem dX9_mark_27 : decode cX9_mark 27 = .ok (.ifCond .eq 13, 3) := by decide +kernel
theorem dX9_mark_30 : decode cX9_mark 30 = .ok (.new 110, 3) := by decide +kernel
theorem dX9_mark_33 : decode cX9_mark 33 = .ok (.dup, 1) := by decide +kernel
theorem dX9_mark_34 : decode cX9_mark 34 = .ok (.ldc 205, 2) := by decide +kernel
theorem dX9_mark_36 : decode cX9_mark 36 = .ok (.invokespecial 114, 3) := by decide +kernel
theorem dX9_mark_39 : decode cX9_mark 39 = .ok (.athrow, 1) := by decide +kernel
theorem dX9_mark_40 : decode cX9_mark 40 = .ok (.aload_n 0, 1) := by decide +kernel
theorem dX9_mark_41 : decode cX9_mark 41 = .ok (.getfield 28, 3) := by decide +kernel
theorem dX9_mark_44 : decode cX9_mark 44 = .ok (.iload_n 1, 1) := by decide +kernel
theorem dX9_mark_45 : decode cX9_mark 45 = .ok (.invokevirtual 207, 3) := by decide +kernel
theorem dX9_mark_48 : decode cX9_mark 48 = .ok (.istore_n 3, 1) := by decide +kernel
theorem dX9_mark_49 : decode cX9_mark 49 = .ok (.aload_n 0, 1) := by decide +kernel
theorem dX9_mark_50 : decode cX9_mark 50 = .ok (.getfield 28, 3) := by decide +kernel
theorem dX9_mark_53 : decode cX9_mark 53 = .ok (.iload_n 1, 1) := by decide +kernel
theorem dX9_mark_54 : decode cX9_mark 54 = .ok (.iload_n 2, 1) := by decide +kernel
theorem dX9_mark_55 : decode cX9_mark 55 = .ok (.invokevirtual 211, 3) := by decide +kernel
theorem dX9_mark_58 : decode cX9_mark 58 = .ok (.iload_n 3, 1) := by decide +kernel
theorem dX9_mark_59 : decode cX9_mark 59 = .ok (.ireturn, 1) := by decide +kernel
theorem dX9_markCount_0 : decode cX9_markCount 0 = .ok (.aload_n 0, 1) := by decide +kernel
theorem dX9_markCount_1 : decode cX9_markCount 1 = .ok (.getfield 28, 3) := by decide +kernel
theorem dX9_markCount_4 : decode cX9_markCount 4 = .ok (.invokevirtual 215, 3) := by decide +kernel
theorem dX9_markCount_7 : decode cX9_markCount 7 = .ok (.ireturn, 1) := by decide +kernel
theorem dX9_setDue_0 : decode cX9_setDue 0 = .ok (.iload_n 1, 1) := by decide +kernel
theorem dX9_setDue_1 : decode cX9_setDue 1 = .ok (.bipush 64, 2) := by decide +kernel
theorem dX9_setDue_3 : decode cX9_setDue 3 = .ok (.invokestatic 98, 3) := by decide +kernel
theorem dX9_setDue_6 : decode cX9_setDue 6 = .ok (.iload_n 2, 1) := by decide +kernel
theorem dX9_setDue_7 : decode cX9_setDue 7 = .ok (.iconst (-1), 1) := by decide +kernel
theorem dX9_setDue_8 : decode cX9_setDue 8 = .ok (.if_icmp .lt 9, 3) := by decide +kernel
theorem dX9_setDue_11 : decode cX9_setDue 11 = .ok (.iload_n 2, 1) := by decide +kernel
theorem dX9_setDue_12 : decode cX9_setDue 12 = .ok (.ldc 218, 2) := by decide +kernel
theorem dX9_setDue_14 : decode cX9_setDue 14 = .ok (.if_icmp .le 13, 3) := by decide +kernel
theorem dX9_setDue_17 : decode cX9_setDue 17 = .ok (.new 219, 3) := by decide +kernel
theorem dX9_setDue_20 : decode cX9_setDue 20 = .ok (.dup, 1) := by decide +kernel
theorem dX9_setDue_21 : decode cX9_setDue 21 = .ok (.ldc 221, 2) := by decide +kernel
theorem dX9_setDue_23 : decode cX9_setDue 23 = .ok (.invokespecial 223, 3) := by decide +kernel
theorem dX9_setDue_26 : decode cX9_setDue 26 = .ok (.athrow, 1) := by decide +kernel
theorem dX9_setDue_27 : decode cX9_setDue 27 = .ok (.aload_n 0, 1) := by decide +kernel
theorem dX9_setDue_28 : decode cX9_setDue 28 = .ok (.getfield 28, 3) := by decide +kernel
theorem dX9_setDue_31 : decode cX9_setDue 31 = .ok (.iload_n 1, 1) := by decide +kernel
theorem dX9_setDue_32 : decode cX9_setDue 32 = .ok (.invokevirtual 102, 3) := by decide +kernel
theorem dX9_setDue_35 : decode cX9_setDue 35 = .ok (.iconst (-1), 1) := by decide +kernel
theorem dX9_setDue_36 : decode cX9_setDue 36 = .ok (.if_icmp .ne 13, 3) := by decide +kernel
theorem dX9_setDue_39 : decode cX9_setDue 39 = .ok (.new 110, 3) := by decide +kernel
theorem dX9_setDue_42 : decode cX9_setDue 42 = .ok (.dup, 1) := by decide +kernel
theorem dX9_setDue_43 : decode cX9_setDue 43 = .ok (.ldc 224, 2) := by decide +kernel
theorem dX9_setDue_45 : decode cX9_setDue 45 = .ok (.invokespecial 114, 3) := by decide +kernel
theorem dX9_setDue_48 : decode cX9_setDue 48 = .ok (.athrow, 1) := by decide +kernel
theorem dX9_setDue_49 : decode cX9_setDue 49 = .ok (.aload_n 0, 1) := by decide +kernel
theorem dX9_setDue_50 : decode cX9_setDue 50 = .ok (.getfield 28, 3) := by decide +kernel
theorem dX9_setDue_53 : decode cX9_setDue 53 = .ok (.iload_n 1, 1) := by decide +kernel
theorem dX9_setDue_54 : decode cX9_setDue 54 = .ok (.invokevirtual 226, 3) := by decide +kernel
theorem dX9_setDue_57 : decode cX9_setDue 57 = .ok (.istore_n 3, 1) := by decide +kernel
theorem dX9_setDue_58 : decode cX9_setDue 58 = .ok (.aload_n 0, 1) := by decide +kernel
theorem dX9_setDue_59 : decode cX9_setDue 59 = .ok (.getfield 28, 3) := by decide +kernel
theorem dX9_setDue_62 : decode cX9_setDue 62 = .ok (.iload_n 1, 1) := by decide +kernel
theorem dX9_setDue_63 : decode cX9_setDue 63 = .ok (.iload_n 2, 1) := by decide +kernel
theorem dX9_setDue_64 : decode cX9_setDue 64 = .ok (.invokevirtual 229, 3) := by decide +kernel
theorem dX9_setDue_67 : decode cX9_setDue 67 = .ok (.iload_n 3, 1) := by decide +kernel
theorem dX9_setDue_68 : decode cX9_setDue 68 = .ok (.ireturn, 1) := by decide +kernel
theorem dX9_passDays_0 : decode cX9_passDays 0 = .ok (.iload_n 1, 1) := by decide +kernel
theorem dX9_passDays_1 : decode cX9_passDays 1 = .ok (.iconst 1, 1) := by decide +kernel
theorem dX9_passDays_2 : decode cX9_passDays 2 = .ok (.if_icmp .lt 10, 3) := by decide +kernel
theorem dX9_passDays_5 : decode cX9_passDays 5 = .ok (.iload_n 1, 1) := by decide +kernel
theorem dX9_passDays_6 : decode cX9_passDays 6 = .ok (.sipush 10000, 3) := by decide +kernel
theorem dX9_passDays_9 : decode cX9_passDays 9 = .ok (.if_icmp .le 13, 3) := by decide +kernel
theorem dX9_passDays_12 : decode cX9_passDays 12 = .ok (.new 219, 3) := by decide +kernel
theorem dX9_passDays_15 : decode cX9_passDays 15 = .ok (.dup, 1) := by decide +kernel
theorem dX9_passDays_16 : decode cX9_passDays 16 = .ok (.ldc 232, 2) := by decide +kernel
theorem dX9_passDays_18 : decode cX9_passDays 18 = .ok (.invokespecial 223, 3) := by decide +kernel
theorem dX9_passDays_21 : decode cX9_passDays 21 = .ok (.athrow, 1) := by decide +kernel
theorem dX9_passDays_22 : decode cX9_passDays 22 = .ok (.aload_n 0, 1) := by decide +kernel
theorem dX9_passDays_23 : decode cX9_passDays 23 = .ok (.getfield 234, 3) := by decide +kernel
theorem dX9_passDays_26 : decode cX9_passDays 26 = .ok (.iload_n 1, 1) := by decide +kernel
theorem dX9_passDays_27 : decode cX9_passDays 27 = .ok (.iadd, 1) := by decide +kernel
theorem dX9_passDays_28 : decode cX9_passDays 28 = .ok (.ldc 218, 2) := by decide +kernel
theorem dX9_passDays_30 : decode cX9_passDays 30 = .ok (.if_icmp .le 13, 3) := by decide +kernel
theorem dX9_passDays_33 : decode cX9_passDays 33 = .ok (.new 110, 3) := by decide +kernel
theorem dX9_passDays_36 : decode cX9_passDays 36 = .ok (.dup, 1) := by decide +kernel
theorem dX9_passDays_37 : decode cX9_passDays 37 = .ok (.ldc 238, 2) := by decide +kernel
theorem dX9_passDays_39 : decode cX9_passDays 39 = .ok (.invokespecial 114, 3) := by decide +kernel
theorem dX9_passDays_42 : decode cX9_passDays 42 = .ok (.athrow, 1) := by decide +kernel
theorem dX9_passDays_43 : decode cX9_passDays 43 = .ok (.aload_n 0, 1) := by decide +kernel
theorem dX9_passDays_44 : decode cX9_passDays 44 = .ok (.dup, 1) := by decide +kernel
theorem dX9_passDays_45 : decode cX9_passDays 45 = .ok (.getfield 234, 3) := by decide +kernel
theorem dX9_passDays_48 : decode cX9_passDays 48 = .ok (.iload_n 1, 1) := by decide +kernel
theorem dX9_passDays_49 : decode cX9_passDays 49 = .ok (.iadd, 1) := by decide +kernel
theorem dX9_passDays_50 : decode cX9_passDays 50 = .ok (.putfield 234, 3) := by decide +kernel
theorem dX9_passDays_53 : decode cX9_passDays 53 = .ok (.iconst 0, 1) := by decide +kernel
theorem dX9_passDays_54 : decode cX9_passDays 54 = .ok (.istore_n 2, 1) := by decide +kernel
theorem dX9_passDays_55 : decode cX9_passDays 55 = .ok (.iconst 0, 1) := by decide +kernel
theorem dX9_passDays_56 : decode cX9_passDays 56 = .ok (.istore_n 3, 1) := by decide +kernel
theorem dX9_passDays_57 : decode cX9_passDays 57 = .ok (.iload_n 3, 1) := by decide +kernel
theorem dX9_passDays_58 : decode cX9_passDays 58 = .ok (.bipush 64, 2) := by decide +kernel
theorem dX9_passDays_60 : decode cX9_passDays 60 = .ok (.if_icmp .ge 55, 3) := by decide +kernel
theorem dX9_passDays_63 : decode cX9_passDays 63 = .ok (.aload_n 0, 1) := by decide +kernel
theorem dX9_passDays_64 : decode cX9_passDays 64 = .ok (.getfield 28, 3) := by decide +kernel
theorem dX9_passDays_67 : decode cX9_passDays 67 = .ok (.iload_n 3, 1) := by decide +kernel
theorem dX9_passDays_68 : decode cX9_passDays 68 = .ok (.aload_n 0, 1) := by decide +kernel
theorem dX9_passDays_69 : decode cX9_passDays 69 = .ok (.getfield 234, 3) := by decide +kernel
theorem dX9_passDays_72 : decode cX9_passDays 72 = .ok (.invokevirtual 240, 3) := by decide +kernel
theorem dX9_passDays_75 : decode cX9_passDays 75 = .ok (.ifCond .eq 34, 3) := by decide +kernel
theorem dX9_passDays_78 : decode cX9_passDays 78 = .ok (.aload_n 0, 1) := by decide +kernel
theorem dX9_passDays_79 : decode cX9_passDays 79 = .ok (.getfield 28, 3) := by decide +kernel
theorem dX9_passDays_82 : decode cX9_passDays 82 = .ok (.iload_n 3, 1) := by decide +kernel
theorem dX9_passDays_83 : decode cX9_passDays 83 = .ok (.invokevirtual 207, 3) := by decide +kernel
theorem dX9_passDays_86 : decode cX9_passDays 86 = .ok (.ifCond .ne 23, 3) := by decide +kernel
theorem dX9_passDays_89 : decode cX9_passDays 89 = .ok (.aload_n 0, 1) := by decide +kernel
theorem dX9_passDays_90 : decode cX9_passDays 90 = .ok (.iload_n 3, 1) := by decide +kernel
theorem dX9_passDays_91 : decode cX9_passDays 91 = .ok (.invokevirtual 202, 3) := by decide +kernel
theorem dX9_passDays_94 : decode cX9_passDays 94 = .ok (.ifCond .ne 15, 3) := by decide +kernel
theorem dX9_passDays_97 : decode cX9_passDays 97 = .ok (.aload_n 0, 1) := by decide +kernel
theorem dX9_passDays_98 : decode cX9_passDays 98 = .ok (.getfield 28, 3) := by decide +kernel
theorem dX9_passDays_101 : decode cX9_passDays 101 = .ok (.iload_n 3, 1) := by decide +kernel
theorem dX9_passDays_102 : decode cX9_passDays 102 = .ok (.iconst 1, 1) := by decide +kernel
theorem dX9_passDays_103 : decode cX9_passDays 103 = .ok (.invokevirtual 211, 3) := by decide +kernel
theorem dX9_passDays_106 : decode cX9_passDays 106 = .ok (.iinc 2 1, 3) := by decide +kernel
theorem dX9_passDays_109 : decode cX9_passDays 109 = .ok (.iinc 3 1, 3) := by decide +kernel
theorem dX9_passDays_112 : decode cX9_passDays 112 = .ok (.goto (-55), 3) := by decide +kernel
theorem dX9_passDays_115 : decode cX9_passDays 115 = .ok (.iload_n 2, 1) := by decide +kernel
theorem dX9_passDays_116 : decode cX9_passDays 116 = .ok (.ireturn, 1) := by decide +kernel
theorem dX9_day_0 : decode cX9_day 0 = .ok (.aload_n 0, 1) := by decide +kernel
theorem dX9_day_1 : decode cX9_day 1 = .ok (.getfield 234, 3) := by decide +kernel
theorem dX9_day_4 : decode cX9_day 4 = .ok (.ireturn, 1) := by decide +kernel
theorem dX9_dueCount_0 : decode cX9_dueCount 0 = .ok (.iconst 0, 1) := by decide +kernel
theorem dX9_dueCount_1 : decode cX9_dueCount 1 = .ok (.istore_n 2, 1) := by decide +kernel
theorem dX9_dueCount_2 : decode cX9_dueCount 2 = .ok (.iconst 0, 1) := by decide +kernel
theorem dX9_dueCount_3 : decode cX9_dueCount 3 = .ok (.istore_n 3, 1) := by decide +kernel
theorem dX9_dueCount_4 : decode cX9_dueCount 4 = .ok (.iload_n 3, 1) := by decide +kernel
theorem dX9_dueCount_5 : decode cX9_dueCount 5 = .ok (.bipush 64, 2) := by decide +kernel
theorem dX9_dueCount_7 : decode cX9_dueCount 7 = .ok (.if_icmp .ge 44, 3) := by decide +kernel
theorem dX9_dueCount_10 : decode cX9_dueCount 10 = .ok (.aload_n 0, 1) := by decide +kernel
theorem dX9_dueCount_11 : decode cX9_dueCount 11 = .ok (.getfield 28, 3) := by decide +kernel
theorem dX9_dueCount_14 : decode cX9_dueCount 14 = .ok (.iload_n 3, 1) := by decide +kernel
theorem dX9_dueCount_15 : decode cX9_dueCount 15 = .ok (.aload_n 0, 1) := by decide +kernel
theorem dX9_dueCount_16 : decode cX9_dueCount 16 = .ok (.getfield 234, 3) := by decide +kernel
theorem dX9_dueCount_19 : decode cX9_dueCount 19 = .ok (.invokevirtual 240, 3) := by decide +kernel
theorem dX9_dueCount_22 : decode cX9_dueCount 22 = .ok (.ifCond .eq 23, 3) := by decide +kernel
theorem dX9_dueCount_25 : decode cX9_dueCount 25 = .ok (.aload_n 0, 1) := by decide +kernel
theorem dX9_dueCount_26 : decode cX9_dueCount 26 = .ok (.iload_n 3, 1) := by decide +kernel
theorem dX9_dueCount_27 : decode cX9_dueCount 27 = .ok (.invokevirtual 202, 3) := by decide +kernel
theorem dX9_dueCount_30 : decode cX9_dueCount 30 = .ok (.ifCond .eq 7, 3) := by decide +kernel
theorem dX9_dueCount_33 : decode cX9_dueCount 33 = .ok (.iconst 1, 1) := by decide +kernel
theorem dX9_dueCount_34 : decode cX9_dueCount 34 = .ok (.goto 4, 3) := by decide +kernel
theorem dX9_dueCount_37 : decode cX9_dueCount 37 = .ok (.iconst 0, 1) := by decide +kernel
theorem dX9_dueCount_38 : decode cX9_dueCount 38 = .ok (.iload_n 1, 1) := by decide +kernel
theorem dX9_dueCount_39 : decode cX9_dueCount 39 = .ok (.if_icmp .ne 6, 3) := by decide +kernel
theorem dX9_dueCount_42 : decode cX9_dueCount 42 = .ok (.iinc 2 1, 3) := by decide +kernel
theorem dX9_dueCount_45 : decode cX9_dueCount 45 = .ok (.iinc 3 1, 3) := by decide +kernel
theorem dX9_dueCount_48 : decode cX9_dueCount 48 = .ok (.goto (-44), 3) := by decide +kernel
theorem dX9_dueCount_51 : decode cX9_dueCount 51 = .ok (.iload_n 2, 1) := by decide +kernel
theorem dX9_dueCount_52 : decode cX9_dueCount 52 = .ok (.ireturn, 1) := by decide +kernel
theorem dX9_extraCost_0 : decode cX9_extraCost 0 = .ok (.iload_n 1, 1) := by decide +kernel
theorem dX9_extraCost_1 : decode cX9_extraCost 1 = .ok (.bipush 64, 2) := by decide +kernel
theorem dX9_extraCost_3 : decode cX9_extraCost 3 = .ok (.invokestatic 98, 3) := by decide +kernel
theorem dX9_extraCost_6 : decode cX9_extraCost 6 = .ok (.aload_n 0, 1) := by decide +kernel
theorem dX9_extraCost_7 : decode cX9_extraCost 7 = .ok (.getfield 28, 3) := by decide +kernel
theorem dX9_extraCost_10 : decode cX9_extraCost 10 = .ok (.iload_n 1, 1) := by decide +kernel
theorem dX9_extraCost_11 : decode cX9_extraCost 11 = .ok (.invokevirtual 102, 3) := by decide +kernel
theorem dX9_extraCost_14 : decode cX9_extraCost 14 = .ok (.iconst (-1), 1) := by decide +kernel
theorem dX9_extraCost_15 : decode cX9_extraCost 15 = .ok (.if_icmp .eq 11, 3) := by decide +kernel
theorem dX9_extraCost_18 : decode cX9_extraCost 18 = .ok (.aload_n 0, 1) := by decide +kernel
theorem dX9_extraCost_19 : decode cX9_extraCost 19 = .ok (.iload_n 1, 1) := by decide +kernel
theorem dX9_extraCost_20 : decode cX9_extraCost 20 = .ok (.invokevirtual 202, 3) := by decide +kernel
theorem dX9_extraCost_23 : decode cX9_extraCost 23 = .ok (.ifCond .eq 13, 3) := by decide +kernel
theorem dX9_extraCost_26 : decode cX9_extraCost 26 = .ok (.new 110, 3) := by decide +kernel
theorem dX9_extraCost_29 : decode cX9_extraCost 29 = .ok (.dup, 1) := by decide +kernel
theorem dX9_extraCost_30 : decode cX9_extraCost 30 = .ok (.ldc 205, 2) := by decide +kernel
theorem dX9_extraCost_32 : decode cX9_extraCost 32 = .ok (.invokespecial 114, 3) := by decide +kernel
theorem dX9_extraCost_35 : decode cX9_extraCost 35 = .ok (.athrow, 1) := by decide +kernel
theorem dX9_extraCost_36 : decode cX9_extraCost 36 = .ok (.aload_n 0, 1) := by decide +kernel
theorem dX9_extraCost_37 : decode cX9_extraCost 37 = .ok (.getfield 28, 3) := by decide +kernel
theorem dX9_extraCost_40 : decode cX9_extraCost 40 = .ok (.iload_n 1, 1) := by decide +kernel
theorem dX9_extraCost_41 : decode cX9_extraCost 41 = .ok (.invokevirtual 207, 3) := by decide +kernel
theorem dX9_extraCost_44 : decode cX9_extraCost 44 = .ok (.ifCond .eq 5, 3) := by decide +kernel
theorem dX9_extraCost_47 : decode cX9_extraCost 47 = .ok (.iconst 0, 1) := by decide +kernel
theorem dX9_extraCost_48 : decode cX9_extraCost 48 = .ok (.ireturn, 1) := by decide +kernel
theorem dX9_extraCost_49 : decode cX9_extraCost 49 = .ok (.aload_n 0, 1) := by decide +kernel
theorem dX9_extraCost_50 : decode cX9_extraCost 50 = .ok (.getfield 62, 3) := by decide +kernel
theorem dX9_extraCost_53 : decode cX9_extraCost 53 = .ok (.iconst (-1), 1) := by decide +kernel
theorem dX9_extraCost_54 : decode cX9_extraCost 54 = .ok (.invokevirtual 243, 3) := by decide +kernel
theorem dX9_extraCost_57 : decode cX9_extraCost 57 = .ok (.aload_n 0, 1) := by decide +kernel
theorem dX9_extraCost_58 : decode cX9_extraCost 58 = .ok (.getfield 62, 3) := by decide +kernel
theorem dX9_extraCost_61 : decode cX9_extraCost 61 = .ok (.invokevirtual 246, 3) := by decide +kernel
theorem dX9_extraCost_64 : decode cX9_extraCost 64 = .ok (.istore_n 2, 1) := by decide +kernel
theorem dX9_extraCost_65 : decode cX9_extraCost 65 = .ok (.aload_n 0, 1) := by decide +kernel
theorem dX9_extraCost_66 : decode cX9_extraCost 66 = .ok (.getfield 62, 3) := by decide +kernel
theorem dX9_extraCost_69 : decode cX9_extraCost 69 = .ok (.iload_n 1, 1) := by decide +kernel
theorem dX9_extraCost_70 : decode cX9_extraCost 70 = .ok (.invokevirtual 243, 3) := by decide +kernel
theorem dX9_extraCost_73 : decode cX9_extraCost 73 = .ok (.aload_n 0, 1) := by decide +kernel
theorem dX9_extraCost_74 : decode cX9_extraCost 74 = .ok (.getfield 62, 3) := by decide +kernel
theorem dX9_extraCost_77 : decode cX9_extraCost 77 = .ok (.invokevirtual 246, 3) := by decide +kernel
theorem dX9_extraCost_80 : decode cX9_extraCost 80 = .ok (.iload_n 2, 1) := by decide +kernel
theorem dX9_extraCost_81 : decode cX9_extraCost 81 = .ok (.isub, 1) := by decide +kernel
theorem dX9_extraCost_82 : decode cX9_extraCost 82 = .ok (.ireturn, 1) := by decide +kernel
theorem dX9_forget_0 : decode cX9_forget 0 = .ok (.aload_n 0, 1) := by decide +kernel
theorem dX9_forget_1 : decode cX9_forget 1 = .ok (.getfield 62, 3) := by decide +kernel
theorem dX9_forget_4 : decode cX9_forget 4 = .ok (.iconst (-1), 1) := by decide +kernel
theorem dX9_forget_5 : decode cX9_forget 5 = .ok (.invokevirtual 243, 3) := by decide +kernel
theorem dX9_forget_8 : decode cX9_forget 8 = .ok (.aload_n 0, 1) := by decide +kernel
theorem dX9_forget_9 : decode cX9_forget 9 = .ok (.getfield 62, 3) := by decide +kernel
theorem dX9_forget_12 : decode cX9_forget 12 = .ok (.invokevirtual 249, 3) := by decide +kernel
theorem dX9_forget_15 : decode cX9_forget 15 = .ok (.ifCond .ne 14, 3) := by decide +kernel
theorem dX9_forget_18 : decode cX9_forget 18 = .ok (.iload_n 1, 1) := by decide +kernel
theorem dX9_forget_19 : decode cX9_forget 19 = .ok (.ifCond .ne 20, 3) := by decide +kernel
theorem dX9_forget_22 : decode cX9_forget 22 = .ok (.aload_n 0, 1) := by decide +kernel
theorem dX9_forget_23 : decode cX9_forget 23 = .ok (.invokevirtual 252, 3) := by decide +kernel
theorem dX9_forget_26 : decode cX9_forget 26 = .ok (.ifCond .eq 13, 3) := by decide +kernel
theorem dX9_forget_29 : decode cX9_forget 29 = .ok (.new 110, 3) := by decide +kernel
theorem dX9_forget_32 : decode cX9_forget 32 = .ok (.dup, 1) := by decide +kernel
theorem dX9_forget_33 : decode cX9_forget 33 = .ok (.ldc 255, 2) := by decide +kernel
theorem dX9_forget_35 : decode cX9_forget 35 = .ok (.invokespecial 114, 3) := by decide +kernel
theorem dX9_forget_38 : decode cX9_forget 38 = .ok (.athrow, 1) := by decide +kernel
theorem dX9_forget_39 : decode cX9_forget 39 = .ok (.aload_n 0, 1) := by decide +kernel
theorem dX9_forget_40 : decode cX9_forget 40 = .ok (.getfield 62, 3) := by decide +kernel
theorem dX9_forget_43 : decode cX9_forget 43 = .ok (.invokevirtual 246, 3) := by decide +kernel
theorem dX9_forget_46 : decode cX9_forget 46 = .ok (.istore_n 2, 1) := by decide +kernel
theorem dX9_forget_47 : decode cX9_forget 47 = .ok (.aload_n 0, 1) := by decide +kernel
theorem dX9_forget_48 : decode cX9_forget 48 = .ok (.iload_n 2, 1) := by decide +kernel
theorem dX9_forget_49 : decode cX9_forget 49 = .ok (.invokevirtual 123, 3) := by decide +kernel
theorem dX9_forget_52 : decode cX9_forget 52 = .ok (.aload_n 0, 1) := by decide +kernel
theorem dX9_forget_53 : decode cX9_forget 53 = .ok (.getfield 28, 3) := by decide +kernel
theorem dX9_forget_56 : decode cX9_forget 56 = .ok (.aload_n 0, 1) := by decide +kernel
theorem dX9_forget_57 : decode cX9_forget 57 = .ok (.getfield 62, 3) := by decide +kernel
theorem dX9_forget_60 : decode cX9_forget 60 = .ok (.invokevirtual 257, 3) := by decide +kernel
theorem dX9_forget_63 : decode cX9_forget 63 = .ok (.iconst 0, 1) := by decide +kernel
theorem dX9_forget_64 : decode cX9_forget 64 = .ok (.istore_n 3, 1) := by decide +kernel
theorem dX9_forget_65 : decode cX9_forget 65 = .ok (.iload_n 3, 1) := by decide +kernel
theorem dX9_forget_66 : decode cX9_forget 66 = .ok (.bipush 21, 2) := by decide +kernel
theorem dX9_forget_68 : decode cX9_forget 68 = .ok (.if_icmp .ge 28, 3) := by decide +kernel
theorem dX9_forget_71 : decode cX9_forget 71 = .ok (.aload_n 0, 1) := by decide +kernel
theorem dX9_forget_72 : decode cX9_forget 72 = .ok (.getfield 62, 3) := by decide +kernel
theorem dX9_forget_75 : decode cX9_forget 75 = .ok (.iload_n 3, 1) := by decide +kernel
theorem dX9_forget_76 : decode cX9_forget 76 = .ok (.invokevirtual 261, 3) := by decide +kernel
theorem dX9_forget_79 : decode cX9_forget 79 = .ok (.ifCond .eq 11, 3) := by decide +kernel
theorem dX9_forget_82 : decode cX9_forget 82 = .ok (.aload_n 0, 1) := by decide +kernel
theorem dX9_forget_83 : decode cX9_forget 83 = .ok (.getfield 28, 3) := by decide +kernel
theorem dX9_forget_86 : decode cX9_forget 86 = .ok (.iload_n 3, 1) := by decide +kernel
theorem dX9_forget_87 : decode cX9_forget 87 = .ok (.invokevirtual 264, 3) := by decide +kernel
theorem dX9_forget_90 : decode cX9_forget 90 = .ok (.iinc 3 1, 3) := by decide +kernel
theorem dX9_forget_93 : decode cX9_forget 93 = .ok (.goto (-28), 3) := by decide +kernel
theorem dX9_forget_96 : decode cX9_forget 96 = .ok (.iconst 0, 1) := by decide +kernel
theorem dX9_forget_97 : decode cX9_forget 97 = .ok (.istore_n 3, 1) := by decide +kernel
theorem dX9_forget_98 : decode cX9_forget 98 = .ok (.iload_n 3, 1) := by decide +kernel
theorem dX9_forget_99 : decode cX9_forget 99 = .ok (.bipush 21, 2) := by decide +kernel
theorem dX9_forget_101 : decode cX9_forget 101 = .ok (.if_icmp .ge 25, 3) := by decide +kernel
theorem dX9_forget_104 : decode cX9_forget 104 = .ok (.aload_n 0, 1) := by decide +kernel
theorem dX9_forget_105 : decode cX9_forget 105 = .ok (.getfield 62, 3) := by decide +kernel
theorem dX9_forget_108 : decode cX9_forget 108 = .ok (.iload_n 3, 1) := by decide +kernel
theorem dX9_forget_109 : decode cX9_forget 109 = .ok (.invokevirtual 261, 3) := by decide +kernel
theorem dX9_forget_112 : decode cX9_forget 112 = .ok (.ifCond .eq 8, 3) := by decide +kernel
theorem dX9_forget_115 : decode cX9_forget 115 = .ok (.aload_n 0, 1) := by decide +kernel
theorem dX9_forget_116 : decode cX9_forget 116 = .ok (.iload_n 3, 1) := by decide +kernel
theorem dX9_forget_117 : decode cX9_forget 117 = .ok (.invokevirtual 267, 3) := by decide +kernel
theorem dX9_forget_120 : decode cX9_forget 120 = .ok (.iinc 3 1, 3) := by decide +kernel
theorem dX9_forget_123 : decode cX9_forget 123 = .ok (.goto (-25), 3) := by decide +kernel
theorem dX9_forget_126 : decode cX9_forget 126 = .ok (.aload_n 0, 1) := by decide +kernel
theorem dX9_forget_127 : decode cX9_forget 127 = .ok (.invokevirtual 270, 3) := by decide +kernel
theorem dX9_forget_130 : decode cX9_forget 130 = .ok (.iload_n 2, 1) := by decide +kernel
theorem dX9_forget_131 : decode cX9_forget 131 = .ok (.ireturn, 1) := by decide +kernel
theorem dX9_forgetCost_0 : decode cX9_forgetCost 0 = .ok (.aload_n 0, 1) := by decide +kernel
theorem dX9_forgetCost_1 : decode cX9_forgetCost 1 = .ok (.getfield 62, 3) := by decide +kernel
theorem dX9_forgetCost_4 : decode cX9_forgetCost 4 = .ok (.iconst (-1), 1) := by decide +kernel
theorem dX9_forgetCost_5 : decode cX9_forgetCost 5 = .ok (.invokevirtual 243, 3) := by decide +kernel
theorem dX9_forgetCost_8 : decode cX9_forgetCost 8 = .ok (.aload_n 0, 1) := by decide +kernel
theorem dX9_forgetCost_9 : decode cX9_forgetCost 9 = .ok (.getfield 62, 3) := by decide +kernel
theorem dX9_forgetCost_12 : decode cX9_forgetCost 12 = .ok (.invokevirtual 246, 3) := by decide +kernel
theorem dX9_forgetCost_15 : decode cX9_forgetCost 15 = .ok (.ireturn, 1) := by decide +kernel
theorem dX9_rekeyed_0 : decode cX9_rekeyed 0 = .ok (.iload_n 1, 1) := by decide +kernel
theorem dX9_rekeyed_1 : decode cX9_rekeyed 1 = .ok (.iconst 3, 1) := by decide +kernel
theorem dX9_rekeyed_2 : decode cX9_rekeyed 2 = .ok (.invokestatic 98, 3) := by decide +kernel
theorem dX9_rekeyed_5 : decode cX9_rekeyed 5 = .ok (.aload_n 0, 1) := by decide +kernel
theorem dX9_rekeyed_6 : decode cX9_rekeyed 6 = .ok (.getfield 62, 3) := by decide +kernel
theorem dX9_rekeyed_9 : decode cX9_rekeyed 9 = .ok (.iconst (-1), 1) := by decide +kernel
theorem dX9_rekeyed_10 : decode cX9_rekeyed 10 = .ok (.invokevirtual 243, 3) := by decide +kernel
theorem dX9_rekeyed_13 : decode cX9_rekeyed 13 = .ok (.getstatic 273, 3) := by decide +kernel
theorem dX9_rekeyed_16 : decode cX9_rekeyed 16 = .ok (.iload_n 1, 1) := by decide +kernel
theorem dX9_rekeyed_17 : decode cX9_rekeyed 17 = .ok (.iaload, 1) := by decide +kernel
theorem dX9_rekeyed_18 : decode cX9_rekeyed 18 = .ok (.istore_n 2, 1) := by decide +kernel
theorem dX9_rekeyed_19 : decode cX9_rekeyed 19 = .ok (.iconst 0, 1) := by decide +kernel
theorem dX9_rekeyed_20 : decode cX9_rekeyed 20 = .ok (.istore_n 3, 1) := by decide +kernel
theorem dX9_rekeyed_21 : decode cX9_rekeyed 21 = .ok (.iload_n 2, 1) := by decide +kernel
theorem dX9_rekeyed_22 : decode cX9_rekeyed 22 = .ok (.istore 4, 2) := by decide +kernel
theorem dX9_rekeyed_24 : decode cX9_rekeyed 24 = .ok (.iload 4, 2) := by decide +kernel
theorem dX9_rekeyed_26 : decode cX9_rekeyed 26 = .ok (.getstatic 273, 3) := by decide +kernel
theorem dX9_rekeyed_29 : decode cX9_rekeyed 29 = .ok (.iload_n 1, 1) := by decide +kernel
theorem dX9_rekeyed_30 : decode cX9_rekeyed 30 = .ok (.iconst 1, 1) := by decide +kernel
theorem dX9_rekeyed_31 : decode cX9_rekeyed 31 = .ok (.iadd, 1) := by decide +kernel
theorem dX9_rekeyed_32 : decode cX9_rekeyed 32 = .ok (.iaload, 1) := by decide +kernel
theorem dX9_rekeyed_33 : decode cX9_rekeyed 33 = .ok (.if_icmp .ge 30, 3) := by decide +kernel
theorem dX9_rekeyed_36 : decode cX9_rekeyed 36 = .ok (.aload_n 0, 1) := by decide +kernel
theorem dX9_rekeyed_37 : decode cX9_rekeyed 37 = .ok (.getfield 62, 3) := by decide +kernel
theorem dX9_rekeyed_40 : decode cX9_rekeyed 40 = .ok (.iload 4, 2) := by decide +kernel
theorem dX9_rekeyed_42 : decode cX9_rekeyed 42 = .ok (.invokevirtual 261, 3) := by decide +kernel
theorem dX9_rekeyed_45 : decode cX9_rekeyed 45 = .ok (.ifCond .eq 12, 3) := by decide +kernel
theorem dX9_rekeyed_48 : decode cX9_rekeyed 48 = .ok (.iload_n 3, 1) := by decide +kernel
theorem dX9_rekeyed_49 : decode cX9_rekeyed 49 = .ok (.iconst 1, 1) := by decide +kernel
theorem dX9_rekeyed_50 : decode cX9_rekeyed 50 = .ok (.iload 4, 2) := by decide +kernel
theorem dX9_rekeyed_52 : decode cX9_rekeyed 52 = .ok (.iload_n 2, 1) := by decide +kernel
theorem dX9_rekeyed_53 : decode cX9_rekeyed 53 = .ok (.isub, 1) := by decide +kernel
theorem dX9_rekeyed_54 : decode cX9_rekeyed 54 = .ok (.ishl, 1) := by decide +kernel
theorem dX9_rekeyed_55 : decode cX9_rekeyed 55 = .ok (.ior, 1) := by decide +kernel
theorem dX9_rekeyed_56 : decode cX9_rekeyed 56 = .ok (.istore_n 3, 1) := by decide +kernel
theorem dX9_rekeyed_57 : decode cX9_rekeyed 57 = .ok (.iinc 4 1, 3) := by decide +kernel
theorem dX9_rekeyed_60 : decode cX9_rekeyed 60 = .ok (.goto (-36), 3) := by decide +kernel
theorem dX9_rekeyed_63 : decode cX9_rekeyed 63 = .ok (.iload_n 3, 1) := by decide +kernel
theorem dX9_rekeyed_64 : decode cX9_rekeyed 64 = .ok (.ireturn, 1) := by decide +kernel
theorem dX9_key_0 : decode cX9_key 0 = .ok (.iload_n 1, 1) := by decide +kernel
theorem dX9_key_1 : decode cX9_key 1 = .ok (.bipush 85, 2) := by decide +kernel
theorem dX9_key_3 : decode cX9_key 3 = .ok (.invokestatic 98, 3) := by decide +kernel
theorem dX9_key_6 : decode cX9_key 6 = .ok (.aload_n 0, 1) := by decide +kernel
theorem dX9_key_7 : decode cX9_key 7 = .ok (.getfield 28, 3) := by decide +kernel
theorem dX9_key_10 : decode cX9_key 10 = .ok (.iload_n 1, 1) := by decide +kernel
theorem dX9_key_11 : decode cX9_key 11 = .ok (.invokevirtual 276, 3) := by decide +kernel
theorem dX9_key_14 : decode cX9_key 14 = .ok (.ifCond .eq 14, 3) := by decide +kernel
theorem dX9_key_17 : decode cX9_key 17 = .ok (.aload_n 0, 1) := by decide +kernel
theorem dX9_key_18 : decode cX9_key 18 = .ok (.getfield 28, 3) := by decide +kernel
theorem dX9_key_21 : decode cX9_key 21 = .ok (.iload_n 1, 1) := by decide +kernel
theorem dX9_key_22 : decode cX9_key 22 = .ok (.invokevirtual 136, 3) := by decide +kernel
theorem dX9_key_25 : decode cX9_key 25 = .ok (.goto 4, 3) := by decide +kernel
theorem dX9_key_28 : decode cX9_key 28 = .ok (.iconst (-1), 1) := by decide +kernel
theorem dX9_key_29 : decode cX9_key 29 = .ok (.ireturn, 1) := by decide +kernel
theorem dX9_keyValue_0 : decode cX9_keyValue 0 = .ok (.aload_n 0, 1) := by decide +kernel
theorem dX9_keyValue_1 : decode cX9_keyValue 1 = .ok (.getfield 10, 3) := by decide +kernel
theorem dX9_keyValue_4 : decode cX9_keyValue 4 = .ok (.iload_n 1, 1) := by decide +kernel
theorem dX9_keyValue_5 : decode cX9_keyValue 5 = .ok (.invokevirtual 279, 3) := by decide +kernel
theorem dX9_keyValue_8 : decode cX9_keyValue 8 = .ok (.ifCond .ne 14, 3) := by decide +kernel
theorem dX9_keyValue_11 : decode cX9_keyValue 11 = .ok (.new 282, 3) := by decide +kernel
theorem dX9_keyValue_14 : decode cX9_keyValue 14 = .ok (.dup, 1) := by decide +kernel
theorem dX9_keyValue_15 : decode cX9_keyValue 15 = .ok (.ldc_w 284, 3) := by decide +kernel
theorem dX9_keyValue_18 : decode cX9_keyValue 18 = .ok (.invokespecial 286, 3) := by decide +kernel
theorem dX9_keyValue_21 : decode cX9_keyValue 21 = .ok (.athrow, 1) := by decide +kernel
theorem dX9_keyValue_22 : decode cX9_keyValue 22 = .ok (.aload_n 0, 1) := by decide +kernel
theorem dX9_keyValue_23 : decode cX9_keyValue 23 = .ok (.getfield 10, 3) := by decide +kernel
theorem dX9_keyValue_26 : decode cX9_keyValue 26 = .ok (.iload_n 1, 1) := by decide +kernel
theorem dX9_keyValue_27 : decode cX9_keyValue 27 = .ok (.invokevirtual 287, 3) := by decide +kernel
theorem dX9_keyValue_30 : decode cX9_keyValue 30 = .ok (.ireturn, 1) := by decide +kernel
theorem dX9_keep_0 : decode cX9_keep 0 = .ok (.iload_n 1, 1) := by decide +kernel
theorem dX9_keep_1 : decode cX9_keep 1 = .ok (.iconst 4, 1) := by decide +kernel
theorem dX9_keep_2 : decode cX9_keep 2 = .ok (.invokestatic 98, 3) := by decide +kernel
theorem dX9_keep_5 : decode cX9_keep 5 = .ok (.iload_n 2, 1) := by decide +kernel
theorem dX9_keep_6 : decode cX9_keep 6 = .ok (.bipush 85, 2) := by decide +kernel
theorem dX9_keep_8 : decode cX9_keep 8 = .ok (.invokestatic 98, 3) := by decide +kernel
theorem dX9_keep_11 : decode cX9_keep 11 = .ok (.aload_n 0, 1) := by decide +kernel
theorem dX9_keep_12 : decode cX9_keep 12 = .ok (.getfield 28, 3) := by decide +kernel
theorem dX9_keep_15 : decode cX9_keep 15 = .ok (.iload_n 2, 1) := by decide +kernel
theorem dX9_keep_16 : decode cX9_keep 16 = .ok (.invokevirtual 276, 3) := by decide +kernel
theorem dX9_keep_19 : decode cX9_keep 19 = .ok (.ifCond .ne 14, 3) := by decide +kernel
theorem dX9_keep_22 : decode cX9_keep 22 = .ok (.new 110, 3) := by decide +kernel
theorem dX9_keep_25 : decode cX9_keep 25 = .ok (.dup, 1) := by decide +kernel
theorem dX9_keep_26 : decode cX9_keep 26 = .ok (.ldc_w 290, 3) := by decide +kernel
theorem dX9_keep_29 : decode cX9_keep 29 = .ok (.invokespecial 114, 3) := by decide +kernel
theorem dX9_keep_32 : decode cX9_keep 32 = .ok (.athrow, 1) := by decide +kernel
theorem dX9_keep_33 : decode cX9_keep 33 = .ok (.aload_n 0, 1) := by decide +kernel
theorem dX9_keep_34 : decode cX9_keep 34 = .ok (.getfield 88, 3) := by decide +kernel
theorem dX9_keep_37 : decode cX9_keep 37 = .ok (.iload_n 1, 1) := by decide +kernel
theorem dX9_keep_38 : decode cX9_keep 38 = .ok (.aload_n 0, 1) := by decide +kernel
theorem dX9_keep_39 : decode cX9_keep 39 = .ok (.getfield 28, 3) := by decide +kernel
theorem dX9_keep_42 : decode cX9_keep 42 = .ok (.iload_n 2, 1) := by decide +kernel
theorem dX9_keep_43 : decode cX9_keep 43 = .ok (.invokevirtual 136, 3) := by decide +kernel
theorem dX9_keep_46 : decode cX9_keep 46 = .ok (.iastore, 1) := by decide +kernel
theorem dX9_keep_47 : decode cX9_keep 47 = .ok (.aload_n 0, 1) := by decide +kernel
theorem dX9_keep_48 : decode cX9_keep 48 = .ok (.getfield 91, 3) := by decide +kernel
theorem dX9_keep_51 : decode cX9_keep 51 = .ok (.iload_n 1, 1) := by decide +kernel
theorem dX9_keep_52 : decode cX9_keep 52 = .ok (.iload_n 2, 1) := by decide +kernel
theorem dX9_keep_53 : decode cX9_keep 53 = .ok (.iastore, 1) := by decide +kernel
theorem dX9_keep_54 : decode cX9_keep 54 = .ok (.aload_n 0, 1) := by decide +kernel
theorem dX9_keep_55 : decode cX9_keep 55 = .ok (.getfield 88, 3) := by decide +kernel
theorem dX9_keep_58 : decode cX9_keep 58 = .ok (.iload_n 1, 1) := by decide +kernel
theorem dX9_keep_59 : decode cX9_keep 59 = .ok (.iaload, 1) := by decide +kernel
theorem dX9_keep_60 : decode cX9_keep 60 = .ok (.ireturn, 1) := by decide +kernel
theorem dX9_drop_0 : decode cX9_drop 0 = .ok (.iload_n 1, 1) := by decide +kernel
theorem dX9_drop_1 : decode cX9_drop 1 = .ok (.iconst 4, 1) := by decide +kernel
theorem dX9_drop_2 : decode cX9_drop 2 = .ok (.invokestatic 98, 3) := by decide +kernel
theorem dX9_drop_5 : decode cX9_drop 5 = .ok (.aload_n 0, 1) := by decide +kernel
theorem dX9_drop_6 : decode cX9_drop 6 = .ok (.getfield 88, 3) := by decide +kernel
theorem dX9_drop_9 : decode cX9_drop 9 = .ok (.iload_n 1, 1) := by decide +kernel
theorem dX9_drop_10 : decode cX9_drop 10 = .ok (.iaload, 1) := by decide +kernel
theorem dX9_drop_11 : decode cX9_drop 11 = .ok (.istore_n 2, 1) := by decide +kernel
theorem dX9_drop_12 : decode cX9_drop 12 = .ok (.aload_n 0, 1) := by decide +kernel
theorem dX9_drop_13 : decode cX9_drop 13 = .ok (.getfield 88, 3) := by decide +kernel
theorem dX9_drop_16 : decode cX9_drop 16 = .ok (.iload_n 1, 1) := by decide +kernel
theorem dX9_drop_17 : decode cX9_drop 17 = .ok (.iconst (-1), 1) := by decide +kernel
theorem dX9_drop_18 : decode cX9_drop 18 = .ok (.iastore, 1) := by decide +kernel
theorem dX9_drop_19 : decode cX9_drop 19 = .ok (.aload_n 0, 1) := by decide +kernel
theorem dX9_drop_20 : decode cX9_drop 20 = .ok (.getfield 91, 3) := by decide +kernel
theorem dX9_drop_23 : decode cX9_drop 23 = .ok (.iload_n 1, 1) := by decide +kernel
theorem dX9_drop_24 : decode cX9_drop 24 = .ok (.iconst (-1), 1) := by decide +kernel
theorem dX9_drop_25 : decode cX9_drop 25 = .ok (.iastore, 1) := by decide +kernel
theorem dX9_drop_26 : decode cX9_drop 26 = .ok (.iload_n 2, 1) := by decide +kernel
theorem dX9_drop_27 : decode cX9_drop 27 = .ok (.ireturn, 1) := by decide +kernel
theorem dX9_custodian_0 : decode cX9_custodian 0 = .ok (.iload_n 1, 1) := by decide +kernel
theorem dX9_custodian_1 : decode cX9_custodian 1 = .ok (.iconst 4, 1) := by decide +kernel
theorem dX9_custodian_2 : decode cX9_custodian 2 = .ok (.invokestatic 98, 3) := by decide +kernel
theorem dX9_custodian_5 : decode cX9_custodian 5 = .ok (.iload_n 2, 1) := by decide +kernel
theorem dX9_custodian_6 : decode cX9_custodian 6 = .ok (.iconst 4, 1) := by decide +kernel
theorem dX9_custodian_7 : decode cX9_custodian 7 = .ok (.invokestatic 166, 3) := by decide +kernel
theorem dX9_custodian_10 : decode cX9_custodian 10 = .ok (.aload_n 0, 1) := by decide +kernel
theorem dX9_custodian_11 : decode cX9_custodian 11 = .ok (.getfield 88, 3) := by decide +kernel
theorem dX9_custodian_14 : decode cX9_custodian 14 = .ok (.iload_n 1, 1) := by decide +kernel
theorem dX9_custodian_15 : decode cX9_custodian 15 = .ok (.iaload, 1) := by decide +kernel
theorem dX9_custodian_16 : decode cX9_custodian 16 = .ok (.istore_n 3, 1) := by decide +kernel
theorem dX9_custodian_17 : decode cX9_custodian 17 = .ok (.iload_n 3, 1) := by decide +kernel
theorem dX9_custodian_18 : decode cX9_custodian 18 = .ok (.iconst (-1), 1) := by decide +kernel
theorem dX9_custodian_19 : decode cX9_custodian 19 = .ok (.if_icmp .eq 7, 3) := by decide +kernel
theorem dX9_custodian_22 : decode cX9_custodian 22 = .ok (.iload_n 2, 1) := by decide +kernel
theorem dX9_custodian_23 : decode cX9_custodian 23 = .ok (.ifCond .ne 5, 3) := by decide +kernel
theorem dX9_custodian_26 : decode cX9_custodian 26 = .ok (.iload_n 3, 1) := by decide +kernel
theorem dX9_custodian_27 : decode cX9_custodian 27 = .ok (.ireturn, 1) := by decide +kernel
theorem dX9_custodian_28 : decode cX9_custodian 28 = .ok (.aload_n 0, 1) := by decide +kernel
theorem dX9_custodian_29 : decode cX9_custodian 29 = .ok (.getfield 91, 3) := by decide +kernel
theorem dX9_custodian_32 : decode cX9_custodian 32 = .ok (.iload_n 1, 1) := by decide +kernel
theorem dX9_custodian_33 : decode cX9_custodian 33 = .ok (.iaload, 1) := by decide +kernel
theorem dX9_custodian_34 : decode cX9_custodian 34 = .ok (.istore 4, 2) := by decide +kernel
theorem dX9_custodian_36 : decode cX9_custodian 36 = .ok (.iload_n 2, 1) := by decide +kernel
theorem dX9_custodian_37 : decode cX9_custodian 37 = .ok (.iconst 1, 1) := by decide +kernel
theorem dX9_custodian_38 : decode cX9_custodian 38 = .ok (.if_icmp .ne 6, 3) := by decide +kernel
theorem dX9_custodian_41 : decode cX9_custodian 41 = .ok (.iload 4, 2) := by decide +kernel
theorem dX9_custodian_43 : decode cX9_custodian 43 = .ok (.ireturn, 1) := by decide +kernel
theorem dX9_custodian_44 : decode cX9_custodian 44 = .ok (.iload_n 2, 1) := by decide +kernel
theorem dX9_custodian_45 : decode cX9_custodian 45 = .ok (.iconst 2, 1) := by decide +kernel
theorem dX9_custodian_46 : decode cX9_custodian 46 = .ok (.if_icmp .ne 22, 3) := by decide +kernel
theorem dX9_custodian_49 : decode cX9_custodian 49 = .ok (.aload_n 0, 1) := by decide +kernel
theorem dX9_custodian_50 : decode cX9_custodian 50 = .ok (.getfield 28, 3) := by decide +kernel
theorem dX9_custodian_53 : decode cX9_custodian 53 = .ok (.iload 4, 2) := by decide +kernel
theorem dX9_custodian_55 : decode cX9_custodian 55 = .ok (.invokevirtual 136, 3) := by decide +kernel
theorem dX9_custodian_58 : decode cX9_custodian 58 = .ok (.iload_n 3, 1) := by decide +kernel
theorem dX9_custodian_59 : decode cX9_custodian 59 = .ok (.if_icmp .ne 7, 3) := by decide +kernel
theorem dX9_custodian_62 : decode cX9_custodian 62 = .ok (.iconst 1, 1) := by decide +kernel
theorem dX9_custodian_63 : decode cX9_custodian 63 = .ok (.goto 4, 3) := by decide +kernel
theorem dX9_custodian_66 : decode cX9_custodian 66 = .ok (.iconst 0, 1) := by decide +kernel
theorem dX9_custodian_67 : decode cX9_custodian 67 = .ok (.ireturn, 1) := by decide +kernel
theorem dX9_custodian_68 : decode cX9_custodian 68 = .ok (.aload_n 0, 1) := by decide +kernel
theorem dX9_custodian_69 : decode cX9_custodian 69 = .ok (.getfield 44, 3) := by decide +kernel
theorem dX9_custodian_72 : decode cX9_custodian 72 = .ok (.iload_n 3, 1) := by decide +kernel
theorem dX9_custodian_73 : decode cX9_custodian 73 = .ok (.iconst 0, 1) := by decide +kernel
theorem dX9_custodian_74 : decode cX9_custodian 74 = .ok (.aload_n 0, 1) := by decide +kernel
theorem dX9_custodian_75 : decode cX9_custodian 75 = .ok (.getfield 35, 3) := by decide +kernel
theorem dX9_custodian_78 : decode cX9_custodian 78 = .ok (.invokevirtual 185, 3) := by decide +kernel
theorem dX9_custodian_81 : decode cX9_custodian 81 = .ok (.iconst 1, 1) := by decide +kernel
theorem dX9_custodian_82 : decode cX9_custodian 82 = .ok (.isub, 1) := by decide +kernel
theorem dX9_custodian_83 : decode cX9_custodian 83 = .ok (.invokevirtual 186, 3) := by decide +kernel
theorem dX9_custodian_86 : decode cX9_custodian 86 = .ok (.aload_n 0, 1) := by decide +kernel
theorem dX9_custodian_87 : decode cX9_custodian 87 = .ok (.getfield 44, 3) := by decide +kernel
theorem dX9_custodian_90 : decode cX9_custodian 90 = .ok (.iload_n 2, 1) := by decide +kernel
theorem dX9_custodian_91 : decode cX9_custodian 91 = .ok (.iconst 3, 1) := by decide +kernel
theorem dX9_custodian_92 : decode cX9_custodian 92 = .ok (.if_icmp .ne 7, 3) := by decide +kernel
theorem dX9_custodian_95 : decode cX9_custodian 95 = .ok (.iconst 1, 1) := by decide +kernel
theorem dX9_custodian_96 : decode cX9_custodian 96 = .ok (.goto 4, 3) := by decide +kernel
theorem dX9_custodian_99 : decode cX9_custodian 99 = .ok (.iconst 0, 1) := by decide +kernel
theorem dX9_custodian_100 : decode cX9_custodian 100 = .ok (.invokevirtual 189, 3) := by decide +kernel
theorem dX9_custodian_103 : decode cX9_custodian 103 = .ok (.ireturn, 1) := by decide +kernel
theorem dX9_rekey_0 : decode cX9_rekey 0 = .ok (.iload_n 1, 1) := by decide +kernel
theorem dX9_rekey_1 : decode cX9_rekey 1 = .ok (.bipush 21, 2) := by decide +kernel
theorem dX9_rekey_3 : decode cX9_rekey 3 = .ok (.invokestatic 98, 3) := by decide +kernel
theorem dX9_rekey_6 : decode cX9_rekey 6 = .ok (.aload_n 0, 1) := by decide +kernel
theorem dX9_rekey_7 : decode cX9_rekey 7 = .ok (.getfield 28, 3) := by decide +kernel
theorem dX9_rekey_10 : decode cX9_rekey 10 = .ok (.iload_n 1, 1) := by decide +kernel
theorem dX9_rekey_11 : decode cX9_rekey 11 = .ok (.invokevirtual 276, 3) := by decide +kernel
theorem dX9_rekey_14 : decode cX9_rekey 14 = .ok (.ifCond .ne 14, 3) := by decide +kernel
theorem dX9_rekey_17 : decode cX9_rekey 17 = .ok (.new 110, 3) := by decide +kernel
theorem dX9_rekey_20 : decode cX9_rekey 20 = .ok (.dup, 1) := by decide +kernel
theorem dX9_rekey_21 : decode cX9_rekey 21 = .ok (.ldc_w 290, 3) := by decide +kernel
theorem dX9_rekey_24 : decode cX9_rekey 24 = .ok (.invokespecial 114, 3) := by decide +kernel
theorem dX9_rekey_27 : decode cX9_rekey 27 = .ok (.athrow, 1) := by decide +kernel
theorem dX9_rekey_28 : decode cX9_rekey 28 = .ok (.aload_n 0, 1) := by decide +kernel
theorem dX9_rekey_29 : decode cX9_rekey 29 = .ok (.aload_n 0, 1) := by decide +kernel
theorem dX9_rekey_30 : decode cX9_rekey 30 = .ok (.getfield 28, 3) := by decide +kernel
theorem dX9_rekey_33 : decode cX9_rekey 33 = .ok (.iload_n 1, 1) := by decide +kernel
theorem dX9_rekey_34 : decode cX9_rekey 34 = .ok (.invokevirtual 292, 3) := by decide +kernel
