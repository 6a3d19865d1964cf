theorem dX9_rekey_37 : decode cX9_rekey 37 = .ok (.iload_n 1, 1) := by decide +kernel
theorem dX9_rekey_38 : decode cX9_rekey 38 = .ok (.ifCond .ne 7, 3) := by decide +kernel
theorem dX9_rekey_41 : decode cX9_rekey 41 = .ok (.iconst 0, 1) := by decide +kernel
theorem dX9_rekey_42 : decode cX9_rekey 42 = .ok (.goto 4, 3) := by decide +kernel
theorem dX9_rekey_45 : decode cX9_rekey 45 = .ok (.iconst 1, 1) := by decide +kernel
theorem dX9_rekey_46 : decode cX9_rekey 46 = .ok (.iadd, 1) := by decide +kernel
theorem dX9_rekey_47 : decode cX9_rekey 47 = .ok (.invokevirtual 123, 3) := by decide +kernel
theorem dX9_rekey_50 : decode cX9_rekey 50 = .ok (.aload_n 0, 1) := by decide +kernel
theorem dX9_rekey_51 : decode cX9_rekey 51 = .ok (.getfield 28, 3) := by decide +kernel
theorem dX9_rekey_54 : decode cX9_rekey 54 = .ok (.iload_n 1, 1) := by decide +kernel
theorem dX9_rekey_55 : decode cX9_rekey 55 = .ok (.invokevirtual 264, 3) := by decide +kernel
theorem dX9_rekey_58 : decode cX9_rekey 58 = .ok (.aload_n 0, 1) := by decide +kernel
theorem dX9_rekey_59 : decode cX9_rekey 59 = .ok (.iload_n 1, 1) := by decide +kernel
theorem dX9_rekey_60 : decode cX9_rekey 60 = .ok (.invokevirtual 267, 3) := by decide +kernel
theorem dX9_rekey_63 : decode cX9_rekey 63 = .ok (.iload_n 1, 1) := by decide +kernel
theorem dX9_rekey_64 : decode cX9_rekey 64 = .ok (.ifCond .eq 8, 3) := by decide +kernel
theorem dX9_rekey_67 : decode cX9_rekey 67 = .ok (.aload_n 0, 1) := by decide +kernel
theorem dX9_rekey_68 : decode cX9_rekey 68 = .ok (.iload_n 1, 1) := by decide +kernel
theorem dX9_rekey_69 : decode cX9_rekey 69 = .ok (.invokevirtual 295, 3) := by decide +kernel
theorem dX9_rekey_72 : decode cX9_rekey 72 = .ok (.aload_n 0, 1) := by decide +kernel
theorem dX9_rekey_73 : decode cX9_rekey 73 = .ok (.getfield 28, 3) := by decide +kernel
theorem dX9_rekey_76 : decode cX9_rekey 76 = .ok (.iload_n 1, 1) := by decide +kernel
theorem dX9_rekey_77 : decode cX9_rekey 77 = .ok (.invokevirtual 136, 3) := by decide +kernel
theorem dX9_rekey_80 : decode cX9_rekey 80 = .ok (.ireturn, 1) := by decide +kernel
theorem dX9_move_0 : decode cX9_move 0 = .ok (.iload_n 1, 1) := by decide +kernel
theorem dX9_move_1 : decode cX9_move 1 = .ok (.iconst 1, 1) := by decide +kernel
theorem dX9_move_2 : decode cX9_move 2 = .ok (.if_icmp .lt 20, 3) := by decide +kernel
theorem dX9_move_5 : decode cX9_move 5 = .ok (.iload_n 1, 1) := by decide +kernel
theorem dX9_move_6 : decode cX9_move 6 = .ok (.bipush 85, 2) := by decide +kernel
theorem dX9_move_8 : decode cX9_move 8 = .ok (.if_icmp .ge 14, 3) := by decide +kernel
theorem dX9_move_11 : decode cX9_move 11 = .ok (.iload_n 2, 1) := by decide +kernel
theorem dX9_move_12 : decode cX9_move 12 = .ok (.iconst 1, 1) := by decide +kernel
theorem dX9_move_13 : decode cX9_move 13 = .ok (.if_icmp .lt 9, 3) := by decide +kernel
theorem dX9_move_16 : decode cX9_move 16 = .ok (.iload_n 2, 1) := by decide +kernel
theorem dX9_move_17 : decode cX9_move 17 = .ok (.bipush 85, 2) := by decide +kernel
theorem dX9_move_19 : decode cX9_move 19 = .ok (.if_icmp .lt 14, 3) := by decide +kernel
theorem dX9_move_22 : decode cX9_move 22 = .ok (.new 282, 3) := by decide +kernel
theorem dX9_move_25 : decode cX9_move 25 = .ok (.dup, 1) := by decide +kernel
theorem dX9_move_26 : decode cX9_move 26 = .ok (.ldc_w 298, 3) := by decide +kernel
theorem dX9_move_29 : decode cX9_move 29 = .ok (.invokespecial 286, 3) := by decide +kernel
theorem dX9_move_32 : decode cX9_move 32 = .ok (.athrow, 1) := by decide +kernel
theorem dX9_move_33 : decode cX9_move 33 = .ok (.iload_n 1, 1) := by decide +kernel
theorem dX9_move_34 : decode cX9_move 34 = .ok (.invokestatic 300, 3) := by decide +kernel
theorem dX9_move_37 : decode cX9_move 37 = .ok (.iload_n 2, 1) := by decide +kernel
theorem dX9_move_38 : decode cX9_move 38 = .ok (.invokestatic 300, 3) := by decide +kernel
theorem dX9_move_41 : decode cX9_move 41 = .ok (.if_icmp .eq 14, 3) := by decide +kernel
theorem dX9_move_44 : decode cX9_move 44 = .ok (.new 219, 3) := by decide +kernel
theorem dX9_move_47 : decode cX9_move 47 = .ok (.dup, 1) := by decide +kernel
theorem dX9_move_48 : decode cX9_move 48 = .ok (.ldc_w 303, 3) := by decide +kernel
theorem dX9_move_51 : decode cX9_move 51 = .ok (.invokespecial 223, 3) := by decide +kernel
theorem dX9_move_54 : decode cX9_move 54 = .ok (.athrow, 1) := by decide +kernel
theorem dX9_move_55 : decode cX9_move 55 = .ok (.aload_n 0, 1) := by decide +kernel
theorem dX9_move_56 : decode cX9_move 56 = .ok (.getfield 28, 3) := by decide +kernel
theorem dX9_move_59 : decode cX9_move 59 = .ok (.iload_n 1, 1) := by decide +kernel
theorem dX9_move_60 : decode cX9_move 60 = .ok (.invokevirtual 276, 3) := by decide +kernel
theorem dX9_move_63 : decode cX9_move 63 = .ok (.ifCond .eq 22, 3) := by decide +kernel
theorem dX9_move_66 : decode cX9_move 66 = .ok (.aload_n 0, 1) := by decide +kernel
theorem dX9_move_67 : decode cX9_move 67 = .ok (.getfield 28, 3) := by decide +kernel
theorem dX9_move_70 : decode cX9_move 70 = .ok (.iload_n 2, 1) := by decide +kernel
theorem dX9_move_71 : decode cX9_move 71 = .ok (.invokevirtual 276, 3) := by decide +kernel
theorem dX9_move_74 : decode cX9_move 74 = .ok (.ifCond .ne 11, 3) := by decide +kernel
theorem dX9_move_77 : decode cX9_move 77 = .ok (.aload_n 0, 1) := by decide +kernel
theorem dX9_move_78 : decode cX9_move 78 = .ok (.iload_n 1, 1) := by decide +kernel
theorem dX9_move_79 : decode cX9_move 79 = .ok (.invokevirtual 305, 3) := by decide +kernel
theorem dX9_move_82 : decode cX9_move 82 = .ok (.ifCond .eq 14, 3) := by decide +kernel
theorem dX9_move_85 : decode cX9_move 85 = .ok (.new 110, 3) := by decide +kernel
theorem dX9_move_88 : decode cX9_move 88 = .ok (.dup, 1) := by decide +kernel
theorem dX9_move_89 : decode cX9_move 89 = .ok (.ldc_w 308, 3) := by decide +kernel
theorem dX9_move_92 : decode cX9_move 92 = .ok (.invokespecial 114, 3) := by decide +kernel
theorem dX9_move_95 : decode cX9_move 95 = .ok (.athrow, 1) := by decide +kernel
theorem dX9_move_96 : decode cX9_move 96 = .ok (.iload_n 2, 1) := by decide +kernel
theorem dX9_move_97 : decode cX9_move 97 = .ok (.invokestatic 310, 3) := by decide +kernel
theorem dX9_move_100 : decode cX9_move 100 = .ok (.istore_n 3, 1) := by decide +kernel
theorem dX9_move_101 : decode cX9_move 101 = .ok (.aload_n 0, 1) := by decide +kernel
theorem dX9_move_102 : decode cX9_move 102 = .ok (.aload_n 0, 1) := by decide +kernel
theorem dX9_move_103 : decode cX9_move 103 = .ok (.getfield 28, 3) := by decide +kernel
theorem dX9_move_106 : decode cX9_move 106 = .ok (.iload_n 3, 1) := by decide +kernel
theorem dX9_move_107 : decode cX9_move 107 = .ok (.invokevirtual 120, 3) := by decide +kernel
theorem dX9_move_110 : decode cX9_move 110 = .ok (.iconst 1, 1) := by decide +kernel
theorem dX9_move_111 : decode cX9_move 111 = .ok (.iadd, 1) := by decide +kernel
theorem dX9_move_112 : decode cX9_move 112 = .ok (.invokevirtual 123, 3) := by decide +kernel
theorem dX9_move_115 : decode cX9_move 115 = .ok (.aload_n 0, 1) := by decide +kernel
theorem dX9_move_116 : decode cX9_move 116 = .ok (.iload_n 3, 1) := by decide +kernel
theorem dX9_move_117 : decode cX9_move 117 = .ok (.invokevirtual 126, 3) := by decide +kernel
theorem dX9_move_120 : decode cX9_move 120 = .ok (.aload_n 0, 1) := by decide +kernel
theorem dX9_move_121 : decode cX9_move 121 = .ok (.getfield 28, 3) := by decide +kernel
theorem dX9_move_124 : decode cX9_move 124 = .ok (.iload_n 1, 1) := by decide +kernel
theorem dX9_move_125 : decode cX9_move 125 = .ok (.iload_n 2, 1) := by decide +kernel
theorem dX9_move_126 : decode cX9_move 126 = .ok (.invokevirtual 313, 3) := by decide +kernel
theorem dX9_move_129 : decode cX9_move 129 = .ok (.aload_n 0, 1) := by decide +kernel
theorem dX9_move_130 : decode cX9_move 130 = .ok (.iload_n 2, 1) := by decide +kernel
theorem dX9_move_131 : decode cX9_move 131 = .ok (.invokevirtual 295, 3) := by decide +kernel
theorem dX9_move_134 : decode cX9_move 134 = .ok (.aload_n 0, 1) := by decide +kernel
theorem dX9_move_135 : decode cX9_move 135 = .ok (.getfield 28, 3) := by decide +kernel
theorem dX9_move_138 : decode cX9_move 138 = .ok (.iload_n 1, 1) := by decide +kernel
theorem dX9_move_139 : decode cX9_move 139 = .ok (.invokevirtual 316, 3) := by decide +kernel
theorem dX9_move_142 : decode cX9_move 142 = .ok (.iload_n 2, 1) := by decide +kernel
theorem dX9_move_143 : decode cX9_move 143 = .ok (.invokestatic 193, 3) := by decide +kernel
theorem dX9_move_146 : decode cX9_move 146 = .ok (.istore 4, 2) := by decide +kernel
theorem dX9_move_148 : decode cX9_move 148 = .ok (.aload_n 0, 1) := by decide +kernel
theorem dX9_move_149 : decode cX9_move 149 = .ok (.getfield 28, 3) := by decide +kernel
theorem dX9_move_152 : decode cX9_move 152 = .ok (.iload 4, 2) := by decide +kernel
theorem dX9_move_154 : decode cX9_move 154 = .ok (.iload 4, 2) := by decide +kernel
theorem dX9_move_156 : decode cX9_move 156 = .ok (.iload_n 2, 1) := by decide +kernel
theorem dX9_move_157 : decode cX9_move 157 = .ok (.invokestatic 196, 3) := by decide +kernel
theorem dX9_move_160 : decode cX9_move 160 = .ok (.iadd, 1) := by decide +kernel
theorem dX9_move_161 : decode cX9_move 161 = .ok (.invokevirtual 169, 3) := by decide +kernel
theorem dX9_move_164 : decode cX9_move 164 = .ok (.ireturn, 1) := by decide +kernel
theorem dX9_openingKeys_0 : decode cX9_openingKeys 0 = .ok (.iload_n 1, 1) := by decide +kernel
theorem dX9_openingKeys_1 : decode cX9_openingKeys 1 = .ok (.aload_n 0, 1) := by decide +kernel
theorem dX9_openingKeys_2 : decode cX9_openingKeys 2 = .ok (.getfield 19, 3) := by decide +kernel
theorem dX9_openingKeys_5 : decode cX9_openingKeys 5 = .ok (.invokevirtual 159, 3) := by decide +kernel
theorem dX9_openingKeys_8 : decode cX9_openingKeys 8 = .ok (.invokestatic 98, 3) := by decide +kernel
theorem dX9_openingKeys_11 : decode cX9_openingKeys 11 = .ok (.aload_n 0, 1) := by decide +kernel
theorem dX9_openingKeys_12 : decode cX9_openingKeys 12 = .ok (.getfield 44, 3) := by decide +kernel
theorem dX9_openingKeys_15 : decode cX9_openingKeys 15 = .ok (.iload_n 1, 1) := by decide +kernel
theorem dX9_openingKeys_16 : decode cX9_openingKeys 16 = .ok (.invokevirtual 176, 3) := by decide +kernel
theorem dX9_openingKeys_19 : decode cX9_openingKeys 19 = .ok (.aload_n 0, 1) := by decide +kernel
theorem dX9_openingKeys_20 : decode cX9_openingKeys 20 = .ok (.getfield 44, 3) := by decide +kernel
theorem dX9_openingKeys_23 : decode cX9_openingKeys 23 = .ok (.invokevirtual 319, 3) := by decide +kernel
theorem dX9_openingKeys_26 : decode cX9_openingKeys 26 = .ok (.ireturn, 1) := by decide +kernel
theorem dX9_addMedium_0 : decode cX9_addMedium 0 = .ok (.aload_n 0, 1) := by decide +kernel
theorem dX9_addMedium_1 : decode cX9_addMedium 1 = .ok (.getfield 35, 3) := by decide +kernel
theorem dX9_addMedium_4 : decode cX9_addMedium 4 = .ok (.invokevirtual 185, 3) := by decide +kernel
theorem dX9_addMedium_7 : decode cX9_addMedium 7 = .ok (.bipush 8, 2) := by decide +kernel
theorem dX9_addMedium_9 : decode cX9_addMedium 9 = .ok (.if_icmp .lt 14, 3) := by decide +kernel
theorem dX9_addMedium_12 : decode cX9_addMedium 12 = .ok (.new 110, 3) := by decide +kernel
theorem dX9_addMedium_15 : decode cX9_addMedium 15 = .ok (.dup, 1) := by decide +kernel
theorem dX9_addMedium_16 : decode cX9_addMedium 16 = .ok (.ldc_w 322, 3) := by decide +kernel
theorem dX9_addMedium_19 : decode cX9_addMedium 19 = .ok (.invokespecial 114, 3) := by decide +kernel
theorem dX9_addMedium_22 : decode cX9_addMedium 22 = .ok (.athrow, 1) := by decide +kernel
theorem dX9_addMedium_23 : decode cX9_addMedium 23 = .ok (.aload_n 0, 1) := by decide +kernel
theorem dX9_addMedium_24 : decode cX9_addMedium 24 = .ok (.getfield 35, 3) := by decide +kernel
theorem dX9_addMedium_27 : decode cX9_addMedium 27 = .ok (.invokevirtual 324, 3) := by decide +kernel
theorem dX9_addMedium_30 : decode cX9_addMedium 30 = .ok (.ireturn, 1) := by decide +kernel
theorem dX9_mediumCount_0 : decode cX9_mediumCount 0 = .ok (.aload_n 0, 1) := by decide +kernel
theorem dX9_mediumCount_1 : decode cX9_mediumCount 1 = .ok (.getfield 35, 3) := by decide +kernel
theorem dX9_mediumCount_4 : decode cX9_mediumCount 4 = .ok (.invokevirtual 185, 3) := by decide +kernel
theorem dX9_mediumCount_7 : decode cX9_mediumCount 7 = .ok (.ireturn, 1) := by decide +kernel
theorem dX9_medium_0 : decode cX9_medium 0 = .ok (.iload_n 1, 1) := by decide +kernel
theorem dX9_medium_1 : decode cX9_medium 1 = .ok (.aload_n 0, 1) := by decide +kernel
theorem dX9_medium_2 : decode cX9_medium 2 = .ok (.getfield 35, 3) := by decide +kernel
theorem dX9_medium_5 : decode cX9_medium 5 = .ok (.invokevirtual 185, 3) := by decide +kernel
theorem dX9_medium_8 : decode cX9_medium 8 = .ok (.invokestatic 98, 3) := by decide +kernel
theorem dX9_medium_11 : decode cX9_medium 11 = .ok (.iload_n 2, 1) := by decide +kernel
theorem dX9_medium_12 : decode cX9_medium 12 = .ok (.iconst 3, 1) := by decide +kernel
theorem dX9_medium_13 : decode cX9_medium 13 = .ok (.invokestatic 166, 3) := by decide +kernel
theorem dX9_medium_16 : decode cX9_medium 16 = .ok (.iload_n 2, 1) := by decide +kernel
theorem dX9_medium_17 : decode cX9_medium 17 = .ok (.ifCond .ne 12, 3) := by decide +kernel
theorem dX9_medium_20 : decode cX9_medium 20 = .ok (.aload_n 0, 1) := by decide +kernel
theorem dX9_medium_21 : decode cX9_medium 21 = .ok (.getfield 35, 3) := by decide +kernel
theorem dX9_medium_24 : decode cX9_medium 24 = .ok (.iload_n 1, 1) := by decide +kernel
theorem dX9_medium_25 : decode cX9_medium 25 = .ok (.invokevirtual 326, 3) := by decide +kernel
theorem dX9_medium_28 : decode cX9_medium 28 = .ok (.ireturn, 1) := by decide +kernel
theorem dX9_medium_29 : decode cX9_medium 29 = .ok (.iload_n 2, 1) := by decide +kernel
theorem dX9_medium_30 : decode cX9_medium 30 = .ok (.iconst 1, 1) := by decide +kernel
theorem dX9_medium_31 : decode cX9_medium 31 = .ok (.if_icmp .ne 12, 3) := by decide +kernel
theorem dX9_medium_34 : decode cX9_medium 34 = .ok (.aload_n 0, 1) := by decide +kernel
theorem dX9_medium_35 : decode cX9_medium 35 = .ok (.getfield 35, 3) := by decide +kernel
theorem dX9_medium_38 : decode cX9_medium 38 = .ok (.iload_n 1, 1) := by decide +kernel
theorem dX9_medium_39 : decode cX9_medium 39 = .ok (.invokevirtual 329, 3) := by decide +kernel
theorem dX9_medium_42 : decode cX9_medium 42 = .ok (.ireturn, 1) := by decide +kernel
theorem dX9_medium_43 : decode cX9_medium 43 = .ok (.iload_n 2, 1) := by decide +kernel
theorem dX9_medium_44 : decode cX9_medium 44 = .ok (.iconst 2, 1) := by decide +kernel
theorem dX9_medium_45 : decode cX9_medium 45 = .ok (.if_icmp .ne 12, 3) := by decide +kernel
theorem dX9_medium_48 : decode cX9_medium 48 = .ok (.aload_n 0, 1) := by decide +kernel
theorem dX9_medium_49 : decode cX9_medium 49 = .ok (.getfield 53, 3) := by decide +kernel
theorem dX9_medium_52 : decode cX9_medium 52 = .ok (.iload_n 1, 1) := by decide +kernel
theorem dX9_medium_53 : decode cX9_medium 53 = .ok (.invokevirtual 332, 3) := by decide +kernel
theorem dX9_medium_56 : decode cX9_medium 56 = .ok (.ireturn, 1) := by decide +kernel
theorem dX9_medium_57 : decode cX9_medium 57 = .ok (.aload_n 0, 1) := by decide +kernel
theorem dX9_medium_58 : decode cX9_medium 58 = .ok (.getfield 53, 3) := by decide +kernel
theorem dX9_medium_61 : decode cX9_medium 61 = .ok (.iload_n 1, 1) := by decide +kernel
theorem dX9_medium_62 : decode cX9_medium 62 = .ok (.invokevirtual 335, 3) := by decide +kernel
theorem dX9_medium_65 : decode cX9_medium 65 = .ok (.ireturn, 1) := by decide +kernel
theorem dX9_entry_0 : decode cX9_entry 0 = .ok (.iload_n 1, 1) := by decide +kernel
theorem dX9_entry_1 : decode cX9_entry 1 = .ok (.aload_n 0, 1) := by decide +kernel
theorem dX9_entry_2 : decode cX9_entry 2 = .ok (.getfield 35, 3) := by decide +kernel
theorem dX9_entry_5 : decode cX9_entry 5 = .ok (.invokevirtual 185, 3) := by decide +kernel
theorem dX9_entry_8 : decode cX9_entry 8 = .ok (.invokestatic 98, 3) := by decide +kernel
theorem dX9_entry_11 : decode cX9_entry 11 = .ok (.iload_n 2, 1) := by decide +kernel
theorem dX9_entry_12 : decode cX9_entry 12 = .ok (.aload_n 0, 1) := by decide +kernel
theorem dX9_entry_13 : decode cX9_entry 13 = .ok (.getfield 35, 3) := by decide +kernel
theorem dX9_entry_16 : decode cX9_entry 16 = .ok (.iload_n 1, 1) := by decide +kernel
theorem dX9_entry_17 : decode cX9_entry 17 = .ok (.invokevirtual 329, 3) := by decide +kernel
theorem dX9_entry_20 : decode cX9_entry 20 = .ok (.invokestatic 98, 3) := by decide +kernel
theorem dX9_entry_23 : decode cX9_entry 23 = .ok (.iload_n 3, 1) := by decide +kernel
theorem dX9_entry_24 : decode cX9_entry 24 = .ok (.iconst 3, 1) := by decide +kernel
theorem dX9_entry_25 : decode cX9_entry 25 = .ok (.invokestatic 166, 3) := by decide +kernel
theorem dX9_entry_28 : decode cX9_entry 28 = .ok (.aload_n 0, 1) := by decide +kernel
theorem dX9_entry_29 : decode cX9_entry 29 = .ok (.getfield 35, 3) := by decide +kernel
theorem dX9_entry_32 : decode cX9_entry 32 = .ok (.iload_n 1, 1) := by decide +kernel
theorem dX9_entry_33 : decode cX9_entry 33 = .ok (.iload_n 2, 1) := by decide +kernel
theorem dX9_entry_34 : decode cX9_entry 34 = .ok (.invokevirtual 338, 3) := by decide +kernel
theorem dX9_entry_37 : decode cX9_entry 37 = .ok (.istore 4, 2) := by decide +kernel
theorem dX9_entry_39 : decode cX9_entry 39 = .ok (.iload_n 3, 1) := by decide +kernel
theorem dX9_entry_40 : decode cX9_entry 40 = .ok (.ifCond .ne 14, 3) := by decide +kernel
theorem dX9_entry_43 : decode cX9_entry 43 = .ok (.aload_n 0, 1) := by decide +kernel
theorem dX9_entry_44 : decode cX9_entry 44 = .ok (.getfield 35, 3) := by decide +kernel
theorem dX9_entry_47 : decode cX9_entry 47 = .ok (.iload 4, 2) := by decide +kernel
theorem dX9_entry_49 : decode cX9_entry 49 = .ok (.invokevirtual 341, 3) := by decide +kernel
theorem dX9_entry_52 : decode cX9_entry 52 = .ok (.i2l, 1) := by decide +kernel
theorem dX9_entry_53 : decode cX9_entry 53 = .ok (.lreturn, 1) := by decide +kernel
theorem dX9_entry_54 : decode cX9_entry 54 = .ok (.iload_n 3, 1) := by decide +kernel
theorem dX9_entry_55 : decode cX9_entry 55 = .ok (.iconst 1, 1) := by decide +kernel
theorem dX9_entry_56 : decode cX9_entry 56 = .ok (.if_icmp .ne 14, 3) := by decide +kernel
theorem dX9_entry_59 : decode cX9_entry 59 = .ok (.aload_n 0, 1) := by decide +kernel
theorem dX9_entry_60 : decode cX9_entry 60 = .ok (.getfield 35, 3) := by decide +kernel
theorem dX9_entry_63 : decode cX9_entry 63 = .ok (.iload 4, 2) := by decide +kernel
theorem dX9_entry_65 : decode cX9_entry 65 = .ok (.invokevirtual 344, 3) := by decide +kernel
theorem dX9_entry_68 : decode cX9_entry 68 = .ok (.i2l, 1) := by decide +kernel
theorem dX9_entry_69 : decode cX9_entry 69 = .ok (.lreturn, 1) := by decide +kernel
theorem dX9_entry_70 : decode cX9_entry 70 = .ok (.iload_n 3, 1) := by decide +kernel
theorem dX9_entry_71 : decode cX9_entry 71 = .ok (.iconst 2, 1) := by decide +kernel
theorem dX9_entry_72 : decode cX9_entry 72 = .ok (.if_icmp .ne 14, 3) := by decide +kernel
theorem dX9_entry_75 : decode cX9_entry 75 = .ok (.aload_n 0, 1) := by decide +kernel
theorem dX9_entry_76 : decode cX9_entry 76 = .ok (.getfield 35, 3) := by decide +kernel
theorem dX9_entry_79 : decode cX9_entry 79 = .ok (.iload 4, 2) := by decide +kernel
theorem dX9_entry_81 : decode cX9_entry 81 = .ok (.invokevirtual 347, 3) := by decide +kernel
theorem dX9_entry_84 : decode cX9_entry 84 = .ok (.i2l, 1) := by decide +kernel
theorem dX9_entry_85 : decode cX9_entry 85 = .ok (.lreturn, 1) := by decide +kernel
theorem dX9_entry_86 : decode cX9_entry 86 = .ok (.aload_n 0, 1) := by decide +kernel
theorem dX9_entry_87 : decode cX9_entry 87 = .ok (.getfield 35, 3) := by decide +kernel
theorem dX9_entry_90 : decode cX9_entry 90 = .ok (.iload 4, 2) := by decide +kernel
theorem dX9_entry_92 : decode cX9_entry 92 = .ok (.invokevirtual 341, 3) := by decide +kernel
theorem dX9_entry_95 : decode cX9_entry 95 = .ok (.ifCond .ne 13, 3) := by decide +kernel
theorem dX9_entry_98 : decode cX9_entry 98 = .ok (.aload_n 0, 1) := by decide +kernel
theorem dX9_entry_99 : decode cX9_entry 99 = .ok (.iload 4, 2) := by decide +kernel
theorem dX9_entry_101 : decode cX9_entry 101 = .ok (.invokevirtual 350, 3) := by decide +kernel
theorem dX9_entry_104 : decode cX9_entry 104 = .ok (.i2l, 1) := by decide +kernel
theorem dX9_entry_105 : decode cX9_entry 105 = .ok (.goto 9, 3) := by decide +kernel
theorem dX9_entry_108 : decode cX9_entry 108 = .ok (.aload_n 0, 1) := by decide +kernel
theorem dX9_entry_109 : decode cX9_entry 109 = .ok (.iload 4, 2) := by decide +kernel
theorem dX9_entry_111 : decode cX9_entry 111 = .ok (.invokevirtual 353, 3) := by decide +kernel
theorem dX9_entry_114 : decode cX9_entry 114 = .ok (.lreturn, 1) := by decide +kernel
theorem dX9_lose_0 : decode cX9_lose 0 = .ok (.aload_n 0, 1) := by decide +kernel
theorem dX9_lose_1 : decode cX9_lose 1 = .ok (.iload_n 1, 1) := by decide +kernel
theorem dX9_lose_2 : decode cX9_lose 2 = .ok (.iconst 1, 1) := by decide +kernel
theorem dX9_lose_3 : decode cX9_lose 3 = .ok (.invokevirtual 356, 3) := by decide +kernel
theorem dX9_lose_6 : decode cX9_lose 6 = .ok (.ireturn, 1) := by decide +kernel
theorem dX9_destroy_0 : decode cX9_destroy 0 = .ok (.aload_n 0, 1) := by decide +kernel
theorem dX9_destroy_1 : decode cX9_destroy 1 = .ok (.iload_n 1, 1) := by decide +kernel
theorem dX9_destroy_2 : decode cX9_destroy 2 = .ok (.iconst 2, 1) := by decide +kernel
theorem dX9_destroy_3 : decode cX9_destroy 3 = .ok (.invokevirtual 356, 3) := by decide +kernel
theorem dX9_destroy_6 : decode cX9_destroy 6 = .ok (.ireturn, 1) := by decide +kernel
theorem dX9_migrate_0 : decode cX9_migrate 0 = .ok (.iload_n 1, 1) := by decide +kernel
theorem dX9_migrate_1 : decode cX9_migrate 1 = .ok (.aload_n 0, 1) := by decide +kernel
theorem dX9_migrate_2 : decode cX9_migrate 2 = .ok (.getfield 35, 3) := by decide +kernel
theorem dX9_migrate_5 : decode cX9_migrate 5 = .ok (.invokevirtual 185, 3) := by decide +kernel
theorem dX9_migrate_8 : decode cX9_migrate 8 = .ok (.invokestatic 98, 3) := by decide +kernel
theorem dX9_migrate_11 : decode cX9_migrate 11 = .ok (.aload_n 0, 1) := by decide +kernel
theorem dX9_migrate_12 : decode cX9_migrate 12 = .ok (.getfield 35, 3) := by decide +kernel
theorem dX9_migrate_15 : decode cX9_migrate 15 = .ok (.iload_n 1, 1) := by decide +kernel
theorem dX9_migrate_16 : decode cX9_migrate 16 = .ok (.invokevirtual 326, 3) := by decide +kernel
theorem dX9_migrate_19 : decode cX9_migrate 19 = .ok (.iconst 2, 1) := by decide +kernel
theorem dX9_migrate_20 : decode cX9_migrate 20 = .ok (.if_icmp .ne 14, 3) := by decide +kernel
theorem dX9_migrate_23 : decode cX9_migrate 23 = .ok (.new 110, 3) := by decide +kernel
theorem dX9_migrate_26 : decode cX9_migrate 26 = .ok (.dup, 1) := by decide +kernel
theorem dX9_migrate_27 : decode cX9_migrate 27 = .ok (.ldc_w 359, 3) := by decide +kernel
theorem dX9_migrate_30 : decode cX9_migrate 30 = .ok (.invokespecial 114, 3) := by decide +kernel
theorem dX9_migrate_33 : decode cX9_migrate 33 = .ok (.athrow, 1) := by decide +kernel
theorem dX9_migrate_34 : decode cX9_migrate 34 = .ok (.aload_n 0, 1) := by decide +kernel
theorem dX9_migrate_35 : decode cX9_migrate 35 = .ok (.getfield 53, 3) := by decide +kernel
theorem dX9_migrate_38 : decode cX9_migrate 38 = .ok (.iload_n 1, 1) := by decide +kernel
theorem dX9_migrate_39 : decode cX9_migrate 39 = .ok (.invokevirtual 335, 3) := by decide +kernel
theorem dX9_migrate_42 : decode cX9_migrate 42 = .ok (.istore_n 2, 1) := by decide +kernel
theorem dX9_migrate_43 : decode cX9_migrate 43 = .ok (.aload_n 0, 1) := by decide +kernel
theorem dX9_migrate_44 : decode cX9_migrate 44 = .ok (.getfield 35, 3) := by decide +kernel
theorem dX9_migrate_47 : decode cX9_migrate 47 = .ok (.iload_n 1, 1) := by decide +kernel
theorem dX9_migrate_48 : decode cX9_migrate 48 = .ok (.invokevirtual 361, 3) := by decide +kernel
theorem dX9_migrate_51 : decode cX9_migrate 51 = .ok (.istore_n 3, 1) := by decide +kernel
theorem dX9_migrate_52 : decode cX9_migrate 52 = .ok (.aload_n 0, 1) := by decide +kernel
theorem dX9_migrate_53 : decode cX9_migrate 53 = .ok (.iload_n 3, 1) := by decide +kernel
theorem dX9_migrate_54 : decode cX9_migrate 54 = .ok (.iload_n 2, 1) := by decide +kernel
theorem dX9_migrate_55 : decode cX9_migrate 55 = .ok (.invokevirtual 364, 3) := by decide +kernel
theorem dX9_migrate_58 : decode cX9_migrate 58 = .ok (.iconst 0, 1) := by decide +kernel
theorem dX9_migrate_59 : decode cX9_migrate 59 = .ok (.istore 4, 2) := by decide +kernel
theorem dX9_migrate_61 : decode cX9_migrate 61 = .ok (.iload 4, 2) := by decide +kernel
theorem dX9_migrate_63 : decode cX9_migrate 63 = .ok (.iload_n 2, 1) := by decide +kernel
theorem dX9_migrate_64 : decode cX9_migrate 64 = .ok (.if_icmp .ge 26, 3) := by decide +kernel
theorem dX9_migrate_67 : decode cX9_migrate 67 = .ok (.aload_n 0, 1) := by decide +kernel
theorem dX9_migrate_68 : decode cX9_migrate 68 = .ok (.getfield 35, 3) := by decide +kernel
theorem dX9_migrate_71 : decode cX9_migrate 71 = .ok (.aload_n 0, 1) := by decide +kernel
theorem dX9_migrate_72 : decode cX9_migrate 72 = .ok (.getfield 53, 3) := by decide +kernel
theorem dX9_migrate_75 : decode cX9_migrate 75 = .ok (.iload 4, 2) := by decide +kernel
theorem dX9_migrate_77 : decode cX9_migrate 77 = .ok (.invokevirtual 367, 3) := by decide +kernel
theorem dX9_migrate_80 : decode cX9_migrate 80 = .ok (.iload_n 3, 1) := by decide +kernel
theorem dX9_migrate_81 : decode cX9_migrate 81 = .ok (.invokevirtual 370, 3) := by decide +kernel
theorem dX9_migrate_84 : decode cX9_migrate 84 = .ok (.iinc 4 1, 3) := by decide +kernel
theorem dX9_migrate_87 : decode cX9_migrate 87 = .ok (.goto (-26), 3) := by decide +kernel
theorem dX9_migrate_90 : decode cX9_migrate 90 = .ok (.aload_n 0, 1) := by decide +kernel
theorem dX9_migrate_91 : decode cX9_migrate 91 = .ok (.getfield 35, 3) := by decide +kernel
theorem dX9_migrate_94 : decode cX9_migrate 94 = .ok (.iload_n 1, 1) := by decide +kernel
theorem dX9_migrate_95 : decode cX9_migrate 95 = .ok (.invokevirtual 326, 3) := by decide +kernel
theorem dX9_migrate_98 : decode cX9_migrate 98 = .ok (.ifCond .ne 12, 3) := by decide +kernel
theorem dX9_migrate_101 : decode cX9_migrate 101 = .ok (.aload_n 0, 1) := by decide +kernel
theorem dX9_migrate_102 : decode cX9_migrate 102 = .ok (.getfield 35, 3) := by decide +kernel
theorem dX9_migrate_105 : decode cX9_migrate 105 = .ok (.iload_n 1, 1) := by decide +kernel
theorem dX9_migrate_106 : decode cX9_migrate 106 = .ok (.iconst 2, 1) := by decide +kernel
theorem dX9_migrate_107 : decode cX9_migrate 107 = .ok (.invokevirtual 373, 3) := by decide +kernel
theorem dX9_migrate_110 : decode cX9_migrate 110 = .ok (.iload_n 2, 1) := by decide +kernel
theorem dX9_migrate_111 : decode cX9_migrate 111 = .ok (.ireturn, 1) := by decide +kernel
theorem dX9_redundancy_0 : decode cX9_redundancy 0 = .ok (.iload_n 1, 1) := by decide +kernel
theorem dX9_redundancy_1 : decode cX9_redundancy 1 = .ok (.bipush 64, 2) := by decide +kernel
theorem dX9_redundancy_3 : decode cX9_redundancy 3 = .ok (.invokestatic 98, 3) := by decide +kernel
theorem dX9_redundancy_6 : decode cX9_redundancy 6 = .ok (.aload_n 0, 1) := by decide +kernel
theorem dX9_redundancy_7 : decode cX9_redundancy 7 = .ok (.getfield 28, 3) := by decide +kernel
theorem dX9_redundancy_10 : decode cX9_redundancy 10 = .ok (.iload_n 1, 1) := by decide +kernel
theorem dX9_redundancy_11 : decode cX9_redundancy 11 = .ok (.invokevirtual 102, 3) := by decide +kernel
theorem dX9_redundancy_14 : decode cX9_redundancy 14 = .ok (.iconst (-1), 1) := by decide +kernel
theorem dX9_redundancy_15 : decode cX9_redundancy 15 = .ok (.if_icmp .ne 5, 3) := by decide +kernel
theorem dX9_redundancy_18 : decode cX9_redundancy 18 = .ok (.iconst (-1), 1) := by decide +kernel
theorem dX9_redundancy_19 : decode cX9_redundancy 19 = .ok (.ireturn, 1) := by decide +kernel
theorem dX9_redundancy_20 : decode cX9_redundancy 20 = .ok (.aload_n 0, 1) := by decide +kernel
theorem dX9_redundancy_21 : decode cX9_redundancy 21 = .ok (.getfield 53, 3) := by decide +kernel
theorem dX9_redundancy_24 : decode cX9_redundancy 24 = .ok (.iconst (-1), 1) := by decide +kernel
theorem dX9_redundancy_25 : decode cX9_redundancy 25 = .ok (.invokevirtual 143, 3) := by decide +kernel
theorem dX9_redundancy_28 : decode cX9_redundancy 28 = .ok (.aload_n 0, 1) := by decide +kernel
theorem dX9_redundancy_29 : decode cX9_redundancy 29 = .ok (.getfield 53, 3) := by decide +kernel
theorem dX9_redundancy_32 : decode cX9_redundancy 32 = .ok (.iload_n 1, 1) := by decide +kernel
theorem dX9_redundancy_33 : decode cX9_redundancy 33 = .ok (.invokevirtual 376, 3) := by decide +kernel
theorem dX9_redundancy_36 : decode cX9_redundancy 36 = .ok (.ireturn, 1) := by decide +kernel
theorem dX9_duplicate_0 : decode cX9_duplicate 0 = .ok (.aload_n 0, 1) := by decide +kernel
theorem dX9_duplicate_1 : decode cX9_duplicate 1 = .ok (.getfield 53, 3) := by decide +kernel
theorem dX9_duplicate_4 : decode cX9_duplicate 4 = .ok (.iconst (-1), 1) := by decide +kernel
theorem dX9_duplicate_5 : decode cX9_duplicate 5 = .ok (.invokevirtual 143, 3) := by decide +kernel
theorem dX9_duplicate_8 : decode cX9_duplicate 8 = .ok (.aload_n 0, 1) := by decide +kernel
theorem dX9_duplicate_9 : decode cX9_duplicate 9 = .ok (.getfield 35, 3) := by decide +kernel
theorem dX9_duplicate_12 : decode cX9_duplicate 12 = .ok (.iconst (-1), 1) := by decide +kernel
theorem dX9_duplicate_13 : decode cX9_duplicate 13 = .ok (.invokevirtual 361, 3) := by decide +kernel
theorem dX9_duplicate_16 : decode cX9_duplicate 16 = .ok (.istore_n 1, 1) := by decide +kernel
theorem dX9_duplicate_17 : decode cX9_duplicate 17 = .ok (.aload_n 0, 1) := by decide +kernel
theorem dX9_duplicate_18 : decode cX9_duplicate 18 = .ok (.getfield 53, 3) := by decide +kernel
theorem dX9_duplicate_21 : decode cX9_duplicate 21 = .ok (.iload_n 1, 1) := by decide +kernel
theorem dX9_duplicate_22 : decode cX9_duplicate 22 = .ok (.invokevirtual 379, 3) := by decide +kernel
theorem dX9_duplicate_25 : decode cX9_duplicate 25 = .ok (.istore_n 2, 1) := by decide +kernel
theorem dX9_duplicate_26 : decode cX9_duplicate 26 = .ok (.aload_n 0, 1) := by decide +kernel
theorem dX9_duplicate_27 : decode cX9_duplicate 27 = .ok (.iload_n 1, 1) := by decide +kernel
theorem dX9_duplicate_28 : decode cX9_duplicate 28 = .ok (.iload_n 2, 1) := by decide +kernel
theorem dX9_duplicate_29 : decode cX9_duplicate 29 = .ok (.invokevirtual 364, 3) := by decide +kernel
theorem dX9_duplicate_32 : decode cX9_duplicate 32 = .ok (.iconst 1, 1) := by decide +kernel
theorem dX9_duplicate_33 : decode cX9_duplicate 33 = .ok (.istore_n 3, 1) := by decide +kernel
theorem dX9_duplicate_34 : decode cX9_duplicate 34 = .ok (.iload_n 3, 1) := by decide +kernel
theorem dX9_duplicate_35 : decode cX9_duplicate 35 = .ok (.bipush 85, 2) := by decide +kernel
theorem dX9_duplicate_37 : decode cX9_duplicate 37 = .ok (.if_icmp .ge 26, 3) := by decide +kernel
theorem dX9_duplicate_40 : decode cX9_duplicate 40 = .ok (.aload_n 0, 1) := by decide +kernel
theorem dX9_duplicate_41 : decode cX9_duplicate 41 = .ok (.getfield 53, 3) := by decide +kernel
theorem dX9_duplicate_44 : decode cX9_duplicate 44 = .ok (.iload_n 3, 1) := by decide +kernel
theorem dX9_duplicate_45 : decode cX9_duplicate 45 = .ok (.iload_n 1, 1) := by decide +kernel
theorem dX9_duplicate_46 : decode cX9_duplicate 46 = .ok (.invokevirtual 382, 3) := by decide +kernel
theorem dX9_duplicate_49 : decode cX9_duplicate 49 = .ok (.ifCond .eq 8, 3) := by decide +kernel
theorem dX9_duplicate_52 : decode cX9_duplicate 52 = .ok (.aload_n 0, 1) := by decide +kernel
theorem dX9_duplicate_53 : decode cX9_duplicate 53 = .ok (.iload_n 3, 1) := by decide +kernel
theorem dX9_duplicate_54 : decode cX9_duplicate 54 = .ok (.invokevirtual 295, 3) := by decide +kernel
theorem dX9_duplicate_57 : decode cX9_duplicate 57 = .ok (.iinc 3 1, 3) := by decide +kernel
theorem dX9_duplicate_60 : decode cX9_duplicate 60 = .ok (.goto (-26), 3) := by decide +kernel
theorem dX9_duplicate_63 : decode cX9_duplicate 63 = .ok (.iconst 0, 1) := by decide +kernel
theorem dX9_duplicate_64 : decode cX9_duplicate 64 = .ok (.istore_n 3, 1) := by decide +kernel
theorem dX9_duplicate_65 : decode cX9_duplicate 65 = .ok (.iload_n 3, 1) := by decide +kernel
theorem dX9_duplicate_66 : decode cX9_duplicate 66 = .ok (.bipush 64, 2) := by decide +kernel
theorem dX9_duplicate_68 : decode cX9_duplicate 68 = .ok (.if_icmp .ge 48, 3) := by decide +kernel
theorem dX9_duplicate_71 : decode cX9_duplicate 71 = .ok (.aload_n 0, 1) := by decide +kernel
theorem dX9_duplicate_72 : decode cX9_duplicate 72 = .ok (.getfield 53, 3) := by decide +kernel
theorem dX9_duplicate_75 : decode cX9_duplicate 75 = .ok (.bipush 85, 2) := by decide +kernel
theorem dX9_duplicate_77 : decode cX9_duplicate 77 = .ok (.iload_n 3, 1) := by decide +kernel
theorem dX9_duplicate_78 : decode cX9_duplicate 78 = .ok (.iadd, 1) := by decide +kernel
theorem dX9_duplicate_79 : decode cX9_duplicate 79 = .ok (.iload_n 1, 1) := by decide +kernel
theorem dX9_duplicate_80 : decode cX9_duplicate 80 = .ok (.invokevirtual 382, 3) := by decide +kernel
theorem dX9_duplicate_83 : decode cX9_duplicate 83 = .ok (.ifCond .eq 27, 3) := by decide +kernel
theorem dX9_duplicate_86 : decode cX9_duplicate 86 = .ok (.aload_n 0, 1) := by decide +kernel
theorem dX9_duplicate_87 : decode cX9_duplicate 87 = .ok (.iconst 1, 1) := by decide +kernel
theorem dX9_duplicate_88 : decode cX9_duplicate 88 = .ok (.aload_n 0, 1) := by decide +kernel
theorem dX9_duplicate_89 : decode cX9_duplicate 89 = .ok (.getfield 28, 3) := by decide +kernel
theorem dX9_duplicate_92 : decode cX9_duplicate 92 = .ok (.iload_n 3, 1) := by decide +kernel
theorem dX9_duplicate_93 : decode cX9_duplicate 93 = .ok (.invokevirtual 102, 3) := by decide +kernel
theorem dX9_duplicate_96 : decode cX9_duplicate 96 = .ok (.aload_n 0, 1) := by decide +kernel
theorem dX9_duplicate_97 : decode cX9_duplicate 97 = .ok (.getfield 28, 3) := by decide +kernel
theorem dX9_duplicate_100 : decode cX9_duplicate 100 = .ok (.iload_n 3, 1) := by decide +kernel
theorem dX9_duplicate_101 : decode cX9_duplicate 101 = .ok (.invokestatic 117, 3) := by decide +kernel
theorem dX9_duplicate_104 : decode cX9_duplicate 104 = .ok (.invokevirtual 136, 3) := by decide +kernel
theorem dX9_duplicate_107 : decode cX9_duplicate 107 = .ok (.invokevirtual 139, 3) := by decide +kernel
theorem dX9_duplicate_110 : decode cX9_duplicate 110 = .ok (.iinc 3 1, 3) := by decide +kernel
theorem dX9_duplicate_113 : decode cX9_duplicate 113 = .ok (.goto (-48), 3) := by decide +kernel
theorem dX9_duplicate_116 : decode cX9_duplicate 116 = .ok (.iload_n 2, 1) := by decide +kernel
theorem dX9_duplicate_117 : decode cX9_duplicate 117 = .ok (.ireturn, 1) := by decide +kernel
theorem dX9_redundantMedia_0 : decode cX9_redundantMedia 0 = .ok (.aload_n 0, 1) := by decide +kernel
theorem dX9_redundantMedia_1 : decode cX9_redundantMedia 1 = .ok (.getfield 53, 3) := by decide +kernel
theorem dX9_redundantMedia_4 : decode cX9_redundantMedia 4 = .ok (.iconst (-1), 1) := by decide +kernel
theorem dX9_redundantMedia_5 : decode cX9_redundantMedia 5 = .ok (.invokevirtual 143, 3) := by decide +kernel
theorem dX9_redundantMedia_8 : decode cX9_redundantMedia 8 = .ok (.aload_n 0, 1) := by decide +kernel
theorem dX9_redundantMedia_9 : decode cX9_redundantMedia 9 = .ok (.getfield 53, 3) := by decide +kernel
theorem dX9_redundantMedia_12 : decode cX9_redundantMedia 12 = .ok (.iconst (-1), 1) := by decide +kernel
theorem dX9_redundantMedia_13 : decode cX9_redundantMedia 13 = .ok (.invokevirtual 173, 3) := by decide +kernel
theorem dX9_redundantMedia_16 : decode cX9_redundantMedia 16 = .ok (.istore_n 1, 1) := by decide +kernel
theorem dX9_redundantMedia_17 : decode cX9_redundantMedia 17 = .ok (.iconst 0, 1) := by decide +kernel
theorem dX9_redundantMedia_18 : decode cX9_redundantMedia 18 = .ok (.istore_n 2, 1) := by decide +kernel
theorem dX9_redundantMedia_19 : decode cX9_redundantMedia 19 = .ok (.iconst 0, 1) := by decide +kernel
theorem dX9_redundantMedia_20 : decode cX9_redundantMedia 20 = .ok (.istore_n 3, 1) := by decide +kernel
theorem dX9_redundantMedia_21 : decode cX9_redundantMedia 21 = .ok (.iload_n 3, 1) := by decide +kernel
theorem dX9_redundantMedia_22 : decode cX9_redundantMedia 22 = .ok (.aload_n 0, 1) := by decide +kernel
theorem dX9_redundantMedia_23 : decode cX9_redundantMedia 23 = .ok (.getfield 35, 3) := by decide +kernel
theorem dX9_redundantMedia_26 : decode cX9_redundantMedia 26 = .ok (.invokevirtual 185, 3) := by decide +kernel
theorem dX9_redundantMedia_29 : decode cX9_redundantMedia 29 = .ok (.if_icmp .ge 42, 3) := by decide +kernel
theorem dX9_redundantMedia_32 : decode cX9_redundantMedia 32 = .ok (.aload_n 0, 1) := by decide +kernel
theorem dX9_redundantMedia_33 : decode cX9_redundantMedia 33 = .ok (.getfield 35, 3) := by decide +kernel
theorem dX9_redundantMedia_36 : decode cX9_redundantMedia 36 = .ok (.iload_n 3, 1) := by decide +kernel
theorem dX9_redundantMedia_37 : decode cX9_redundantMedia 37 = .ok (.invokevirtual 385, 3) := by decide +kernel
theorem dX9_redundantMedia_40 : decode cX9_redundantMedia 40 = .ok (.ifCond .eq 25, 3) := by decide +kernel
theorem dX9_redundantMedia_43 : decode cX9_redundantMedia 43 = .ok (.aload_n 0, 1) := by decide +kernel
theorem dX9_redundantMedia_44 : decode cX9_redundantMedia 44 = .ok (.getfield 53, 3) := by decide +kernel
theorem dX9_redundantMedia_47 : decode cX9_redundantMedia 47 = .ok (.iconst 1, 1) := by decide +kernel
theorem dX9_redundantMedia_48 : decode cX9_redundantMedia 48 = .ok (.iload_n 3, 1) := by decide +kernel
theorem dX9_redundantMedia_49 : decode cX9_redundantMedia 49 = .ok (.ishl, 1) := by decide +kernel
theorem dX9_redundantMedia_50 : decode cX9_redundantMedia 50 = .ok (.iconst (-1), 1) := by decide +kernel
theorem dX9_redundantMedia_51 : decode cX9_redundantMedia 51 = .ok (.ixor, 1) := by decide +kernel
theorem dX9_redundantMedia_52 : decode cX9_redundantMedia 52 = .ok (.invokevirtual 173, 3) := by decide +kernel
theorem dX9_redundantMedia_55 : decode cX9_redundantMedia 55 = .ok (.iload_n 1, 1) := by decide +kernel
theorem dX9_redundantMedia_56 : decode cX9_redundantMedia 56 = .ok (.if_icmp .ne 9, 3) := by decide +kernel
theorem dX9_redundantMedia_59 : decode cX9_redundantMedia 59 = .ok (.iload_n 2, 1) := by decide +kernel
theorem dX9_redundantMedia_60 : decode cX9_redundantMedia 60 = .ok (.iconst 1, 1) := by decide +kernel
theorem dX9_redundantMedia_61 : decode cX9_redundantMedia 61 = .ok (.iload_n 3, 1) := by decide +kernel
theorem dX9_redundantMedia_62 : decode cX9_redundantMedia 62 = .ok (.ishl, 1) := by decide +kernel
theorem dX9_redundantMedia_63 : decode cX9_redundantMedia 63 = .ok (.ior, 1) := by decide +kernel
theorem dX9_redundantMedia_64 : decode cX9_redundantMedia 64 = .ok (.istore_n 2, 1) := by decide +kernel
theorem dX9_redundantMedia_65 : decode cX9_redundantMedia 65 = .ok (.iinc 3 1, 3) := by decide +kernel
theorem dX9_redundantMedia_68 : decode cX9_redundantMedia 68 = .ok (.goto (-47), 3) := by decide +kernel
theorem dX9_redundantMedia_71 : decode cX9_redundantMedia 71 = .ok (.iload_n 2, 1) := by decide +kernel
theorem dX9_redundantMedia_72 : decode cX9_redundantMedia 72 = .ok (.ireturn, 1) := by decide +kernel
theorem dX9_hash_0 : decode cX9_hash 0 = .ok (.iload_n 1, 1) := by decide +kernel
theorem dX9_hash_1 : decode cX9_hash 1 = .ok (.bipush 85, 2) := by decide +kernel
theorem dX9_hash_3 : decode cX9_hash 3 = .ok (.invokestatic 98, 3) := by decide +kernel
theorem dX9_hash_6 : decode cX9_hash 6 = .ok (.aload_n 0, 1) := by decide +kernel
theorem dX9_hash_7 : decode cX9_hash 7 = .ok (.getfield 71, 3) := by decide +kernel
theorem dX9_hash_10 : decode cX9_hash 10 = .ok (.invokevirtual 388, 3) := by decide +kernel
theorem dX9_hash_13 : decode cX9_hash 13 = .ok (.aload_n 0, 1) := by decide +kernel
theorem dX9_hash_14 : decode cX9_hash 14 = .ok (.getfield 71, 3) := by decide +kernel
theorem dX9_hash_17 : decode cX9_hash 17 = .ok (.iload_n 1, 1) := by decide +kernel
theorem dX9_hash_18 : decode cX9_hash 18 = .ok (.invokevirtual 391, 3) := by decide +kernel
theorem dX9_hash_21 : decode cX9_hash 21 = .ok (.ireturn, 1) := by decide +kernel
theorem dX9_keepProof_0 : decode cX9_keepProof 0 = .ok (.iload_n 1, 1) := by decide +kernel
theorem dX9_keepProof_1 : decode cX9_keepProof 1 = .ok (.iconst 4, 1) := by decide +kernel
theorem dX9_keepProof_2 : decode cX9_keepProof 2 = .ok (.invokestatic 98, 3) := by decide +kernel
theorem dX9_keepProof_5 : decode cX9_keepProof 5 = .ok (.iload_n 2, 1) := by decide +kernel
theorem dX9_keepProof_6 : decode cX9_keepProof 6 = .ok (.bipush 64, 2) := by decide +kernel
theorem dX9_keepProof_8 : decode cX9_keepProof 8 = .ok (.invokestatic 98, 3) := by decide +kernel
theorem dX9_keepProof_11 : decode cX9_keepProof 11 = .ok (.aload_n 0, 1) := by decide +kernel
theorem dX9_keepProof_12 : decode cX9_keepProof 12 = .ok (.getfield 80, 3) := by decide +kernel
theorem dX9_keepProof_15 : decode cX9_keepProof 15 = .ok (.iload_n 1, 1) := by decide +kernel
theorem dX9_keepProof_16 : decode cX9_keepProof 16 = .ok (.iload_n 2, 1) := by decide +kernel
theorem dX9_keepProof_17 : decode cX9_keepProof 17 = .ok (.invokevirtual 394, 3) := by decide +kernel
theorem dX9_keepProof_20 : decode cX9_keepProof 20 = .ok (.aload_n 0, 1) := by decide +kernel
theorem dX9_keepProof_21 : decode cX9_keepProof 21 = .ok (.getfield 80, 3) := by decide +kernel
theorem dX9_keepProof_24 : decode cX9_keepProof 24 = .ok (.iload_n 1, 1) := by decide +kernel
theorem dX9_keepProof_25 : decode cX9_keepProof 25 = .ok (.iconst 0, 1) := by decide +kernel
theorem dX9_keepProof_26 : decode cX9_keepProof 26 = .ok (.invokevirtual 397, 3) := by decide +kernel
theorem dX9_keepProof_29 : decode cX9_keepProof 29 = .ok (.ireturn, 1) := by decide +kernel
theorem dX9_proofNumber_0 : decode cX9_proofNumber 0 = .ok (.iload_n 1, 1) := by decide +kernel
theorem dX9_proofNumber_1 : decode cX9_proofNumber 1 = .ok (.iconst 4, 1) := by decide +kernel
theorem dX9_proofNumber_2 : decode cX9_proofNumber 2 = .ok (.invokestatic 98, 3) := by decide +kernel
theorem dX9_proofNumber_5 : decode cX9_proofNumber 5 = .ok (.iload_n 2, 1) := by decide +kernel
theorem dX9_proofNumber_6 : decode cX9_proofNumber 6 = .ok (.bipush 13, 2) := by decide +kernel
theorem dX9_proofNumber_8 : decode cX9_proofNumber 8 = .ok (.invokestatic 98, 3) := by decide +kernel
theorem dX9_proofNumber_11 : decode cX9_proofNumber 11 = .ok (.aload_n 0, 1) := by decide +kernel
theorem dX9_proofNumber_12 : decode cX9_proofNumber 12 = .ok (.iload_n 1, 1) := by decide +kernel
theorem dX9_proofNumber_13 : decode cX9_proofNumber 13 = .ok (.invokevirtual 400, 3) := by decide +kernel
theorem dX9_proofNumber_16 : decode cX9_proofNumber 16 = .ok (.aload_n 0, 1) := by decide +kernel
theorem dX9_proofNumber_17 : decode cX9_proofNumber 17 = .ok (.getfield 80, 3) := by decide +kernel
theorem dX9_proofNumber_20 : decode cX9_proofNumber 20 = .ok (.iload_n 1, 1) := by decide +kernel
theorem dX9_proofNumber_21 : decode cX9_proofNumber 21 = .ok (.iload_n 2, 1) := by decide +kernel
theorem dX9_proofNumber_22 : decode cX9_proofNumber 22 = .ok (.invokevirtual 397, 3) := by decide +kernel
theorem dX9_proofNumber_25 : decode cX9_proofNumber 25 = .ok (.ireturn, 1) := by decide +kernel
theorem dX9_proofHash_0 : decode cX9_proofHash 0 = .ok (.iload_n 1, 1) := by decide +kernel
theorem dX9_proofHash_1 : decode cX9_proofHash 1 = .ok (.iconst 4, 1) := by decide +kernel
theorem dX9_proofHash_2 : decode cX9_proofHash 2 = .ok (.invokestatic 98, 3) := by decide +kernel
theorem dX9_proofHash_5 : decode cX9_proofHash 5 = .ok (.aload_n 0, 1) := by decide +kernel
theorem dX9_proofHash_6 : decode cX9_proofHash 6 = .ok (.iload_n 1, 1) := by decide +kernel
theorem dX9_proofHash_7 : decode cX9_proofHash 7 = .ok (.invokevirtual 400, 3) := by decide +kernel
theorem dX9_proofHash_10 : decode cX9_proofHash 10 = .ok (.aload_n 0, 1) := by decide +kernel
theorem dX9_proofHash_11 : decode cX9_proofHash 11 = .ok (.getfield 80, 3) := by decide +kernel
theorem dX9_proofHash_14 : decode cX9_proofHash 14 = .ok (.iload_n 1, 1) := by decide +kernel
theorem dX9_proofHash_15 : decode cX9_proofHash 15 = .ok (.aload_n 0, 1) := by decide +kernel
theorem dX9_proofHash_16 : decode cX9_proofHash 16 = .ok (.getfield 80, 3) := by decide +kernel
theorem dX9_proofHash_19 : decode cX9_proofHash 19 = .ok (.iload_n 1, 1) := by decide +kernel
theorem dX9_proofHash_20 : decode cX9_proofHash 20 = .ok (.iconst 0, 1) := by decide +kernel
theorem dX9_proofHash_21 : decode cX9_proofHash 21 = .ok (.invokevirtual 397, 3) := by decide +kernel
theorem dX9_proofHash_24 : decode cX9_proofHash 24 = .ok (.invokevirtual 403, 3) := by decide +kernel
theorem dX9_proofHash_27 : decode cX9_proofHash 27 = .ok (.ireturn, 1) := by decide +kernel
theorem dX9_proofHashWith_0 : decode cX9_proofHashWith 0 = .ok (.iload_n 1, 1) := by decide +kernel
theorem dX9_proofHashWith_1 : decode cX9_proofHashWith 1 = .ok (.iconst 4, 1) := by decide +kernel
theorem dX9_proofHashWith_2 : decode cX9_proofHashWith 2 = .ok (.invokestatic 98, 3) := by decide +kernel
theorem dX9_proofHashWith_5 : decode cX9_proofHashWith 5 = .ok (.aload_n 0, 1) := by decide +kernel
theorem dX9_proofHashWith_6 : decode cX9_proofHashWith 6 = .ok (.iload_n 1, 1) := by decide +kernel
theorem dX9_proofHashWith_7 : decode cX9_proofHashWith 7 = .ok (.invokevirtual 400, 3) := by decide +kernel
theorem dX9_proofHashWith_10 : decode cX9_proofHashWith 10 = .ok (.aload_n 0, 1) := by decide +kernel
theorem dX9_proofHashWith_11 : decode cX9_proofHashWith 11 = .ok (.getfield 80, 3) := by decide +kernel
theorem dX9_proofHashWith_14 : decode cX9_proofHashWith 14 = .ok (.iload_n 1, 1) := by decide +kernel
theorem dX9_proofHashWith_15 : decode cX9_proofHashWith 15 = .ok (.iload_n 2, 1) := by decide +kernel
theorem dX9_proofHashWith_16 : decode cX9_proofHashWith 16 = .ok (.invokevirtual 403, 3) := by decide +kernel
theorem dX9_proofHashWith_19 : decode cX9_proofHashWith 19 = .ok (.ireturn, 1) := by decide +kernel
theorem dX9_begin_0 : decode cX9_begin 0 = .ok (.aload_n 0, 1) := by decide +kernel
theorem dX9_begin_1 : decode cX9_begin 1 = .ok (.getfield 10, 3) := by decide +kernel
theorem dX9_begin_4 : decode cX9_begin 4 = .ok (.iload_n 1, 1) := by decide +kernel
theorem dX9_begin_5 : decode cX9_begin 5 = .ok (.invokevirtual 406, 3) := by decide +kernel
theorem dX9_begin_8 : decode cX9_begin 8 = .ok (.aload_n 0, 1) := by decide +kernel
theorem dX9_begin_9 : decode cX9_begin 9 = .ok (.getfield 19, 3) := by decide +kernel
theorem dX9_begin_12 : decode cX9_begin 12 = .ok (.invokevirtual 407, 3) := by decide +kernel
theorem dX9_begin_15 : decode cX9_begin 15 = .ok (.aload_n 0, 1) := by decide +kernel
theorem dX9_begin_16 : decode cX9_begin 16 = .ok (.getfield 28, 3) := by decide +kernel
theorem dX9_begin_19 : decode cX9_begin 19 = .ok (.invokevirtual 409, 3) := by decide +kernel
theorem dX9_begin_22 : decode cX9_begin 22 = .ok (.aload_n 0, 1) := by decide +kernel
theorem dX9_begin_23 : decode cX9_begin 23 = .ok (.getfield 35, 3) := by decide +kernel
theorem dX9_begin_26 : decode cX9_begin 26 = .ok (.invokevirtual 410, 3) := by decide +kernel
theorem dX9_begin_29 : decode cX9_begin 29 = .ok (.aload_n 0, 1) := by decide +kernel
theorem dX9_begin_30 : decode cX9_begin 30 = .ok (.getfield 80, 3) := by decide +kernel
theorem dX9_begin_33 : decode cX9_begin 33 = .ok (.invokevirtual 411, 3) := by decide +kernel
theorem dX9_begin_36 : decode cX9_begin 36 = .ok (.aload_n 0, 1) := by decide +kernel
theorem dX9_begin_37 : decode cX9_begin 37 = .ok (.getfield 84, 3) := by decide +kernel
theorem dX9_begin_40 : decode cX9_begin 40 = .ok (.iconst (-1), 1) := by decide +kernel
theorem dX9_begin_41 : decode cX9_begin 41 = .ok (.invokestatic 412, 3) := by decide +kernel
theorem dX9_begin_44 : decode cX9_begin 44 = .ok (.aload_n 0, 1) := by decide +kernel
theorem dX9_begin_45 : decode cX9_begin 45 = .ok (.getfield 88, 3) := by decide +kernel
theorem dX9_begin_48 : decode cX9_begin 48 = .ok (.iconst (-1), 1) := by decide +kernel
theorem dX9_begin_49 : decode cX9_begin 49 = .ok (.invokestatic 412, 3) := by decide +kernel
theorem dX9_begin_52 : decode cX9_begin 52 = .ok (.aload_n 0, 1) := by decide +kernel
theorem dX9_begin_53 : decode cX9_begin 53 = .ok (.getfield 91, 3) := by decide +kernel
theorem dX9_begin_56 : decode cX9_begin 56 = .ok (.iconst (-1), 1) := by decide +kernel
theorem dX9_begin_57 : decode cX9_begin 57 = .ok (.invokestatic 412, 3) := by decide +kernel
theorem dX9_begin_60 : decode cX9_begin 60 = .ok (.aload_n 0, 1) := by decide +kernel
theorem dX9_begin_61 : decode cX9_begin 61 = .ok (.iconst 0, 1) := by decide +kernel
theorem dX9_begin_62 : decode cX9_begin 62 = .ok (.putfield 234, 3) := by decide +kernel
theorem dX9_begin_65 : decode cX9_begin 65 = .ok (.return_, 1) := by decide +kernel
theorem dX9_requireIndex_0 : decode cX9_requireIndex 0 = .ok (.iload_n 0, 1) := by decide +kernel
theorem dX9_requireIndex_1 : decode cX9_requireIndex 1 = .ok (.ifCond .lt 8, 3) := by decide +kernel
theorem dX9_requireIndex_4 : decode cX9_requireIndex 4 = .ok (.iload_n 0, 1) := by decide +kernel
theorem dX9_requireIndex_5 : decode cX9_requireIndex 5 = .ok (.iload_n 1, 1) := by decide +kernel
theorem dX9_requireIndex_6 : decode cX9_requireIndex 6 = .ok (.if_icmp .lt 14, 3) := by decide +kernel
theorem dX9_requireIndex_9 : decode cX9_requireIndex 9 = .ok (.new 282, 3) := by decide +kernel
theorem dX9_requireIndex_12 : decode cX9_requireIndex 12 = .ok (.dup, 1) := by decide +kernel
theorem dX9_requireIndex_13 : decode cX9_requireIndex 13 = .ok (.ldc_w 417, 3) := by decide +kernel
theorem dX9_requireIndex_16 : decode cX9_requireIndex 16 = .ok (.invokespecial 286, 3) := by decide +kernel
theorem dX9_requireIndex_19 : decode cX9_requireIndex 19 = .ok (.athrow, 1) := by decide +kernel
theorem dX9_requireIndex_20 : decode cX9_requireIndex 20 = .ok (.return_, 1) := by decide +kernel
theorem dX9_requireWhat_0 : decode cX9_requireWhat 0 = .ok (.iload_n 0, 1) := by decide +kernel
theorem dX9_requireWhat_1 : decode cX9_requireWhat 1 = .ok (.ifCond .lt 8, 3) := by decide +kernel
theorem dX9_requireWhat_4 : decode cX9_requireWhat 4 = .ok (.iload_n 0, 1) := by decide +kernel
theorem dX9_requireWhat_5 : decode cX9_requireWhat 5 = .ok (.iload_n 1, 1) := by decide +kernel
theorem dX9_requireWhat_6 : decode cX9_requireWhat 6 = .ok (.if_icmp .le 14, 3) := by decide +kernel
theorem dX9_requireWhat_9 : decode cX9_requireWhat 9 = .ok (.new 219, 3) := by decide +kernel
theorem dX9_requireWhat_12 : decode cX9_requireWhat 12 = .ok (.dup, 1) := by decide +kernel
theorem dX9_requireWhat_13 : decode cX9_requireWhat 13 = .ok (.ldc_w 419, 3) := by decide +kernel
theorem dX9_requireWhat_16 : decode cX9_requireWhat 16 = .ok (.invokespecial 223, 3) := by decide +kernel
theorem dX9_requireWhat_19 : decode cX9_requireWhat 19 = .ok (.athrow, 1) := by decide +kernel
theorem dX9_requireWhat_20 : decode cX9_requireWhat 20 = .ok (.return_, 1) := by decide +kernel
theorem dX9_requireRoom_0 : decode cX9_requireRoom 0 = .ok (.aload_n 0, 1) := by decide +kernel
theorem dX9_requireRoom_1 : decode cX9_requireRoom 1 = .ok (.aload_n 0, 1) := by decide +kernel
theorem dX9_requireRoom_2 : decode cX9_requireRoom 2 = .ok (.getfield 35, 3) := by decide +kernel
theorem dX9_requireRoom_5 : decode cX9_requireRoom 5 = .ok (.iconst (-1), 1) := by decide +kernel
theorem dX9_requireRoom_6 : decode cX9_requireRoom 6 = .ok (.invokevirtual 361, 3) := by decide +kernel
theorem dX9_requireRoom_9 : decode cX9_requireRoom 9 = .ok (.iload_n 1, 1) := by decide +kernel
theorem dX9_requireRoom_10 : decode cX9_requireRoom 10 = .ok (.invokevirtual 364, 3) := by decide +kernel
theorem dX9_requireRoom_13 : decode cX9_requireRoom 13 = .ok (.aload_n 0, 1) := by decide +kernel
theorem dX9_requireRoom_14 : decode cX9_requireRoom 14 = .ok (.getfield 10, 3) := by decide +kernel
theorem dX9_requireRoom_17 : decode cX9_requireRoom 17 = .ok (.invokevirtual 421, 3) := by decide +kernel
theorem dX9_requireRoom_20 : decode cX9_requireRoom 20 = .ok (.ifCond .ne 14, 3) := by decide +kernel
theorem dX9_requireRoom_23 : decode cX9_requireRoom 23 = .ok (.new 110, 3) := by decide +kernel
theorem dX9_requireRoom_26 : decode cX9_requireRoom 26 = .ok (.dup, 1) := by decide +kernel
theorem dX9_requireRoom_27 : decode cX9_requireRoom 27 = .ok (.ldc_w 424, 3) := by decide +kernel
theorem dX9_requireRoom_30 : decode cX9_requireRoom 30 = .ok (.invokespecial 114, 3) := by decide +kernel
theorem dX9_requireRoom_33 : decode cX9_requireRoom 33 = .ok (.athrow, 1) := by decide +kernel
theorem dX9_requireRoom_34 : decode cX9_requireRoom 34 = .ok (.return_, 1) := by decide +kernel
theorem dX9_requireRoomOn_0 : decode cX9_requireRoomOn 0 = .ok (.iload_n 2, 1) := by decide +kernel
theorem dX9_requireRoomOn_1 : decode cX9_requireRoomOn 1 = .ok (.aload_n 0, 1) := by decide +kernel
theorem dX9_requireRoomOn_2 : decode cX9_requireRoomOn 2 = .ok (.getfield 35, 3) := by decide +kernel
theorem dX9_requireRoomOn_5 : decode cX9_requireRoomOn 5 = .ok (.iload_n 1, 1) := by decide +kernel
theorem dX9_requireRoomOn_6 : decode cX9_requireRoomOn 6 = .ok (.invokevirtual 426, 3) := by decide +kernel
theorem dX9_requireRoomOn_9 : decode cX9_requireRoomOn 9 = .ok (.if_icmp .le 14, 3) := by decide +kernel
theorem dX9_requireRoomOn_12 : decode cX9_requireRoomOn 12 = .ok (.new 110, 3) := by decide +kernel
theorem dX9_requireRoomOn_15 : decode cX9_requireRoomOn 15 = .ok (.dup, 1) := by decide +kernel
theorem dX9_requireRoomOn_16 : decode cX9_requireRoomOn 16 = .ok (.ldc_w 429, 3) := by decide +kernel
theorem dX9_requireRoomOn_19 : decode cX9_requireRoomOn 19 = .ok (.invokespecial 114, 3) := by decide +kernel
theorem dX9_requireRoomOn_22 : decode cX9_requireRoomOn 22 = .ok (.athrow, 1) := by decide +kernel
theorem dX9_requireRoomOn_23 : decode cX9_requireRoomOn 23 = .ok (.return_, 1) := by decide +kernel
theorem dX9_requireProof_0 : decode cX9_requireProof 0 = .ok (.aload_n 0, 1) := by decide +kernel
theorem dX9_requireProof_1 : decode cX9_requireProof 1 = .ok (.getfield 80, 3) := by decide +kernel
theorem dX9_requireProof_4 : decode cX9_requireProof 4 = .ok (.iload_n 1, 1) := by decide +kernel
theorem dX9_requireProof_5 : decode cX9_requireProof 5 = .ok (.invokevirtual 431, 3) := by decide +kernel
theorem dX9_requireProof_8 : decode cX9_requireProof 8 = .ok (.ifCond .ne 14, 3) := by decide +kernel
theorem dX9_requireProof_11 : decode cX9_requireProof 11 = .ok (.new 110, 3) := by decide +kernel
theorem dX9_requireProof_14 : decode cX9_requireProof 14 = .ok (.dup, 1) := by decide +kernel
theorem dX9_requireProof_15 : decode cX9_requireProof 15 = .ok (.ldc_w 434, 3) := by decide +kernel
theorem dX9_requireProof_18 : decode cX9_requireProof 18 = .ok (.invokespecial 114, 3) := by decide +kernel
theorem dX9_requireProof_21 : decode cX9_requireProof 21 = .ok (.athrow, 1) := by decide +kernel
theorem dX9_requireProof_22 : decode cX9_requireProof 22 = .ok (.return_, 1) := by decide +kernel
theorem dX9_requireOpening_0 : decode cX9_requireOpening 0 = .ok (.aload_n 0, 1) := by decide +kernel
theorem dX9_requireOpening_1 : decode cX9_requireOpening 1 = .ok (.getfield 44, 3) := by decide +kernel
theorem dX9_requireOpening_4 : decode cX9_requireOpening 4 = .ok (.iload_n 2, 1) := by decide +kernel
theorem dX9_requireOpening_5 : decode cX9_requireOpening 5 = .ok (.invokevirtual 176, 3) := by decide +kernel
theorem dX9_requireOpening_8 : decode cX9_requireOpening 8 = .ok (.aload_n 0, 1) := by decide +kernel
theorem dX9_requireOpening_9 : decode cX9_requireOpening 9 = .ok (.getfield 44, 3) := by decide +kernel
theorem dX9_requireOpening_12 : decode cX9_requireOpening 12 = .ok (.iload_n 1, 1) := by decide +kernel
theorem dX9_requireOpening_13 : decode cX9_requireOpening 13 = .ok (.invokevirtual 179, 3) := by decide +kernel
theorem dX9_requireOpening_16 : decode cX9_requireOpening 16 = .ok (.istore_n 3, 1) := by decide +kernel
theorem dX9_requireOpening_17 : decode cX9_requireOpening 17 = .ok (.iload_n 3, 1) := by decide +kernel
theorem dX9_requireOpening_18 : decode cX9_requireOpening 18 = .ok (.ifCond .ne 14, 3) := by decide +kernel
theorem dX9_requireOpening_21 : decode cX9_requireOpening 21 = .ok (.new 150, 3) := by decide +kernel
theorem dX9_requireOpening_24 : decode cX9_requireOpening 24 = .ok (.dup, 1) := by decide +kernel
theorem dX9_requireOpening_25 : decode cX9_requireOpening 25 = .ok (.ldc_w 436, 3) := by decide +kernel
theorem dX9_requireOpening_28 : decode cX9_requireOpening 28 = .ok (.invokespecial 154, 3) := by decide +kernel
theorem dX9_requireOpening_31 : decode cX9_requireOpening 31 = .ok (.athrow, 1) := by decide +kernel
theorem dX9_requireOpening_32 : decode cX9_requireOpening 32 = .ok (.iload_n 3, 1) := by decide +kernel
theorem dX9_requireOpening_33 : decode cX9_requireOpening 33 = .ok (.ireturn, 1) := by decide +kernel
theorem dX9_write_0 : decode cX9_write 0 = .ok (.aload_n 0, 1) := by decide +kernel
theorem dX9_write_1 : decode cX9_write 1 = .ok (.getfield 35, 3) := by decide +kernel
theorem dX9_write_4 : decode cX9_write 4 = .ok (.aload_n 0, 1) := by decide +kernel
theorem dX9_write_5 : decode cX9_write 5 = .ok (.getfield 35, 3) := by decide +kernel
theorem dX9_write_8 : decode cX9_write 8 = .ok (.iconst (-1), 1) := by decide +kernel
theorem dX9_write_9 : decode cX9_write 9 = .ok (.invokevirtual 361, 3) := by decide +kernel
theorem dX9_write_12 : decode cX9_write 12 = .ok (.iload_n 1, 1) := by decide +kernel
theorem dX9_write_13 : decode cX9_write 13 = .ok (.iload_n 2, 1) := by decide +kernel
theorem dX9_write_14 : decode cX9_write 14 = .ok (.iload_n 3, 1) := by decide +kernel
theorem dX9_write_15 : decode cX9_write 15 = .ok (.invokevirtual 438, 3) := by decide +kernel
theorem dX9_write_18 : decode cX9_write 18 = .ok (.return_, 1) := by decide +kernel
theorem dX9_wrap_0 : decode cX9_wrap 0 = .ok (.aload_n 0, 1) := by decide +kernel
theorem dX9_wrap_1 : decode cX9_wrap 1 = .ok (.iconst 0, 1) := by decide +kernel
theorem dX9_wrap_2 : decode cX9_wrap 2 = .ok (.aload_n 0, 1) := by decide +kernel
theorem dX9_wrap_3 : decode cX9_wrap 3 = .ok (.getfield 28, 3) := by decide +kernel
theorem dX9_wrap_6 : decode cX9_wrap 6 = .ok (.iload_n 1, 1) := by decide +kernel
theorem dX9_wrap_7 : decode cX9_wrap 7 = .ok (.invokevirtual 136, 3) := by decide +kernel
theorem dX9_wrap_10 : decode cX9_wrap 10 = .ok (.aload_n 0, 1) := by decide +kernel
theorem dX9_wrap_11 : decode cX9_wrap 11 = .ok (.getfield 28, 3) := by decide +kernel
theorem dX9_wrap_14 : decode cX9_wrap 14 = .ok (.iload_n 1, 1) := by decide +kernel
theorem dX9_wrap_15 : decode cX9_wrap 15 = .ok (.invokestatic 310, 3) := by decide +kernel
theorem dX9_wrap_18 : decode cX9_wrap 18 = .ok (.invokevirtual 136, 3) := by decide +kernel
theorem dX9_wrap_21 : decode cX9_wrap 21 = .ok (.invokevirtual 139, 3) := by decide +kernel
theorem dX9_wrap_24 : decode cX9_wrap 24 = .ok (.return_, 1) := by decide +kernel
theorem dX9_wrapChildren_0 : decode cX9_wrapChildren 0 = .ok (.iload_n 1, 1) := by decide +kernel
theorem dX9_wrapChildren_1 : decode cX9_wrapChildren 1 = .ok (.invokestatic 441, 3) := by decide +kernel
theorem dX9_wrapChildren_4 : decode cX9_wrapChildren 4 = .ok (.istore_n 2, 1) := by decide +kernel
theorem dX9_wrapChildren_5 : decode cX9_wrapChildren 5 = .ok (.iload_n 2, 1) := by decide +kernel
theorem dX9_wrapChildren_6 : decode cX9_wrapChildren 6 = .ok (.istore_n 3, 1) := by decide +kernel
theorem dX9_wrapChildren_7 : decode cX9_wrapChildren 7 = .ok (.iload_n 3, 1) := by decide +kernel
theorem dX9_wrapChildren_8 : decode cX9_wrapChildren 8 = .ok (.iload_n 2, 1) := by decide +kernel
theorem dX9_wrapChildren_9 : decode cX9_wrapChildren 9 = .ok (.iconst 4, 1) := by decide +kernel
theorem dX9_wrapChildren_10 : decode cX9_wrapChildren 10 = .ok (.iadd, 1) := by decide +kernel
theorem dX9_wrapChildren_11 : decode cX9_wrapChildren 11 = .ok (.if_icmp .ge 25, 3) := by decide +kernel
theorem dX9_wrapChildren_14 : decode cX9_wrapChildren 14 = .ok (.aload_n 0, 1) := by decide +kernel
theorem dX9_wrapChildren_15 : decode cX9_wrapChildren 15 = .ok (.getfield 28, 3) := by decide +kernel
theorem dX9_wrapChildren_18 : decode cX9_wrapChildren 18 = .ok (.iload_n 3, 1) := by decide +kernel
theorem dX9_wrapChildren_19 : decode cX9_wrapChildren 19 = .ok (.invokevirtual 276, 3) := by decide +kernel
theorem dX9_wrapChildren_22 : decode cX9_wrapChildren 22 = .ok (.ifCond .eq 8, 3) := by decide +kernel
theorem dX9_wrapChildren_25 : decode cX9_wrapChildren 25 = .ok (.aload_n 0, 1) := by decide +kernel
theorem dX9_wrapChildren_26 : decode cX9_wrapChildren 26 = .ok (.iload_n 3, 1) := by decide +kernel
theorem dX9_wrapChildren_27 : decode cX9_wrapChildren 27 = .ok (.invokevirtual 295, 3) := by decide +kernel
theorem dX9_wrapChildren_30 : decode cX9_wrapChildren 30 = .ok (.iinc 3 1, 3) := by decide +kernel
theorem dX9_wrapChildren_33 : decode cX9_wrapChildren 33 = .ok (.goto (-26), 3) := by decide +kernel
theorem dX9_wrapChildren_36 : decode cX9_wrapChildren 36 = .ok (.return_, 1) := by decide +kernel
theorem dX9_addNodesOnWayTo_0 : decode cX9_addNodesOnWayTo 0 = .ok (.iconst 1, 1) := by decide +kernel
theorem dX9_addNodesOnWayTo_1 : decode cX9_addNodesOnWayTo 1 = .ok (.istore_n 2, 1) := by decide +kernel
theorem dX9_addNodesOnWayTo_2 : decode cX9_addNodesOnWayTo 2 = .ok (.iload_n 2, 1) := by decide +kernel
theorem dX9_addNodesOnWayTo_3 : decode cX9_addNodesOnWayTo 3 = .ok (.iload_n 1, 1) := by decide +kernel
theorem dX9_addNodesOnWayTo_4 : decode cX9_addNodesOnWayTo 4 = .ok (.invokestatic 300, 3) := by decide +kernel
theorem dX9_addNodesOnWayTo_7 : decode cX9_addNodesOnWayTo 7 = .ok (.if_icmp .gt 39, 3) := by decide +kernel
theorem dX9_addNodesOnWayTo_10 : decode cX9_addNodesOnWayTo 10 = .ok (.iload_n 1, 1) := by decide +kernel
theorem dX9_addNodesOnWayTo_11 : decode cX9_addNodesOnWayTo 11 = .ok (.iload_n 2, 1) := by decide +kernel
theorem dX9_addNodesOnWayTo_12 : decode cX9_addNodesOnWayTo 12 = .ok (.invokestatic 444, 3) := by decide +kernel
theorem dX9_addNodesOnWayTo_15 : decode cX9_addNodesOnWayTo 15 = .ok (.istore_n 3, 1) := by decide +kernel
theorem dX9_addNodesOnWayTo_16 : decode cX9_addNodesOnWayTo 16 = .ok (.aload_n 0, 1) := by decide +kernel
theorem dX9_addNodesOnWayTo_17 : decode cX9_addNodesOnWayTo 17 = .ok (.getfield 28, 3) := by decide +kernel
theorem dX9_addNodesOnWayTo_20 : decode cX9_addNodesOnWayTo 20 = .ok (.iload_n 3, 1) := by decide +kernel
theorem dX9_addNodesOnWayTo_21 : decode cX9_addNodesOnWayTo 21 = .ok (.invokevirtual 276, 3) := by decide +kernel
theorem dX9_addNodesOnWayTo_24 : decode cX9_addNodesOnWayTo 24 = .ok (.ifCond .ne 16, 3) := by decide +kernel
theorem dX9_addNodesOnWayTo_27 : decode cX9_addNodesOnWayTo 27 = .ok (.aload_n 0, 1) := by decide +kernel
theorem dX9_addNodesOnWayTo_28 : decode cX9_addNodesOnWayTo 28 = .ok (.getfield 28, 3) := by decide +kernel
theorem dX9_addNodesOnWayTo_31 : decode cX9_addNodesOnWayTo 31 = .ok (.iload_n 3, 1) := by decide +kernel
theorem dX9_addNodesOnWayTo_32 : decode cX9_addNodesOnWayTo 32 = .ok (.invokevirtual 264, 3) := by decide +kernel
theorem dX9_addNodesOnWayTo_35 : decode cX9_addNodesOnWayTo 35 = .ok (.aload_n 0, 1) := by decide +kernel
theorem dX9_addNodesOnWayTo_36 : decode cX9_addNodesOnWayTo 36 = .ok (.iload_n 3, 1) := by decide +kernel
theorem dX9_addNodesOnWayTo_37 : decode cX9_addNodesOnWayTo 37 = .ok (.invokevirtual 295, 3) := by decide +kernel
theorem dX9_addNodesOnWayTo_40 : decode cX9_addNodesOnWayTo 40 = .ok (.iinc 2 1, 3) := by decide +kernel
theorem dX9_addNodesOnWayTo_43 : decode cX9_addNodesOnWayTo 43 = .ok (.goto (-41), 3) := by decide +kernel
theorem dX9_addNodesOnWayTo_46 : decode cX9_addNodesOnWayTo 46 = .ok (.return_, 1) := by decide +kernel
theorem dX9_pinsOn_0 : decode cX9_pinsOn 0 = .ok (.iconst 0, 1) := by decide +kernel
theorem dX9_pinsOn_1 : decode cX9_pinsOn 1 = .ok (.istore_n 2, 1) := by decide +kernel
theorem dX9_pinsOn_2 : decode cX9_pinsOn 2 = .ok (.iconst 0, 1) := by decide +kernel
theorem dX9_pinsOn_3 : decode cX9_pinsOn 3 = .ok (.istore_n 3, 1) := by decide +kernel
theorem dX9_pinsOn_4 : decode cX9_pinsOn 4 = .ok (.iload_n 3, 1) := by decide +kernel
theorem dX9_pinsOn_5 : decode cX9_pinsOn 5 = .ok (.bipush 8, 2) := by decide +kernel
theorem dX9_pinsOn_7 : decode cX9_pinsOn 7 = .ok (.if_icmp .ge 38, 3) := by decide +kernel
theorem dX9_pinsOn_10 : decode cX9_pinsOn 10 = .ok (.aload_n 0, 1) := by decide +kernel
theorem dX9_pinsOn_11 : decode cX9_pinsOn 11 = .ok (.getfield 84, 3) := by decide +kernel
theorem dX9_pinsOn_14 : decode cX9_pinsOn 14 = .ok (.iload_n 3, 1) := by decide +kernel
theorem dX9_pinsOn_15 : decode cX9_pinsOn 15 = .ok (.iaload, 1) := by decide +kernel
theorem dX9_pinsOn_16 : decode cX9_pinsOn 16 = .ok (.istore 4, 2) := by decide +kernel
theorem dX9_pinsOn_18 : decode cX9_pinsOn 18 = .ok (.iload 4, 2) := by decide +kernel
theorem dX9_pinsOn_20 : decode cX9_pinsOn 20 = .ok (.iconst (-1), 1) := by decide +kernel
theorem dX9_pinsOn_21 : decode cX9_pinsOn 21 = .ok (.if_icmp .eq 18, 3) := by decide +kernel
theorem dX9_pinsOn_24 : decode cX9_pinsOn 24 = .ok (.iload_n 1, 1) := by decide +kernel
theorem dX9_pinsOn_25 : decode cX9_pinsOn 25 = .ok (.iload 4, 2) := by decide +kernel
theorem dX9_pinsOn_27 : decode cX9_pinsOn 27 = .ok (.invokestatic 447, 3) := by decide +kernel
theorem dX9_pinsOn_30 : decode cX9_pinsOn 30 = .ok (.ifCond .eq 9, 3) := by decide +kernel
theorem dX9_pinsOn_33 : decode cX9_pinsOn 33 = .ok (.iload_n 2, 1) := by decide +kernel
theorem dX9_pinsOn_34 : decode cX9_pinsOn 34 = .ok (.iconst 1, 1) := by decide +kernel
theorem dX9_pinsOn_35 : decode cX9_pinsOn 35 = .ok (.iload_n 3, 1) := by decide +kernel
theorem dX9_pinsOn_36 : decode cX9_pinsOn 36 = .ok (.ishl, 1) := by decide +kernel
theorem dX9_pinsOn_37 : decode cX9_pinsOn 37 = .ok (.ior, 1) := by decide +kernel
theorem dX9_pinsOn_38 : decode cX9_pinsOn 38 = .ok (.istore_n 2, 1) := by decide +kernel
theorem dX9_pinsOn_39 : decode cX9_pinsOn 39 = .ok (.iinc 3 1, 3) := by decide +kernel
theorem dX9_pinsOn_42 : decode cX9_pinsOn 42 = .ok (.goto (-38), 3) := by decide +kernel
theorem dX9_pinsOn_45 : decode cX9_pinsOn 45 = .ok (.iload_n 2, 1) := by decide +kernel
theorem dX9_pinsOn_46 : decode cX9_pinsOn 46 = .ok (.ireturn, 1) := by decide +kernel
theorem dX9_isBoundBelow_0 : decode cX9_isBoundBelow 0 = .ok (.iload_n 1, 1) := by decide +kernel
theorem dX9_isBoundBelow_1 : decode cX9_isBoundBelow 1 = .ok (.invokestatic 193, 3) := by decide +kernel
theorem dX9_isBoundBelow_4 : decode cX9_isBoundBelow 4 = .ok (.istore_n 2, 1) := by decide +kernel
theorem dX9_isBoundBelow_5 : decode cX9_isBoundBelow 5 = .ok (.iload_n 2, 1) := by decide +kernel
theorem dX9_isBoundBelow_6 : decode cX9_isBoundBelow 6 = .ok (.istore_n 3, 1) := by decide +kernel
theorem dX9_isBoundBelow_7 : decode cX9_isBoundBelow 7 = .ok (.iload_n 3, 1) := by decide +kernel
theorem dX9_isBoundBelow_8 : decode cX9_isBoundBelow 8 = .ok (.iload_n 2, 1) := by decide +kernel
theorem dX9_isBoundBelow_9 : decode cX9_isBoundBelow 9 = .ok (.iload_n 1, 1) := by decide +kernel
theorem dX9_isBoundBelow_10 : decode cX9_isBoundBelow 10 = .ok (.invokestatic 196, 3) := by decide +kernel
theorem dX9_isBoundBelow_13 : decode cX9_isBoundBelow 13 = .ok (.iadd, 1) := by decide +kernel
theorem dX9_isBoundBelow_14 : decode cX9_isBoundBelow 14 = .ok (.if_icmp .ge 42, 3) := by decide +kernel
theorem dX9_isBoundBelow_17 : decode cX9_isBoundBelow 17 = .ok (.aload_n 0, 1) := by decide +kernel
theorem dX9_isBoundBelow_18 : decode cX9_isBoundBelow 18 = .ok (.getfield 28, 3) := by decide +kernel
theorem dX9_isBoundBelow_21 : decode cX9_isBoundBelow 21 = .ok (.iload_n 3, 1) := by decide +kernel
theorem dX9_isBoundBelow_22 : decode cX9_isBoundBelow 22 = .ok (.invokevirtual 102, 3) := by decide +kernel
theorem dX9_isBoundBelow_25 : decode cX9_isBoundBelow 25 = .ok (.iconst (-1), 1) := by decide +kernel
theorem dX9_isBoundBelow_26 : decode cX9_isBoundBelow 26 = .ok (.if_icmp .eq 24, 3) := by decide +kernel
theorem dX9_isBoundBelow_29 : decode cX9_isBoundBelow 29 = .ok (.aload_n 0, 1) := by decide +kernel
theorem dX9_isBoundBelow_30 : decode cX9_isBoundBelow 30 = .ok (.getfield 28, 3) := by decide +kernel
theorem dX9_isBoundBelow_33 : decode cX9_isBoundBelow 33 = .ok (.iload_n 3, 1) := by decide +kernel
theorem dX9_isBoundBelow_34 : decode cX9_isBoundBelow 34 = .ok (.invokevirtual 207, 3) := by decide +kernel
theorem dX9_isBoundBelow_37 : decode cX9_isBoundBelow 37 = .ok (.ifCond .ne 11, 3) := by decide +kernel
theorem dX9_isBoundBelow_40 : decode cX9_isBoundBelow 40 = .ok (.aload_n 0, 1) := by decide +kernel
theorem dX9_isBoundBelow_41 : decode cX9_isBoundBelow 41 = .ok (.iload_n 3, 1) := by decide +kernel
theorem dX9_isBoundBelow_42 : decode cX9_isBoundBelow 42 = .ok (.invokevirtual 202, 3) := by decide +kernel
theorem dX9_isBoundBelow_45 : decode cX9_isBoundBelow 45 = .ok (.ifCond .eq 5, 3) := by decide +kernel
theorem dX9_isBoundBelow_48 : decode cX9_isBoundBelow 48 = .ok (.iconst 1, 1) := by decide +kernel
theorem dX9_isBoundBelow_49 : decode cX9_isBoundBelow 49 = .ok (.ireturn, 1) := by decide +kernel
theorem dX9_isBoundBelow_50 : decode cX9_isBoundBelow 50 = .ok (.iinc 3 1, 3) := by decide +kernel
theorem dX9_isBoundBelow_53 : decode cX9_isBoundBelow 53 = .ok (.goto (-46), 3) := by decide +kernel
theorem dX9_isBoundBelow_56 : decode cX9_isBoundBelow 56 = .ok (.iconst 0, 1) := by decide +kernel
theorem dX9_isBoundBelow_57 : decode cX9_isBoundBelow 57 = .ok (.ireturn, 1) := by decide +kernel
theorem dX9_doesACustodianOpen_0 : decode cX9_doesACustodianOpen 0 = .ok (.iconst 0, 1) := by decide +kernel
theorem dX9_doesACustodianOpen_1 : decode cX9_doesACustodianOpen 1 = .ok (.istore_n 1, 1) := by decide +kernel
theorem dX9_doesACustodianOpen_2 : decode cX9_doesACustodianOpen 2 = .ok (.iload_n 1, 1) := by decide +kernel
theorem dX9_doesACustodianOpen_3 : decode cX9_doesACustodianOpen 3 = .ok (.iconst 4, 1) := by decide +kernel
theorem dX9_doesACustodianOpen_4 : decode cX9_doesACustodianOpen 4 = .ok (.if_icmp .ge 27, 3) := by decide +kernel
theorem dX9_doesACustodianOpen_7 : decode cX9_doesACustodianOpen 7 = .ok (.aload_n 0, 1) := by decide +kernel
theorem dX9_doesACustodianOpen_8 : decode cX9_doesACustodianOpen 8 = .ok (.getfield 44, 3) := by decide +kernel
theorem dX9_doesACustodianOpen_11 : decode cX9_doesACustodianOpen 11 = .ok (.aload_n 0, 1) := by decide +kernel
theorem dX9_doesACustodianOpen_12 : decode cX9_doesACustodianOpen 12 = .ok (.getfield 88, 3) := by decide +kernel
theorem dX9_doesACustodianOpen_15 : decode cX9_doesACustodianOpen 15 = .ok (.iload_n 1, 1) := by decide +kernel
theorem dX9_doesACustodianOpen_16 : decode cX9_doesACustodianOpen 16 = .ok (.iaload, 1) := by decide +kernel
theorem dX9_doesACustodianOpen_17 : decode cX9_doesACustodianOpen 17 = .ok (.invokevirtual 179, 3) := by decide +kernel
theorem dX9_doesACustodianOpen_20 : decode cX9_doesACustodianOpen 20 = .ok (.ifCond .le 5, 3) := by decide +kernel
theorem dX9_doesACustodianOpen_23 : decode cX9_doesACustodianOpen 23 = .ok (.iconst 1, 1) := by decide +kernel
theorem dX9_doesACustodianOpen_24 : decode cX9_doesACustodianOpen 24 = .ok (.ireturn, 1) := by decide +kernel
theorem dX9_doesACustodianOpen_25 : decode cX9_doesACustodianOpen 25 = .ok (.iinc 1 1, 3) := by decide +kernel
theorem dX9_doesACustodianOpen_28 : decode cX9_doesACustodianOpen 28 = .ok (.goto (-26), 3) := by decide +kernel
theorem dX9_doesACustodianOpen_31 : decode cX9_doesACustodianOpen 31 = .ok (.iconst 0, 1) := by decide +kernel
theorem dX9_doesACustodianOpen_32 : decode cX9_doesACustodianOpen 32 = .ok (.ireturn, 1) := by decide +kernel
theorem dX9_refreshCustodians_0 : decode cX9_refreshCustodians 0 = .ok (.iconst 0, 1) := by decide +kernel
theorem dX9_refreshCustodians_1 : decode cX9_refreshCustodians 1 = .ok (.istore_n 1, 1) := by decide +kernel
theorem dX9_refreshCustodians_2 : decode cX9_refreshCustodians 2 = .ok (.iload_n 1, 1) := by decide +kernel
theorem dX9_refreshCustodians_3 : decode cX9_refreshCustodians 3 = .ok (.iconst 4, 1) := by decide +kernel
theorem dX9_refreshCustodians_4 : decode cX9_refreshCustodians 4 = .ok (.if_icmp .ge 78, 3) := by decide +kernel
theorem dX9_refreshCustodians_7 : decode cX9_refreshCustodians 7 = .ok (.aload_n 0, 1) := by decide +kernel
theorem dX9_refreshCustodians_8 : decode cX9_refreshCustodians 8 = .ok (.getfield 44, 3) := by decide +kernel
theorem dX9_refreshCustodians_11 : decode cX9_refreshCustodians 11 = .ok (.aload_n 0, 1) := by decide +kernel
theorem dX9_refreshCustodians_12 : decode cX9_refreshCustodians 12 = .ok (.getfield 88, 3) := by decide +kernel
theorem dX9_refreshCustodians_15 : decode cX9_refreshCustodians 15 = .ok (.iload_n 1, 1) := by decide +kernel
theorem dX9_refreshCustodians_16 : decode cX9_refreshCustodians 16 = .ok (.iaload, 1) := by decide +kernel
theorem dX9_refreshCustodians_17 : decode cX9_refreshCustodians 17 = .ok (.invokevirtual 179, 3) := by decide +kernel
theorem dX9_refreshCustodians_20 : decode cX9_refreshCustodians 20 = .ok (.ifCond .le 56, 3) := by decide +kernel
theorem dX9_refreshCustodians_23 : decode cX9_refreshCustodians 23 = .ok (.aload_n 0, 1) := by decide +kernel
theorem dX9_refreshCustodians_24 : decode cX9_refreshCustodians 24 = .ok (.getfield 91, 3) := by decide +kernel
theorem dX9_refreshCustodians_27 : decode cX9_refreshCustodians 27 = .ok (.iload_n 1, 1) := by decide +kernel
theorem dX9_refreshCustodians_28 : decode cX9_refreshCustodians 28 = .ok (.iaload, 1) := by decide +kernel
theorem dX9_refreshCustodians_29 : decode cX9_refreshCustodians 29 = .ok (.istore_n 2, 1) := by decide +kernel
theorem dX9_refreshCustodians_30 : decode cX9_refreshCustodians 30 = .ok (.aload_n 0, 1) := by decide +kernel
theorem dX9_refreshCustodians_31 : decode cX9_refreshCustodians 31 = .ok (.getfield 62, 3) := by decide +kernel
theorem dX9_refreshCustodians_34 : decode cX9_refreshCustodians 34 = .ok (.iload_n 2, 1) := by decide +kernel
theorem dX9_refreshCustodians_35 : decode cX9_refreshCustodians 35 = .ok (.invokevirtual 261, 3) := by decide +kernel
theorem dX9_refreshCustodians_38 : decode cX9_refreshCustodians 38 = .ok (.istore_n 3, 1) := by decide +kernel
theorem dX9_refreshCustodians_39 : decode cX9_refreshCustodians 39 = .ok (.aload_n 0, 1) := by decide +kernel
theorem dX9_refreshCustodians_40 : decode cX9_refreshCustodians 40 = .ok (.getfield 88, 3) := by decide +kernel
theorem dX9_refreshCustodians_43 : decode cX9_refreshCustodians 43 = .ok (.iload_n 1, 1) := by decide +kernel
theorem dX9_refreshCustodians_44 : decode cX9_refreshCustodians 44 = .ok (.iload_n 3, 1) := by decide +kernel
theorem dX9_refreshCustodians_45 : decode cX9_refreshCustodians 45 = .ok (.ifCond .eq 14, 3) := by decide +kernel
theorem dX9_refreshCustodians_48 : decode cX9_refreshCustodians 48 = .ok (.aload_n 0, 1) := by decide +kernel
theorem dX9_refreshCustodians_49 : decode cX9_refreshCustodians 49 = .ok (.getfield 28, 3) := by decide +kernel
theorem dX9_refreshCustodians_52 : decode cX9_refreshCustodians 52 = .ok (.iload_n 2, 1) := by decide +kernel
theorem dX9_refreshCustodians_53 : decode cX9_refreshCustodians 53 = .ok (.invokevirtual 136, 3) := by decide +kernel
theorem dX9_refreshCustodians_56 : decode cX9_refreshCustodians 56 = .ok (.goto 4, 3) := by decide +kernel
theorem dX9_refreshCustodians_59 : decode cX9_refreshCustodians 59 = .ok (.iconst (-1), 1) := by decide +kernel
theorem dX9_refreshCustodians_60 : decode cX9_refreshCustodians 60 = .ok (.iastore, 1) := by decide +kernel
theorem dX9_refreshCustodians_61 : decode cX9_refreshCustodians 61 = .ok (.aload_n 0, 1) := by decide +kernel
theorem dX9_refreshCustodians_62 : decode cX9_refreshCustodians 62 = .ok (.getfield 91, 3) := by decide +kernel
theorem dX9_refreshCustodians_65 : decode cX9_refreshCustodians 65 = .ok (.iload_n 1, 1) := by decide +kernel
theorem dX9_refreshCustodians_66 : decode cX9_refreshCustodians 66 = .ok (.iload_n 3, 1) := by decide +kernel
theorem dX9_refreshCustodians_67 : decode cX9_refreshCustodians 67 = .ok (.ifCond .eq 7, 3) := by decide +kernel
theorem dX9_refreshCustodians_70 : decode cX9_refreshCustodians 70 = .ok (.iload_n 2, 1) := by decide +kernel
theorem dX9_refreshCustodians_71 : decode cX9_refreshCustodians 71 = .ok (.goto 4, 3) := by decide +kernel
theorem dX9_refreshCustodians_74 : decode cX9_refreshCustodians 74 = .ok (.iconst (-1), 1) := by decide +kernel
theorem dX9_refreshCustodians_75 : decode cX9_refreshCustodians 75 = .ok (.iastore, 1) := by decide +kernel
theorem dX9_refreshCustodians_76 : decode cX9_refreshCustodians 76 = .ok (.iinc 1 1, 3) := by decide +kernel
theorem dX9_refreshCustodians_79 : decode cX9_refreshCustodians 79 = .ok (.goto (-77), 3) := by decide +kernel
theorem dX9_refreshCustodians_82 : decode cX9_refreshCustodians 82 = .ok (.return_, 1) := by decide +kernel
theorem dX9_endIntact_0 : decode cX9_endIntact 0 = .ok (.iload_n 1, 1) := by decide +kernel
theorem dX9_endIntact_1 : decode cX9_endIntact 1 = .ok (.aload_n 0, 1) := by decide +kernel
theorem dX9_endIntact_2 : decode cX9_endIntact 2 = .ok (.getfield 35, 3) := by decide +kernel
theorem dX9_endIntact_5 : decode cX9_endIntact 5 = .ok (.invokevirtual 185, 3) := by decide +kernel
theorem dX9_endIntact_8 : decode cX9_endIntact 8 = .ok (.invokestatic 98, 3) := by decide +kernel
theorem dX9_endIntact_11 : decode cX9_endIntact 11 = .ok (.aload_n 0, 1) := by decide +kernel
theorem dX9_endIntact_12 : decode cX9_endIntact 12 = .ok (.getfield 35, 3) := by decide +kernel
theorem dX9_endIntact_15 : decode cX9_endIntact 15 = .ok (.iload_n 1, 1) := by decide +kernel
theorem dX9_endIntact_16 : decode cX9_endIntact 16 = .ok (.invokevirtual 385, 3) := by decide +kernel
theorem dX9_endIntact_19 : decode cX9_endIntact 19 = .ok (.ifCond .ne 14, 3) := by decide +kernel
theorem dX9_endIntact_22 : decode cX9_endIntact 22 = .ok (.new 110, 3) := by decide +kernel
theorem dX9_endIntact_25 : decode cX9_endIntact 25 = .ok (.dup, 1) := by decide +kernel
theorem dX9_endIntact_26 : decode cX9_endIntact 26 = .ok (.ldc_w 450, 3) := by decide +kernel
theorem dX9_endIntact_29 : decode cX9_endIntact 29 = .ok (.invokespecial 114, 3) := by decide +kernel
theorem dX9_endIntact_32 : decode cX9_endIntact 32 = .ok (.athrow, 1) := by decide +kernel
theorem dX9_endIntact_33 : decode cX9_endIntact 33 = .ok (.aload_n 0, 1) := by decide +kernel
theorem dX9_endIntact_34 : decode cX9_endIntact 34 = .ok (.getfield 53, 3) := by decide +kernel
theorem dX9_endIntact_37 : decode cX9_endIntact 37 = .ok (.iconst (-1), 1) := by decide +kernel
theorem dX9_endIntact_38 : decode cX9_endIntact 38 = .ok (.invokevirtual 143, 3) := by decide +kernel
theorem dX9_endIntact_41 : decode cX9_endIntact 41 = .ok (.aload_n 0, 1) := by decide +kernel
theorem dX9_endIntact_42 : decode cX9_endIntact 42 = .ok (.getfield 53, 3) := by decide +kernel
theorem dX9_endIntact_45 : decode cX9_endIntact 45 = .ok (.iconst (-1), 1) := by decide +kernel
theorem dX9_endIntact_46 : decode cX9_endIntact 46 = .ok (.invokevirtual 173, 3) := by decide +kernel
theorem dX9_endIntact_49 : decode cX9_endIntact 49 = .ok (.aload_n 0, 1) := by decide +kernel
theorem dX9_endIntact_50 : decode cX9_endIntact 50 = .ok (.getfield 53, 3) := by decide +kernel
theorem dX9_endIntact_53 : decode cX9_endIntact 53 = .ok (.iconst 1, 1) := by decide +kernel
theorem dX9_endIntact_54 : decode cX9_endIntact 54 = .ok (.iload_n 1, 1) := by decide +kernel
theorem dX9_endIntact_55 : decode cX9_endIntact 55 = .ok (.ishl, 1) := by decide +kernel
theorem dX9_endIntact_56 : decode cX9_endIntact 56 = .ok (.iconst (-1), 1) := by decide +kernel
theorem dX9_endIntact_57 : decode cX9_endIntact 57 = .ok (.ixor, 1) := by decide +kernel
theorem dX9_endIntact_58 : decode cX9_endIntact 58 = .ok (.invokevirtual 173, 3) := by decide +kernel
theorem dX9_endIntact_61 : decode cX9_endIntact 61 = .ok (.isub, 1) := by decide +kernel
theorem dX9_endIntact_62 : decode cX9_endIntact 62 = .ok (.istore_n 3, 1) := by decide +kernel
theorem dX9_endIntact_63 : decode cX9_endIntact 63 = .ok (.aload_n 0, 1) := by decide +kernel
theorem dX9_endIntact_64 : decode cX9_endIntact 64 = .ok (.getfield 35, 3) := by decide +kernel
theorem dX9_endIntact_67 : decode cX9_endIntact 67 = .ok (.iload_n 1, 1) := by decide +kernel
theorem dX9_endIntact_68 : decode cX9_endIntact 68 = .ok (.iload_n 2, 1) := by decide +kernel
theorem dX9_endIntact_69 : decode cX9_endIntact 69 = .ok (.invokevirtual 373, 3) := by decide +kernel
theorem dX9_endIntact_72 : decode cX9_endIntact 72 = .ok (.iload_n 3, 1) := by decide +kernel
theorem dX9_endIntact_73 : decode cX9_endIntact 73 = .ok (.ireturn, 1) := by decide +kernel
theorem dX9_wrappedKey_0 : decode cX9_wrappedKey 0 = .ok (.aload_n 0, 1) := by decide +kernel
theorem dX9_wrappedKey_1 : decode cX9_wrappedKey 1 = .ok (.getfield 35, 3) := by decide +kernel
theorem dX9_wrappedKey_4 : decode cX9_wrappedKey 4 = .ok (.iload_n 1, 1) := by decide +kernel
theorem dX9_wrappedKey_5 : decode cX9_wrappedKey 5 = .ok (.invokevirtual 344, 3) := by decide +kernel
theorem dX9_wrappedKey_8 : decode cX9_wrappedKey 8 = .ok (.istore_n 2, 1) := by decide +kernel
theorem dX9_wrappedKey_9 : decode cX9_wrappedKey 9 = .ok (.aload_n 0, 1) := by decide +kernel
theorem dX9_wrappedKey_10 : decode cX9_wrappedKey 10 = .ok (.getfield 10, 3) := by decide +kernel
theorem dX9_wrappedKey_13 : decode cX9_wrappedKey 13 = .ok (.iload_n 2, 1) := by decide +kernel
theorem dX9_wrappedKey_14 : decode cX9_wrappedKey 14 = .ok (.invokevirtual 287, 3) := by decide +kernel
theorem dX9_wrappedKey_17 : decode cX9_wrappedKey 17 = .ok (.aload_n 0, 1) := by decide +kernel
theorem dX9_wrappedKey_18 : decode cX9_wrappedKey 18 = .ok (.getfield 10, 3) := by decide +kernel
theorem dX9_wrappedKey_21 : decode cX9_wrappedKey 21 = .ok (.aload_n 0, 1) := by decide +kernel
theorem dX9_wrappedKey_22 : decode cX9_wrappedKey 22 = .ok (.getfield 35, 3) := by decide +kernel
theorem dX9_wrappedKey_25 : decode cX9_wrappedKey 25 = .ok (.iload_n 1, 1) := by decide +kernel
theorem dX9_wrappedKey_26 : decode cX9_wrappedKey 26 = .ok (.invokevirtual 347, 3) := by decide +kernel
theorem dX9_wrappedKey_29 : decode cX9_wrappedKey 29 = .ok (.invokevirtual 287, 3) := by decide +kernel
theorem dX9_wrappedKey_32 : decode cX9_wrappedKey 32 = .ok (.iload_n 2, 1) := by decide +kernel
theorem dX9_wrappedKey_33 : decode cX9_wrappedKey 33 = .ok (.ixor, 1) := by decide +kernel
theorem dX9_wrappedKey_34 : decode cX9_wrappedKey 34 = .ok (.invokestatic 452, 3) := by decide +kernel
theorem dX9_wrappedKey_37 : decode cX9_wrappedKey 37 = .ok (.ixor, 1) := by decide +kernel
theorem dX9_wrappedKey_38 : decode cX9_wrappedKey 38 = .ok (.ireturn, 1) := by decide +kernel
theorem dX9_encryptedRecord_0 : decode cX9_encryptedRecord 0 = .ok (.aload_n 0, 1) := by decide +kernel
theorem dX9_encryptedRecord_1 : decode cX9_encryptedRecord 1 = .ok (.getfield 10, 3) := by decide +kernel
theorem dX9_encryptedRecord_4 : decode cX9_encryptedRecord 4 = .ok (.aload_n 0, 1) := by decide +kernel
theorem dX9_encryptedRecord_5 : decode cX9_encryptedRecord 5 = .ok (.getfield 35, 3) := by decide +kernel
theorem dX9_encryptedRecord_8 : decode cX9_encryptedRecord 8 = .ok (.iload_n 1, 1) := by decide +kernel
theorem dX9_encryptedRecord_9 : decode cX9_encryptedRecord 9 = .ok (.invokevirtual 347, 3) := by decide +kernel
theorem dX9_encryptedRecord_12 : decode cX9_encryptedRecord 12 = .ok (.invokevirtual 287, 3) := by decide +kernel
theorem dX9_encryptedRecord_15 : decode cX9_encryptedRecord 15 = .ok (.istore_n 2, 1) := by decide +kernel
theorem dX9_encryptedRecord_16 : decode cX9_encryptedRecord 16 = .ok (.iload_n 2, 1) := by decide +kernel
theorem dX9_encryptedRecord_17 : decode cX9_encryptedRecord 17 = .ok (.iconst 1, 1) := by decide +kernel
theorem dX9_encryptedRecord_18 : decode cX9_encryptedRecord 18 = .ok (.iadd, 1) := by decide +kernel
theorem dX9_encryptedRecord_19 : decode cX9_encryptedRecord 19 = .ok (.invokestatic 452, 3) := by decide +kernel
theorem dX9_encryptedRecord_22 : decode cX9_encryptedRecord 22 = .ok (.i2l, 1) := by decide +kernel
theorem dX9_encryptedRecord_23 : decode cX9_encryptedRecord 23 = .ok (.bipush 32, 2) := by decide +kernel
theorem dX9_encryptedRecord_25 : decode cX9_encryptedRecord 25 = .ok (.lshl, 1) := by decide +kernel
theorem dX9_encryptedRecord_26 : decode cX9_encryptedRecord 26 = .ok (.lstore_n 3, 1) := by decide +kernel
theorem dX9_encryptedRecord_27 : decode cX9_encryptedRecord 27 = .ok (.iload_n 2, 1) := by decide +kernel
theorem dX9_encryptedRecord_28 : decode cX9_encryptedRecord 28 = .ok (.iconst 2, 1) := by decide +kernel
theorem dX9_encryptedRecord_29 : decode cX9_encryptedRecord 29 = .ok (.iadd, 1) := by decide +kernel
theorem dX9_encryptedRecord_30 : decode cX9_encryptedRecord 30 = .ok (.invokestatic 452, 3) := by decide +kernel
theorem dX9_encryptedRecord_33 : decode cX9_encryptedRecord 33 = .ok (.i2l, 1) := by decide +kernel
theorem dX9_encryptedRecord_34 : decode cX9_encryptedRecord 34 = .ok (.ldc2_w 455, 3) := by decide +kernel
theorem dX9_encryptedRecord_37 : decode cX9_encryptedRecord 37 = .ok (.land, 1) := by decide +kernel
theorem dX9_encryptedRecord_38 : decode cX9_encryptedRecord 38 = .ok (.lstore 5, 2) := by decide +kernel
theorem dX9_encryptedRecord_40 : decode cX9_encryptedRecord 40 = .ok (.aload_n 0, 1) := by decide +kernel
theorem dX9_encryptedRecord_41 : decode cX9_encryptedRecord 41 = .ok (.getfield 19, 3) := by decide +kernel
theorem dX9_encryptedRecord_44 : decode cX9_encryptedRecord 44 = .ok (.aload_n 0, 1) := by decide +kernel
theorem dX9_encryptedRecord_45 : decode cX9_encryptedRecord 45 = .ok (.getfield 35, 3) := by decide +kernel
theorem dX9_encryptedRecord_48 : decode cX9_encryptedRecord 48 = .ok (.iload_n 1, 1) := by decide +kernel
theorem dX9_encryptedRecord_49 : decode cX9_encryptedRecord 49 = .ok (.invokevirtual 344, 3) := by decide +kernel
theorem dX9_encryptedRecord_52 : decode cX9_encryptedRecord 52 = .ok (.invokevirtual 155, 3) := by decide +kernel
theorem dX9_encryptedRecord_55 : decode cX9_encryptedRecord 55 = .ok (.lload_n 3, 1) := by decide +kernel
theorem dX9_encryptedRecord_56 : decode cX9_encryptedRecord 56 = .ok (.lload 5, 2) := by decide +kernel
theorem dX9_encryptedRecord_58 : decode cX9_encryptedRecord 58 = .ok (.lor, 1) := by decide +kernel
theorem dX9_encryptedRecord_59 : decode cX9_encryptedRecord 59 = .ok (.lxor, 1) := by decide +kernel
theorem dX9_encryptedRecord_60 : decode cX9_encryptedRecord 60 = .ok (.lreturn, 1) := by decide +kernel
theorem dX9_mix_0 : decode cX9_mix 0 = .ok (.iload_n 0, 1) := by decide +kernel
theorem dX9_mix_1 : decode cX9_mix 1 = .ok (.istore_n 1, 1) := by decide +kernel
theorem dX9_mix_2 : decode cX9_mix 2 = .ok (.iload_n 1, 1) := by decide +kernel
theorem dX9_mix_3 : decode cX9_mix 3 = .ok (.iload_n 1, 1) := by decide +kernel
theorem dX9_mix_4 : decode cX9_mix 4 = .ok (.bipush 16, 2) := by decide +kernel
theorem dX9_mix_6 : decode cX9_mix 6 = .ok (.iushr, 1) := by decide +kernel
theorem dX9_mix_7 : decode cX9_mix 7 = .ok (.ixor, 1) := by decide +kernel
theorem dX9_mix_8 : decode cX9_mix 8 = .ok (.istore_n 1, 1) := by decide +kernel
theorem dX9_mix_9 : decode cX9_mix 9 = .ok (.iload_n 1, 1) := by decide +kernel
theorem dX9_mix_10 : decode cX9_mix 10 = .ok (.ldc_w 457, 3) := by decide +kernel
theorem dX9_mix_13 : decode cX9_mix 13 = .ok (.imul, 1) := by decide +kernel
theorem dX9_mix_14 : decode cX9_mix 14 = .ok (.istore_n 1, 1) := by decide +kernel
theorem dX9_mix_15 : decode cX9_mix 15 = .ok (.iload_n 1, 1) := by decide +kernel
theorem dX9_mix_16 : decode cX9_mix 16 = .ok (.iload_n 1, 1) := by decide +kernel
theorem dX9_mix_17 : decode cX9_mix 17 = .ok (.bipush 13, 2) := by decide +kernel
theorem dX9_mix_19 : decode cX9_mix 19 = .ok (.iushr, 1) := by decide +kernel
theorem dX9_mix_20 : decode cX9_mix 20 = .ok (.ixor, 1) := by decide +kernel
theorem dX9_mix_21 : decode cX9_mix 21 = .ok (.istore_n 1, 1) := by decide +kernel
theorem dX9_mix_22 : decode cX9_mix 22 = .ok (.iload_n 1, 1) := by decide +kernel
theorem dX9_mix_23 : decode cX9_mix 23 = .ok (.ldc_w 458, 3) := by decide +kernel
theorem dX9_mix_26 : decode cX9_mix 26 = .ok (.imul, 1) := by decide +kernel
theorem dX9_mix_27 : decode cX9_mix 27 = .ok (.istore_n 1, 1) := by decide +kernel
theorem dX9_mix_28 : decode cX9_mix 28 = .ok (.iload_n 1, 1) := by decide +kernel
theorem dX9_mix_29 : decode cX9_mix 29 = .ok (.iload_n 1, 1) := by decide +kernel
theorem dX9_mix_30 : decode cX9_mix 30 = .ok (.bipush 16, 2) := by decide +kernel
theorem dX9_mix_32 : decode cX9_mix 32 = .ok (.iushr, 1) := by decide +kernel
theorem dX9_mix_33 : decode cX9_mix 33 = .ok (.ixor, 1) := by decide +kernel
theorem dX9_mix_34 : decode cX9_mix 34 = .ok (.ireturn, 1) := by decide +kernel
theorem dX9_isPlace_0 : decode cX9_isPlace 0 = .ok (.iload_n 0, 1) := by decide +kernel
theorem dX9_isPlace_1 : decode cX9_isPlace 1 = .ok (.ifCond .lt 13, 3) := by decide +kernel
theorem dX9_isPlace_4 : decode cX9_isPlace 4 = .ok (.iload_n 0, 1) := by decide +kernel
theorem dX9_isPlace_5 : decode cX9_isPlace 5 = .ok (.bipush 85, 2) := by decide +kernel
theorem dX9_isPlace_7 : decode cX9_isPlace 7 = .ok (.if_icmp .ge 7, 3) := by decide +kernel
theorem dX9_isPlace_10 : decode cX9_isPlace 10 = .ok (.iconst 1, 1) := by decide +kernel
theorem dX9_isPlace_11 : decode cX9_isPlace 11 = .ok (.goto 4, 3) := by decide +kernel
theorem dX9_isPlace_14 : decode cX9_isPlace 14 = .ok (.iconst 0, 1) := by decide +kernel
theorem dX9_isPlace_15 : decode cX9_isPlace 15 = .ok (.ireturn, 1) := by decide +kernel
theorem dX9_isLeaf_0 : decode cX9_isLeaf 0 = .ok (.iload_n 0, 1) := by decide +kernel
theorem dX9_isLeaf_1 : decode cX9_isLeaf 1 = .ok (.ifCond .lt 13, 3) := by decide +kernel
theorem dX9_isLeaf_4 : decode cX9_isLeaf 4 = .ok (.iload_n 0, 1) := by decide +kernel
theorem dX9_isLeaf_5 : decode cX9_isLeaf 5 = .ok (.bipush 64, 2) := by decide +kernel
theorem dX9_isLeaf_7 : decode cX9_isLeaf 7 = .ok (.if_icmp .ge 7, 3) := by decide +kernel
theorem dX9_isLeaf_10 : decode cX9_isLeaf 10 = .ok (.iconst 1, 1) := by decide +kernel
theorem dX9_isLeaf_11 : decode cX9_isLeaf 11 = .ok (.goto 4, 3) := by decide +kernel
theorem dX9_isLeaf_14 : decode cX9_isLeaf 14 = .ok (.iconst 0, 1) := by decide +kernel
theorem dX9_isLeaf_15 : decode cX9_isLeaf 15 = .ok (.ireturn, 1) := by decide +kernel
theorem dX9_placeOfLeaf_0 : decode cX9_placeOfLeaf 0 = .ok (.bipush 21, 2) := by decide +kernel
theorem dX9_placeOfLeaf_2 : decode cX9_placeOfLeaf 2 = .ok (.iload_n 0, 1) := by decide +kernel
theorem dX9_placeOfLeaf_3 : decode cX9_placeOfLeaf 3 = .ok (.iadd, 1) := by decide +kernel
theorem dX9_placeOfLeaf_4 : decode cX9_placeOfLeaf 4 = .ok (.ireturn, 1) := by decide +kernel
theorem dX9_levelOf_0 : decode cX9_levelOf 0 = .ok (.iconst 0, 1) := by decide +kernel
theorem dX9_levelOf_1 : decode cX9_levelOf 1 = .ok (.istore_n 1, 1) := by decide +kernel
theorem dX9_levelOf_2 : decode cX9_levelOf 2 = .ok (.iload_n 1, 1) := by decide +kernel
theorem dX9_levelOf_3 : decode cX9_levelOf 3 = .ok (.iconst 3, 1) := by decide +kernel
theorem dX9_levelOf_4 : decode cX9_levelOf 4 = .ok (.if_icmp .ge 20, 3) := by decide +kernel
theorem dX9_levelOf_7 : decode cX9_levelOf 7 = .ok (.iload_n 0, 1) := by decide +kernel
theorem dX9_levelOf_8 : decode cX9_levelOf 8 = .ok (.getstatic 273, 3) := by decide +kernel
theorem dX9_levelOf_11 : decode cX9_levelOf 11 = .ok (.iload_n 1, 1) := by decide +kernel
theorem dX9_levelOf_12 : decode cX9_levelOf 12 = .ok (.iconst 1, 1) := by decide +kernel
theorem dX9_levelOf_13 : decode cX9_levelOf 13 = .ok (.iadd, 1) := by decide +kernel
theorem dX9_levelOf_14 : decode cX9_levelOf 14 = .ok (.iaload, 1) := by decide +kernel
theorem dX9_levelOf_15 : decode cX9_levelOf 15 = .ok (.if_icmp .lt 9, 3) := by decide +kernel
theorem dX9_levelOf_18 : decode cX9_levelOf 18 = .ok (.iinc 1 1, 3) := by decide +kernel
theorem dX9_levelOf_21 : decode cX9_levelOf 21 = .ok (.goto (-19), 3) := by decide +kernel
theorem dX9_levelOf_24 : decode cX9_levelOf 24 = .ok (.iload_n 1, 1) := by decide +kernel
theorem dX9_levelOf_25 : decode cX9_levelOf 25 = .ok (.ireturn, 1) := by decide +kernel
theorem dX9_parentOf_0 : decode cX9_parentOf 0 = .ok (.iload_n 0, 1) := by decide +kernel
theorem dX9_parentOf_1 : decode cX9_parentOf 1 = .ok (.ifCond .le 11, 3) := by decide +kernel
theorem dX9_parentOf_4 : decode cX9_parentOf 4 = .ok (.iload_n 0, 1) := by decide +kernel
theorem dX9_parentOf_5 : decode cX9_parentOf 5 = .ok (.iconst 1, 1) := by decide +kernel
theorem dX9_parentOf_6 : decode cX9_parentOf 6 = .ok (.isub, 1) := by decide +kernel
theorem dX9_parentOf_7 : decode cX9_parentOf 7 = .ok (.iconst 4, 1) := by decide +kernel
theorem dX9_parentOf_8 : decode cX9_parentOf 8 = .ok (.idiv, 1) := by decide +kernel
theorem dX9_parentOf_9 : decode cX9_parentOf 9 = .ok (.goto 4, 3) := by decide +kernel
theorem dX9_parentOf_12 : decode cX9_parentOf 12 = .ok (.iconst (-1), 1) := by decide +kernel
theorem dX9_parentOf_13 : decode cX9_parentOf 13 = .ok (.ireturn, 1) := by decide +kernel
theorem dX9_firstChildOf_0 : decode cX9_firstChildOf 0 = .ok (.iconst 4, 1) := by decide +kernel
theorem dX9_firstChildOf_1 : decode cX9_firstChildOf 1 = .ok (.iload_n 0, 1) := by decide +kernel
theorem dX9_firstChildOf_2 : decode cX9_firstChildOf 2 = .ok (.imul, 1) := by decide +kernel
theorem dX9_firstChildOf_3 : decode cX9_firstChildOf 3 = .ok (.iconst 1, 1) := by decide +kernel
theorem dX9_firstChildOf_4 : decode cX9_firstChildOf 4 = .ok (.iadd, 1) := by decide +kernel
theorem dX9_firstChildOf_5 : decode cX9_firstChildOf 5 = .ok (.ireturn, 1) := by decide +kernel
theorem dX9_ancestorOf_0 : decode cX9_ancestorOf 0 = .ok (.iload_n 0, 1) := by decide +kernel
theorem dX9_ancestorOf_1 : decode cX9_ancestorOf 1 = .ok (.istore_n 2, 1) := by decide +kernel
theorem dX9_ancestorOf_2 : decode cX9_ancestorOf 2 = .ok (.iload_n 0, 1) := by decide +kernel
theorem dX9_ancestorOf_3 : decode cX9_ancestorOf 3 = .ok (.invokestatic 300, 3) := by decide +kernel
theorem dX9_ancestorOf_6 : decode cX9_ancestorOf 6 = .ok (.istore_n 3, 1) := by decide +kernel
theorem dX9_ancestorOf_7 : decode cX9_ancestorOf 7 = .ok (.iload_n 3, 1) := by decide +kernel
theorem dX9_ancestorOf_8 : decode cX9_ancestorOf 8 = .ok (.iload_n 1, 1) := by decide +kernel
theorem dX9_ancestorOf_9 : decode cX9_ancestorOf 9 = .ok (.if_icmp .le 14, 3) := by decide +kernel
theorem dX9_ancestorOf_12 : decode cX9_ancestorOf 12 = .ok (.iload_n 2, 1) := by decide +kernel
theorem dX9_ancestorOf_13 : decode cX9_ancestorOf 13 = .ok (.invokestatic 310, 3) := by decide +kernel
theorem dX9_ancestorOf_16 : decode cX9_ancestorOf 16 = .ok (.istore_n 2, 1) := by decide +kernel
theorem dX9_ancestorOf_17 : decode cX9_ancestorOf 17 = .ok (.iinc 3 (-1), 3) := by decide +kernel
theorem dX9_ancestorOf_20 : decode cX9_ancestorOf 20 = .ok (.goto (-13), 3) := by decide +kernel
theorem dX9_ancestorOf_23 : decode cX9_ancestorOf 23 = .ok (.iload_n 2, 1) := by decide +kernel
theorem dX9_ancestorOf_24 : decode cX9_ancestorOf 24 = .ok (.ireturn, 1) := by decide +kernel
theorem dX9_leavesBelow_0 : decode cX9_leavesBelow 0 = .ok (.iconst 1, 1) := by decide +kernel
theorem dX9_leavesBelow_1 : decode cX9_leavesBelow 1 = .ok (.iconst 2, 1) := by decide +kernel
theorem dX9_leavesBelow_2 : decode cX9_leavesBelow 2 = .ok (.iconst 3, 1) := by decide +kernel
theorem dX9_leavesBelow_3 : decode cX9_leavesBelow 3 = .ok (.iload_n 0, 1) := by decide +kernel
theorem dX9_leavesBelow_4 : decode cX9_leavesBelow 4 = .ok (.invokestatic 300, 3) := by decide +kernel
theorem dX9_leavesBelow_7 : decode cX9_leavesBelow 7 = .ok (.isub, 1) := by decide +kernel
theorem dX9_leavesBelow_8 : decode cX9_leavesBelow 8 = .ok (.imul, 1) := by decide +kernel
theorem dX9_leavesBelow_9 : decode cX9_leavesBelow 9 = .ok (.ishl, 1) := by decide +kernel
theorem dX9_leavesBelow_10 : decode cX9_leavesBelow 10 = .ok (.ireturn, 1) := by decide +kernel
theorem dX9_firstLeafBelow_0 : decode cX9_firstLeafBelow 0 = .ok (.iload_n 0, 1) := by decide +kernel
theorem dX9_firstLeafBelow_1 : decode cX9_firstLeafBelow 1 = .ok (.getstatic 273, 3) := by decide +kernel
theorem dX9_firstLeafBelow_4 : decode cX9_firstLeafBelow 4 = .ok (.iload_n 0, 1) := by decide +kernel
theorem dX9_firstLeafBelow_5 : decode cX9_firstLeafBelow 5 = .ok (.invokestatic 300, 3) := by decide +kernel
theorem dX9_firstLeafBelow_8 : decode cX9_firstLeafBelow 8 = .ok (.iaload, 1) := by decide +kernel
theorem dX9_firstLeafBelow_9 : decode cX9_firstLeafBelow 9 = .ok (.isub, 1) := by decide +kernel
theorem dX9_firstLeafBelow_10 : decode cX9_firstLeafBelow 10 = .ok (.iload_n 0, 1) := by decide +kernel
theorem dX9_firstLeafBelow_11 : decode cX9_firstLeafBelow 11 = .ok (.invokestatic 196, 3) := by decide +kernel
theorem dX9_firstLeafBelow_14 : decode cX9_firstLeafBelow 14 = .ok (.imul, 1) := by decide +kernel
theorem dX9_firstLeafBelow_15 : decode cX9_firstLeafBelow 15 = .ok (.ireturn, 1) := by decide +kernel
theorem dX9_isLeafBelow_0 : decode cX9_isLeafBelow 0 = .ok (.iload_n 1, 1) := by decide +kernel
theorem dX9_isLeafBelow_1 : decode cX9_isLeafBelow 1 = .ok (.invokestatic 193, 3) := by decide +kernel
theorem dX9_isLeafBelow_4 : decode cX9_isLeafBelow 4 = .ok (.istore_n 2, 1) := by decide +kernel
theorem dX9_isLeafBelow_5 : decode cX9_isLeafBelow 5 = .ok (.iload_n 0, 1) := by decide +kernel
theorem dX9_isLeafBelow_6 : decode cX9_isLeafBelow 6 = .ok (.iload_n 2, 1) := by decide +kernel
theorem dX9_isLeafBelow_7 : decode cX9_isLeafBelow 7 = .ok (.if_icmp .lt 17, 3) := by decide +kernel
theorem dX9_isLeafBelow_10 : decode cX9_isLeafBelow 10 = .ok (.iload_n 0, 1) := by decide +kernel
theorem dX9_isLeafBelow_11 : decode cX9_isLeafBelow 11 = .ok (.iload_n 2, 1) := by decide +kernel
theorem dX9_isLeafBelow_12 : decode cX9_isLeafBelow 12 = .ok (.iload_n 1, 1) := by decide +kernel
theorem dX9_isLeafBelow_13 : decode cX9_isLeafBelow 13 = .ok (.invokestatic 196, 3) := by decide +kernel
theorem dX9_isLeafBelow_16 : decode cX9_isLeafBelow 16 = .ok (.iadd, 1) := by decide +kernel
theorem dX9_isLeafBelow_17 : decode cX9_isLeafBelow 17 = .ok (.if_icmp .ge 7, 3) := by decide +kernel
theorem dX9_isLeafBelow_20 : decode cX9_isLeafBelow 20 = .ok (.iconst 1, 1) := by decide +kernel
theorem dX9_isLeafBelow_21 : decode cX9_isLeafBelow 21 = .ok (.goto 4, 3) := by decide +kernel
theorem dX9_isLeafBelow_24 : decode cX9_isLeafBelow 24 = .ok (.iconst 0, 1) := by decide +kernel
theorem dX9_isLeafBelow_25 : decode cX9_isLeafBelow 25 = .ok (.ireturn, 1) := by decide +kernel
theorem dX10_init_0 : decode cX10_init 0 = .ok (.aload_n 0, 1) := by decide +kernel
theorem dX10_init_1 : decode cX10_init 1 = .ok (.invokespecial 1, 3) := by decide +kernel
theorem dX10_init_4 : decode cX10_init 4 = .ok (.aload_n 0, 1) := by decide +kernel
theorem dX10_init_5 : decode cX10_init 5 = .ok (.bipush 85, 2) := by decide +kernel
theorem dX10_init_7 : decode cX10_init 7 = .ok (.newarray .int, 2) := by decide +kernel
theorem dX10_init_9 : decode cX10_init 9 = .ok (.putfield 7, 3) := by decide +kernel
theorem dX10_init_12 : decode cX10_init 12 = .ok (.aload_n 0, 1) := by decide +kernel
theorem dX10_init_13 : decode cX10_init 13 = .ok (.bipush 85, 2) := by decide +kernel
theorem dX10_init_15 : decode cX10_init 15 = .ok (.newarray .int, 2) := by decide +kernel
theorem dX10_init_17 : decode cX10_init 17 = .ok (.putfield 13, 3) := by decide +kernel
theorem dX10_init_20 : decode cX10_init 20 = .ok (.aload_n 0, 1) := by decide +kernel
theorem dX10_init_21 : decode cX10_init 21 = .ok (.bipush 64, 2) := by decide +kernel
theorem dX10_init_23 : decode cX10_init 23 = .ok (.newarray .int, 2) := by decide +kernel
theorem dX10_init_25 : decode cX10_init 25 = .ok (.putfield 16, 3) := by decide +kernel
theorem dX10_init_28 : decode cX10_init 28 = .ok (.aload_n 0, 1) := by decide +kernel
theorem dX10_init_29 : decode cX10_init 29 = .ok (.bipush 8, 2) := by decide +kernel
theorem dX10_init_31 : decode cX10_init 31 = .ok (.newarray .int, 2) := by decide +kernel
theorem dX10_init_33 : decode cX10_init 33 = .ok (.putfield 19, 3) := by decide +kernel
theorem dX10_init_36 : decode cX10_init 36 = .ok (.aload_n 0, 1) := by decide +kernel
theorem dX10_init_37 : decode cX10_init 37 = .ok (.iconst 4, 1) := by decide +kernel
theorem dX10_init_38 : decode cX10_init 38 = .ok (.newarray .int, 2) := by decide +kernel
theorem dX10_init_40 : decode cX10_init 40 = .ok (.putfield 22, 3) := by decide +kernel
theorem dX10_init_43 : decode cX10_init 43 = .ok (.aload_n 0, 1) := by decide +kernel
theorem dX10_init_44 : decode cX10_init 44 = .ok (.iconst 4, 1) := by decide +kernel
theorem dX10_init_45 : decode cX10_init 45 = .ok (.newarray .int, 2) := by decide +kernel
theorem dX10_init_47 : decode cX10_init 47 = .ok (.putfield 25, 3) := by decide +kernel
theorem dX10_init_50 : decode cX10_init 50 = .ok (.aload_n 0, 1) := by decide +kernel
theorem dX10_init_51 : decode cX10_init 51 = .ok (.bipush 64, 2) := by decide +kernel
theorem dX10_init_53 : decode cX10_init 53 = .ok (.newarray .boolean, 2) := by decide +kernel
theorem dX10_init_55 : decode cX10_init 55 = .ok (.putfield 28, 3) := by decide +kernel
theorem dX10_init_58 : decode cX10_init 58 = .ok (.aload_n 0, 1) := by decide +kernel
theorem dX10_init_59 : decode cX10_init 59 = .ok (.bipush 85, 2) := by decide +kernel
theorem dX10_init_61 : decode cX10_init 61 = .ok (.newarray .boolean, 2) := by decide +kernel
theorem dX10_init_63 : decode cX10_init 63 = .ok (.putfield 32, 3) := by decide +kernel
theorem dX10_init_66 : decode cX10_init 66 = .ok (.aload_n 0, 1) := by decide +kernel
theorem dX10_init_67 : decode cX10_init 67 = .ok (.iconst 4, 1) := by decide +kernel
theorem dX10_init_68 : decode cX10_init 68 = .ok (.newarray .boolean, 2) := by decide +kernel
theorem dX10_init_70 : decode cX10_init 70 = .ok (.putfield 35, 3) := by decide +kernel
theorem dX10_init_73 : decode cX10_init 73 = .ok (.aload_n 0, 1) := by decide +kernel
theorem dX10_init_74 : decode cX10_init 74 = .ok (.bipush 8, 2) := by decide +kernel
theorem dX10_init_76 : decode cX10_init 76 = .ok (.newarray .int, 2) := by decide +kernel
theorem dX10_init_78 : decode cX10_init 78 = .ok (.putfield 38, 3) := by decide +kernel
theorem dX10_init_81 : decode cX10_init 81 = .ok (.aload_n 0, 1) := by decide +kernel
theorem dX10_init_82 : decode cX10_init 82 = .ok (.bipush 8, 2) := by decide +kernel
theorem dX10_init_84 : decode cX10_init 84 = .ok (.newarray .int, 2) := by decide +kernel
theorem dX10_init_86 : decode cX10_init 86 = .ok (.putfield 41, 3) := by decide +kernel
theorem dX10_init_89 : decode cX10_init 89 = .ok (.aload_n 0, 1) := by decide +kernel
theorem dX10_init_90 : decode cX10_init 90 = .ok (.sipush 1200, 3) := by decide +kernel
theorem dX10_init_93 : decode cX10_init 93 = .ok (.newarray .int, 2) := by decide +kernel
theorem dX10_init_95 : decode cX10_init 95 = .ok (.putfield 44, 3) := by decide +kernel
theorem dX10_init_98 : decode cX10_init 98 = .ok (.aload_n 0, 1) := by decide +kernel
theorem dX10_init_99 : decode cX10_init 99 = .ok (.sipush 1200, 3) := by decide +kernel
theorem dX10_init_102 : decode cX10_init 102 = .ok (.newarray .int, 2) := by decide +kernel
theorem dX10_init_104 : decode cX10_init 104 = .ok (.putfield 47, 3) := by decide +kernel
theorem dX10_init_107 : decode cX10_init 107 = .ok (.aload_n 0, 1) := by decide +kernel
theorem dX10_init_108 : decode cX10_init 108 = .ok (.sipush 1200, 3) := by decide +kernel
theorem dX10_init_111 : decode cX10_init 111 = .ok (.newarray .int, 2) := by decide +kernel
theorem dX10_init_113 : decode cX10_init 113 = .ok (.putfield 50, 3) := by decide +kernel
theorem dX10_init_116 : decode cX10_init 116 = .ok (.aload_n 0, 1) := by decide +kernel
theorem dX10_init_117 : decode cX10_init 117 = .ok (.sipush 1200, 3) := by decide +kernel
theorem dX10_init_120 : decode cX10_init 120 = .ok (.newarray .long, 2) := by decide +kernel
theorem dX10_init_122 : decode cX10_init 122 = .ok (.putfield 53, 3) := by decide +kernel
theorem dX10_init_125 : decode cX10_init 125 = .ok (.aload_n 0, 1) := by decide +kernel
theorem dX10_init_126 : decode cX10_init 126 = .ok (.sipush 200, 3) := by decide +kernel
theorem dX10_init_129 : decode cX10_init 129 = .ok (.newarray .long, 2) := by decide +kernel
theorem dX10_init_131 : decode cX10_init 131 = .ok (.putfield 57, 3) := by decide +kernel
theorem dX10_init_134 : decode cX10_init 134 = .ok (.aload_n 0, 1) := by decide +kernel
theorem dX10_init_135 : decode cX10_init 135 = .ok (.sipush 200, 3) := by decide +kernel
theorem dX10_init_138 : decode cX10_init 138 = .ok (.newarray .int, 2) := by decide +kernel
theorem dX10_init_140 : decode cX10_init 140 = .ok (.putfield 60, 3) := by decide +kernel
theorem dX10_init_143 : decode cX10_init 143 = .ok (.aload_n 0, 1) := by decide +kernel
theorem dX10_init_144 : decode cX10_init 144 = .ok (.sipush 200, 3) := by decide +kernel
theorem dX10_init_147 : decode cX10_init 147 = .ok (.newarray .int, 2) := by decide +kernel
theorem dX10_init_149 : decode cX10_init 149 = .ok (.putfield 63, 3) := by decide +kernel
theorem dX10_init_152 : decode cX10_init 152 = .ok (.aload_n 0, 1) := by decide +kernel
theorem dX10_init_153 : decode cX10_init 153 = .ok (.bipush 52, 2) := by decide +kernel
theorem dX10_init_155 : decode cX10_init 155 = .ok (.newarray .int, 2) := by decide +kernel
theorem dX10_init_157 : decode cX10_init 157 = .ok (.putfield 66, 3) := by decide +kernel
theorem dX10_init_160 : decode cX10_init 160 = .ok (.aload_n 0, 1) := by decide +kernel
theorem dX10_init_161 : decode cX10_init 161 = .ok (.iconst 4, 1) := by decide +kernel
theorem dX10_init_162 : decode cX10_init 162 = .ok (.newarray .int, 2) := by decide +kernel
theorem dX10_init_164 : decode cX10_init 164 = .ok (.putfield 69, 3) := by decide +kernel
theorem dX10_init_167 : decode cX10_init 167 = .ok (.aload_n 0, 1) := by decide +kernel
theorem dX10_init_168 : decode cX10_init 168 = .ok (.sipush 2500, 3) := by decide +kernel
theorem dX10_init_171 : decode cX10_init 171 = .ok (.newarray .int, 2) := by decide +kernel
theorem dX10_init_173 : decode cX10_init 173 = .ok (.putfield 72, 3) := by decide +kernel
theorem dX10_init_176 : decode cX10_init 176 = .ok (.aload_n 0, 1) := by decide +kernel
theorem dX10_init_177 : decode cX10_init 177 = .ok (.sipush 2500, 3) := by decide +kernel
theorem dX10_init_180 : decode cX10_init 180 = .ok (.newarray .int, 2) := by decide +kernel
theorem dX10_init_182 : decode cX10_init 182 = .ok (.putfield 75, 3) := by decide +kernel
theorem dX10_init_185 : decode cX10_init 185 = .ok (.aload_n 0, 1) := by decide +kernel
theorem dX10_init_186 : decode cX10_init 186 = .ok (.iconst 0, 1) := by decide +kernel
theorem dX10_init_187 : decode cX10_init 187 = .ok (.invokevirtual 78, 3) := by decide +kernel
theorem dX10_init_190 : decode cX10_init 190 = .ok (.return_, 1) := by decide +kernel
theorem dX10_thrown_0 : decode cX10_thrown 0 = .ok (.aload_n 0, 1) := by decide +kernel
theorem dX10_thrown_1 : decode cX10_thrown 1 = .ok (.getfield 82, 3) := by decide +kernel
theorem dX10_thrown_4 : decode cX10_thrown 4 = .ok (.ireturn, 1) := by decide +kernel
theorem dX10_isIn_0 : decode cX10_isIn 0 = .ok (.lload_n 0, 1) := by decide +kernel
theorem dX10_isIn_1 : decode cX10_isIn 1 = .ok (.lload_n 2, 1) := by decide +kernel
theorem dX10_isIn_2 : decode cX10_isIn 2 = .ok (.lcmp, 1) := by decide +kernel
theorem dX10_isIn_3 : decode cX10_isIn 3 = .ok (.ifCond .lt 14, 3) := by decide +kernel
theorem dX10_isIn_6 : decode cX10_isIn 6 = .ok (.lload_n 0, 1) := by decide +kernel
theorem dX10_isIn_7 : decode cX10_isIn 7 = .ok (.lload 4, 2) := by decide +kernel
theorem dX10_isIn_9 : decode cX10_isIn 9 = .ok (.lcmp, 1) := by decide +kernel
theorem dX10_isIn_10 : decode cX10_isIn 10 = .ok (.ifCond .gt 7, 3) := by decide +kernel
theorem dX10_isIn_13 : decode cX10_isIn 13 = .ok (.iconst 1, 1) := by decide +kernel
theorem dX10_isIn_14 : decode cX10_isIn 14 = .ok (.goto 4, 3) := by decide +kernel
theorem dX10_isIn_17 : decode cX10_isIn 17 = .ok (.iconst 0, 1) := by decide +kernel
theorem dX10_isIn_18 : decode cX10_isIn 18 = .ok (.ireturn, 1) := by decide +kernel
theorem dX10_begins_0 : decode cX10_begins 0 = .ok (.aload_n 0, 1) := by decide +kernel
theorem dX10_begins_1 : decode cX10_begins 1 = .ok (.iload_n 1, 1) := by decide +kernel
theorem dX10_begins_2 : decode cX10_begins 2 = .ok (.putfield 86, 3) := by decide +kernel
theorem dX10_begins_5 : decode cX10_begins 5 = .ok (.iconst 0, 1) := by decide +kernel
theorem dX10_begins_6 : decode cX10_begins 6 = .ok (.istore_n 2, 1) := by decide +kernel
theorem dX10_begins_7 : decode cX10_begins 7 = .ok (.iload_n 2, 1) := by decide +kernel
theorem dX10_begins_8 : decode cX10_begins 8 = .ok (.bipush 85, 2) := by decide +kernel
theorem dX10_begins_10 : decode cX10_begins 10 = .ok (.if_icmp .ge 16, 3) := by decide +kernel
theorem dX10_begins_13 : decode cX10_begins 13 = .ok (.aload_n 0, 1) := by decide +kernel
theorem dX10_begins_14 : decode cX10_begins 14 = .ok (.getfield 7, 3) := by decide +kernel
theorem dX10_begins_17 : decode cX10_begins 17 = .ok (.iload_n 2, 1) := by decide +kernel
theorem dX10_begins_18 : decode cX10_begins 18 = .ok (.iconst 0, 1) := by decide +kernel
theorem dX10_begins_19 : decode cX10_begins 19 = .ok (.iastore, 1) := by decide +kernel
theorem dX10_begins_20 : decode cX10_begins 20 = .ok (.iinc 2 1, 3) := by decide +kernel
theorem dX10_begins_23 : decode cX10_begins 23 = .ok (.goto (-16), 3) := by decide +kernel
theorem dX10_begins_26 : decode cX10_begins 26 = .ok (.iconst 0, 1) := by decide +kernel
theorem dX10_begins_27 : decode cX10_begins 27 = .ok (.istore_n 2, 1) := by decide +kernel
theorem dX10_begins_28 : decode cX10_begins 28 = .ok (.iload_n 2, 1) := by decide +kernel
theorem dX10_begins_29 : decode cX10_begins 29 = .ok (.bipush 64, 2) := by decide +kernel
theorem dX10_begins_31 : decode cX10_begins 31 = .ok (.if_icmp .ge 23, 3) := by decide +kernel
theorem dX10_begins_34 : decode cX10_begins 34 = .ok (.aload_n 0, 1) := by decide +kernel
theorem dX10_begins_35 : decode cX10_begins 35 = .ok (.getfield 16, 3) := by decide +kernel
theorem dX10_begins_38 : decode cX10_begins 38 = .ok (.iload_n 2, 1) := by decide +kernel
theorem dX10_begins_39 : decode cX10_begins 39 = .ok (.iconst (-1), 1) := by decide +kernel
theorem dX10_begins_40 : decode cX10_begins 40 = .ok (.iastore, 1) := by decide +kernel
theorem dX10_begins_41 : decode cX10_begins 41 = .ok (.aload_n 0, 1) := by decide +kernel
theorem dX10_begins_42 : decode cX10_begins 42 = .ok (.getfield 28, 3) := by decide +kernel
theorem dX10_begins_45 : decode cX10_begins 45 = .ok (.iload_n 2, 1) := by decide +kernel
theorem dX10_begins_46 : decode cX10_begins 46 = .ok (.iconst 0, 1) := by decide +kernel
theorem dX10_begins_47 : decode cX10_begins 47 = .ok (.bastore, 1) := by decide +kernel
theorem dX10_begins_48 : decode cX10_begins 48 = .ok (.iinc 2 1, 3) := by decide +kernel
theorem dX10_begins_51 : decode cX10_begins 51 = .ok (.goto (-23), 3) := by decide +kernel
theorem dX10_begins_54 : decode cX10_begins 54 = .ok (.iconst 0, 1) := by decide +kernel
theorem dX10_begins_55 : decode cX10_begins 55 = .ok (.istore_n 2, 1) := by decide +kernel
theorem dX10_begins_56 : decode cX10_begins 56 = .ok (.iload_n 2, 1) := by decide +kernel
theorem dX10_begins_57 : decode cX10_begins 57 = .ok (.bipush 8, 2) := by decide +kernel
theorem dX10_begins_59 : decode cX10_begins 59 = .ok (.if_icmp .ge 16, 3) := by decide +kernel
theorem dX10_begins_62 : decode cX10_begins 62 = .ok (.aload_n 0, 1) := by decide +kernel
theorem dX10_begins_63 : decode cX10_begins 63 = .ok (.getfield 19, 3) := by decide +kernel
theorem dX10_begins_66 : decode cX10_begins 66 = .ok (.iload_n 2, 1) := by decide +kernel
theorem dX10_begins_67 : decode cX10_begins 67 = .ok (.iconst (-1), 1) := by decide +kernel
theorem dX10_begins_68 : decode cX10_begins 68 = .ok (.iastore, 1) := by decide +kernel
theorem dX10_begins_69 : decode cX10_begins 69 = .ok (.iinc 2 1, 3) := by decide +kernel
theorem dX10_begins_72 : decode cX10_begins 72 = .ok (.goto (-16), 3) := by decide +kernel
theorem dX10_begins_75 : decode cX10_begins 75 = .ok (.iconst 0, 1) := by decide +kernel
theorem dX10_begins_76 : decode cX10_begins 76 = .ok (.istore_n 2, 1) := by decide +kernel
theorem dX10_begins_77 : decode cX10_begins 77 = .ok (.iload_n 2, 1) := by decide +kernel
theorem dX10_begins_78 : decode cX10_begins 78 = .ok (.iconst 4, 1) := by decide +kernel
theorem dX10_begins_79 : decode cX10_begins 79 = .ok (.if_icmp .ge 23, 3) := by decide +kernel
theorem dX10_begins_82 : decode cX10_begins 82 = .ok (.aload_n 0, 1) := by decide +kernel
theorem dX10_begins_83 : decode cX10_begins 83 = .ok (.getfield 22, 3) := by decide +kernel
theorem dX10_begins_86 : decode cX10_begins 86 = .ok (.iload_n 2, 1) := by decide +kernel
theorem dX10_begins_87 : decode cX10_begins 87 = .ok (.iconst 0, 1) := by decide +kernel
theorem dX10_begins_88 : decode cX10_begins 88 = .ok (.iastore, 1) := by decide +kernel
theorem dX10_begins_89 : decode cX10_begins 89 = .ok (.aload_n 0, 1) := by decide +kernel
theorem dX10_begins_90 : decode cX10_begins 90 = .ok (.getfield 69, 3) := by decide +kernel
theorem dX10_begins_93 : decode cX10_begins 93 = .ok (.iload_n 2, 1) := by decide +kernel
theorem dX10_begins_94 : decode cX10_begins 94 = .ok (.iconst (-1), 1) := by decide +kernel
theorem dX10_begins_95 : decode cX10_begins 95 = .ok (.iastore, 1) := by decide +kernel
theorem dX10_begins_96 : decode cX10_begins 96 = .ok (.iinc 2 1, 3) := by decide +kernel
theorem dX10_begins_99 : decode cX10_begins 99 = .ok (.goto (-22), 3) := by decide +kernel
theorem dX10_begins_102 : decode cX10_begins 102 = .ok (.iconst 0, 1) := by decide +kernel
theorem dX10_begins_103 : decode cX10_begins 103 = .ok (.istore_n 2, 1) := by decide +kernel
theorem dX10_begins_104 : decode cX10_begins 104 = .ok (.iload_n 2, 1) := by decide +kernel
theorem dX10_begins_105 : decode cX10_begins 105 = .ok (.bipush 8, 2) := by decide +kernel
theorem dX10_begins_107 : decode cX10_begins 107 = .ok (.if_icmp .ge 23, 3) := by decide +kernel
theorem dX10_begins_110 : decode cX10_begins 110 = .ok (.aload_n 0, 1) := by decide +kernel
theorem dX10_begins_111 : decode cX10_begins 111 = .ok (.getfield 38, 3) := by decide +kernel
theorem dX10_begins_114 : decode cX10_begins 114 = .ok (.iload_n 2, 1) := by decide +kernel
theorem dX10_begins_115 : decode cX10_begins 115 = .ok (.iconst 0, 1) := by decide +kernel
theorem dX10_begins_116 : decode cX10_begins 116 = .ok (.iastore, 1) := by decide +kernel
theorem dX10_begins_117 : decode cX10_begins 117 = .ok (.aload_n 0, 1) := by decide +kernel
theorem dX10_begins_118 : decode cX10_begins 118 = .ok (.getfield 41, 3) := by decide +kernel
theorem dX10_begins_121 : decode cX10_begins 121 = .ok (.iload_n 2, 1) := by decide +kernel
theorem dX10_begins_122 : decode cX10_begins 122 = .ok (.iconst 0, 1) := by decide +kernel
theorem dX10_begins_123 : decode cX10_begins 123 = .ok (.iastore, 1) := by decide +kernel
theorem dX10_begins_124 : decode cX10_begins 124 = .ok (.iinc 2 1, 3) := by decide +kernel
theorem dX10_begins_127 : decode cX10_begins 127 = .ok (.goto (-23), 3) := by decide +kernel
theorem dX10_begins_130 : decode cX10_begins 130 = .ok (.aload_n 0, 1) := by decide +kernel
theorem dX10_begins_131 : decode cX10_begins 131 = .ok (.iconst 1, 1) := by decide +kernel
theorem dX10_begins_132 : decode cX10_begins 132 = .ok (.putfield 89, 3) := by decide +kernel
theorem dX10_begins_135 : decode cX10_begins 135 = .ok (.aload_n 0, 1) := by decide +kernel
theorem dX10_begins_136 : decode cX10_begins 136 = .ok (.iconst 0, 1) := by decide +kernel
theorem dX10_begins_137 : decode cX10_begins 137 = .ok (.putfield 92, 3) := by decide +kernel
theorem dX10_begins_140 : decode cX10_begins 140 = .ok (.aload_n 0, 1) := by decide +kernel
theorem dX10_begins_141 : decode cX10_begins 141 = .ok (.iconst 0, 1) := by decide +kernel
theorem dX10_begins_142 : decode cX10_begins 142 = .ok (.putfield 95, 3) := by decide +kernel
theorem dX10_begins_145 : decode cX10_begins 145 = .ok (.aload_n 0, 1) := by decide +kernel
theorem dX10_begins_146 : decode cX10_begins 146 = .ok (.iconst 0, 1) := by decide +kernel
theorem dX10_begins_147 : decode cX10_begins 147 = .ok (.putfield 98, 3) := by decide +kernel
theorem dX10_begins_150 : decode cX10_begins 150 = .ok (.aload_n 0, 1) := by decide +kernel
theorem dX10_begins_151 : decode cX10_begins 151 = .ok (.getfield 7, 3) := by decide +kernel
theorem dX10_begins_154 : decode cX10_begins 154 = .ok (.iconst 0, 1) := by decide +kernel
theorem dX10_begins_155 : decode cX10_begins 155 = .ok (.aload_n 0, 1) := by decide +kernel
theorem dX10_begins_156 : decode cX10_begins 156 = .ok (.invokevirtual 101, 3) := by decide +kernel
theorem dX10_begins_159 : decode cX10_begins 159 = .ok (.iastore, 1) := by decide +kernel
theorem dX10_begins_160 : decode cX10_begins 160 = .ok (.return_, 1) := by decide +kernel
theorem dX10_reset_0 : decode cX10_reset 0 = .ok (.aload_n 0, 1) := by decide +kernel
theorem dX10_reset_1 : decode cX10_reset 1 = .ok (.iconst 0, 1) := by decide +kernel
theorem dX10_reset_2 : decode cX10_reset 2 = .ok (.putfield 82, 3) := by decide +kernel
theorem dX10_reset_5 : decode cX10_reset 5 = .ok (.aload_n 0, 1) := by decide +kernel
theorem dX10_reset_6 : decode cX10_reset 6 = .ok (.iload_n 1, 1) := by decide +kernel
theorem dX10_reset_7 : decode cX10_reset 7 = .ok (.invokevirtual 78, 3) := by decide +kernel
theorem dX10_reset_10 : decode cX10_reset 10 = .ok (.return_, 1) := by decide +kernel
theorem dX10_mix_0 : decode cX10_mix 0 = .ok (.iload_n 0, 1) := by decide +kernel
theorem dX10_mix_1 : decode cX10_mix 1 = .ok (.istore_n 1, 1) := by decide +kernel
theorem dX10_mix_2 : decode cX10_mix 2 = .ok (.iload_n 1, 1) := by decide +kernel
theorem dX10_mix_3 : decode cX10_mix 3 = .ok (.iload_n 1, 1) := by decide +kernel
theorem dX10_mix_4 : decode cX10_mix 4 = .ok (.bipush 16, 2) := by decide +kernel
theorem dX10_mix_6 : decode cX10_mix 6 = .ok (.iushr, 1) := by decide +kernel
theorem dX10_mix_7 : decode cX10_mix 7 = .ok (.ixor, 1) := by decide +kernel
theorem dX10_mix_8 : decode cX10_mix 8 = .ok (.istore_n 1, 1) := by decide +kernel
theorem dX10_mix_9 : decode cX10_mix 9 = .ok (.iload_n 1, 1) := by decide +kernel
theorem dX10_mix_10 : decode cX10_mix 10 = .ok (.ldc 105, 2) := by decide +kernel
theorem dX10_mix_12 : decode cX10_mix 12 = .ok (.imul, 1) := by decide +kernel
theorem dX10_mix_13 : decode cX10_mix 13 = .ok (.istore_n 1, 1) := by decide +kernel
theorem dX10_mix_14 : decode cX10_mix 14 = .ok (.iload_n 1, 1) := by decide +kernel
theorem dX10_mix_15 : decode cX10_mix 15 = .ok (.iload_n 1, 1) := by decide +kernel
theorem dX10_mix_16 : decode cX10_mix 16 = .ok (.bipush 13, 2) := by decide +kernel
theorem dX10_mix_18 : decode cX10_mix 18 = .ok (.iushr, 1) := by decide +kernel
theorem dX10_mix_19 : decode cX10_mix 19 = .ok (.ixor, 1) := by decide +kernel
theorem dX10_mix_20 : decode cX10_mix 20 = .ok (.istore_n 1, 1) := by decide +kernel
theorem dX10_mix_21 : decode cX10_mix 21 = .ok (.iload_n 1, 1) := by decide +kernel
theorem dX10_mix_22 : decode cX10_mix 22 = .ok (.ldc 106, 2) := by decide +kernel
theorem dX10_mix_24 : decode cX10_mix 24 = .ok (.imul, 1) := by decide +kernel
theorem dX10_mix_25 : decode cX10_mix 25 = .ok (.istore_n 1, 1) := by decide +kernel
theorem dX10_mix_26 : decode cX10_mix 26 = .ok (.iload_n 1, 1) := by decide +kernel
theorem dX10_mix_27 : decode cX10_mix 27 = .ok (.iload_n 1, 1) := by decide +kernel
theorem dX10_mix_28 : decode cX10_mix 28 = .ok (.bipush 16, 2) := by decide +kernel
theorem dX10_mix_30 : decode cX10_mix 30 = .ok (.iushr, 1) := by decide +kernel
theorem dX10_mix_31 : decode cX10_mix 31 = .ok (.ixor, 1) := by decide +kernel
theorem dX10_mix_32 : decode cX10_mix 32 = .ok (.istore_n 1, 1) := by decide +kernel
theorem dX10_mix_33 : decode cX10_mix 33 = .ok (.iload_n 1, 1) := by decide +kernel
theorem dX10_mix_34 : decode cX10_mix 34 = .ok (.ireturn, 1) := by decide +kernel
theorem dX10_newKey_0 : decode cX10_newKey 0 = .ok (.aload_n 0, 1) := by decide +kernel
theorem dX10_newKey_1 : decode cX10_newKey 1 = .ok (.dup, 1) := by decide +kernel
theorem dX10_newKey_2 : decode cX10_newKey 2 = .ok (.getfield 98, 3) := by decide +kernel
theorem dX10_newKey_5 : decode cX10_newKey 5 = .ok (.iconst 1, 1) := by decide +kernel
theorem dX10_newKey_6 : decode cX10_newKey 6 = .ok (.iadd, 1) := by decide +kernel
theorem dX10_newKey_7 : decode cX10_newKey 7 = .ok (.putfield 98, 3) := by decide +kernel
theorem dX10_newKey_10 : decode cX10_newKey 10 = .ok (.aload_n 0, 1) := by decide +kernel
theorem dX10_newKey_11 : decode cX10_newKey 11 = .ok (.getfield 98, 3) := by decide +kernel
theorem dX10_newKey_14 : decode cX10_newKey 14 = .ok (.ireturn, 1) := by decide +kernel
theorem dX10_valueOf_0 : decode cX10_valueOf 0 = .ok (.aload_n 0, 1) := by decide +kernel
theorem dX10_valueOf_1 : decode cX10_valueOf 1 = .ok (.getfield 86, 3) := by decide +kernel
theorem dX10_valueOf_4 : decode cX10_valueOf 4 = .ok (.iload_n 1, 1) := by decide +kernel
theorem dX10_valueOf_5 : decode cX10_valueOf 5 = .ok (.ldc 107, 2) := by decide +kernel
theorem dX10_valueOf_7 : decode cX10_valueOf 7 = .ok (.imul, 1) := by decide +kernel
theorem dX10_valueOf_8 : decode cX10_valueOf 8 = .ok (.iadd, 1) := by decide +kernel
theorem dX10_valueOf_9 : decode cX10_valueOf 9 = .ok (.invokestatic 108, 3) := by decide +kernel
theorem dX10_valueOf_12 : decode cX10_valueOf 12 = .ok (.ireturn, 1) := by decide +kernel
theorem dX10_parent_0 : decode cX10_parent 0 = .ok (.iload_n 0, 1) := by decide +kernel
theorem dX10_parent_1 : decode cX10_parent 1 = .ok (.iconst 1, 1) := by decide +kernel
theorem dX10_parent_2 : decode cX10_parent 2 = .ok (.isub, 1) := by decide +kernel
theorem dX10_parent_3 : decode cX10_parent 3 = .ok (.iconst 4, 1) := by decide +kernel
theorem dX10_parent_4 : decode cX10_parent 4 = .ok (.idiv, 1) := by decide +kernel
theorem dX10_parent_5 : decode cX10_parent 5 = .ok (.ireturn, 1) := by decide +kernel
theorem dX10_levelOf_0 : decode cX10_levelOf 0 = .ok (.iload_n 0, 1) := by decide +kernel
theorem dX10_levelOf_1 : decode cX10_levelOf 1 = .ok (.ifCond .ne 7, 3) := by decide +kernel
theorem dX10_levelOf_4 : decode cX10_levelOf 4 = .ok (.iconst 0, 1) := by decide +kernel
theorem dX10_levelOf_5 : decode cX10_levelOf 5 = .ok (.goto 23, 3) := by decide +kernel
theorem dX10_levelOf_8 : decode cX10_levelOf 8 = .ok (.iload_n 0, 1) := by decide +kernel
theorem dX10_levelOf_9 : decode cX10_levelOf 9 = .ok (.iconst 5, 1) := by decide +kernel
theorem dX10_levelOf_10 : decode cX10_levelOf 10 = .ok (.if_icmp .ge 7, 3) := by decide +kernel
theorem dX10_levelOf_13 : decode cX10_levelOf 13 = .ok (.iconst 1, 1) := by decide +kernel
theorem dX10_levelOf_14 : decode cX10_levelOf 14 = .ok (.goto 14, 3) := by decide +kernel
theorem dX10_levelOf_17 : decode cX10_levelOf 17 = .ok (.iload_n 0, 1) := by decide +kernel
theorem dX10_levelOf_18 : decode cX10_levelOf 18 = .ok (.bipush 21, 2) := by decide +kernel
theorem dX10_levelOf_20 : decode cX10_levelOf 20 = .ok (.if_icmp .ge 7, 3) := by decide +kernel
theorem dX10_levelOf_23 : decode cX10_levelOf 23 = .ok (.iconst 2, 1) := by decide +kernel
theorem dX10_levelOf_24 : decode cX10_levelOf 24 = .ok (.goto 4, 3) := by decide +kernel
theorem dX10_levelOf_27 : decode cX10_levelOf 27 = .ok (.iconst 3, 1) := by decide +kernel
theorem dX10_levelOf_28 : decode cX10_levelOf 28 = .ok (.ireturn, 1) := by decide +kernel
theorem dX10_isBelow_0 : decode cX10_isBelow 0 = .ok (.iload_n 0, 1) := by decide +kernel
theorem dX10_isBelow_1 : decode cX10_isBelow 1 = .ok (.istore_n 2, 1) := by decide +kernel
theorem dX10_isBelow_2 : decode cX10_isBelow 2 = .ok (.iload_n 2, 1) := by decide +kernel
theorem dX10_isBelow_3 : decode cX10_isBelow 3 = .ok (.iload_n 1, 1) := by decide +kernel
theorem dX10_isBelow_4 : decode cX10_isBelow 4 = .ok (.if_icmp .le 11, 3) := by decide +kernel
theorem dX10_isBelow_7 : decode cX10_isBelow 7 = .ok (.iload_n 2, 1) := by decide +kernel
theorem dX10_isBelow_8 : decode cX10_isBelow 8 = .ok (.invokestatic 112, 3) := by decide +kernel
theorem dX10_isBelow_11 : decode cX10_isBelow 11 = .ok (.istore_n 2, 1) := by decide +kernel
theorem dX10_isBelow_12 : decode cX10_isBelow 12 = .ok (.goto (-10), 3) := by decide +kernel
theorem dX10_isBelow_15 : decode cX10_isBelow 15 = .ok (.iload_n 2, 1) := by decide +kernel
theorem dX10_isBelow_16 : decode cX10_isBelow 16 = .ok (.iload_n 1, 1) := by decide +kernel
theorem dX10_isBelow_17 : decode cX10_isBelow 17 = .ok (.if_icmp .ne 7, 3) := by decide +kernel
theorem dX10_isBelow_20 : decode cX10_isBelow 20 = .ok (.iconst 1, 1) := by decide +kernel
theorem dX10_isBelow_21 : decode cX10_isBelow 21 = .ok (.goto 4, 3) := by decide +kernel
theorem dX10_isBelow_24 : decode cX10_isBelow 24 = .ok (.iconst 0, 1) := by decide +kernel
theorem dX10_isBelow_25 : decode cX10_isBelow 25 = .ok (.ireturn, 1) := by decide +kernel
theorem dX10_isLeaf_0 : decode cX10_isLeaf 0 = .ok (.iload_n 0, 1) := by decide +kernel
theorem dX10_isLeaf_1 : decode cX10_isLeaf 1 = .ok (.i2l, 1) := by decide +kernel
theorem dX10_isLeaf_2 : decode cX10_isLeaf 2 = .ok (.lconst 0, 1) := by decide +kernel
theorem dX10_isLeaf_3 : decode cX10_isLeaf 3 = .ok (.ldc2_w 115, 3) := by decide +kernel
theorem dX10_isLeaf_6 : decode cX10_isLeaf 6 = .ok (.invokestatic 117, 3) := by decide +kernel
theorem dX10_isLeaf_9 : decode cX10_isLeaf 9 = .ok (.ireturn, 1) := by decide +kernel
theorem dX10_isPlace_0 : decode cX10_isPlace 0 = .ok (.iload_n 0, 1) := by decide +kernel
theorem dX10_isPlace_1 : decode cX10_isPlace 1 = .ok (.i2l, 1) := by decide +kernel
theorem dX10_isPlace_2 : decode cX10_isPlace 2 = .ok (.lconst 0, 1) := by decide +kernel
theorem dX10_isPlace_3 : decode cX10_isPlace 3 = .ok (.ldc2_w 121, 3) := by decide +kernel
theorem dX10_isPlace_6 : decode cX10_isPlace 6 = .ok (.invokestatic 117, 3) := by decide +kernel
theorem dX10_isPlace_9 : decode cX10_isPlace 9 = .ok (.ireturn, 1) := by decide +kernel
theorem dX10_isRecord_0 : decode cX10_isRecord 0 = .ok (.iload_n 1, 1) := by decide +kernel
theorem dX10_isRecord_1 : decode cX10_isRecord 1 = .ok (.i2l, 1) := by decide +kernel
theorem dX10_isRecord_2 : decode cX10_isRecord 2 = .ok (.lconst 0, 1) := by decide +kernel
theorem dX10_isRecord_3 : decode cX10_isRecord 3 = .ok (.aload_n 0, 1) := by decide +kernel
theorem dX10_isRecord_4 : decode cX10_isRecord 4 = .ok (.getfield 95, 3) := by decide +kernel
theorem dX10_isRecord_7 : decode cX10_isRecord 7 = .ok (.iconst 1, 1) := by decide +kernel
theorem dX10_isRecord_8 : decode cX10_isRecord 8 = .ok (.isub, 1) := by decide +kernel
theorem dX10_isRecord_9 : decode cX10_isRecord 9 = .ok (.i2l, 1) := by decide +kernel
theorem dX10_isRecord_10 : decode cX10_isRecord 10 = .ok (.invokestatic 117, 3) := by decide +kernel
theorem dX10_isRecord_13 : decode cX10_isRecord 13 = .ok (.ireturn, 1) := by decide +kernel
theorem dX10_isMedium_0 : decode cX10_isMedium 0 = .ok (.iload_n 1, 1) := by decide +kernel
theorem dX10_isMedium_1 : decode cX10_isMedium 1 = .ok (.i2l, 1) := by decide +kernel
theorem dX10_isMedium_2 : decode cX10_isMedium 2 = .ok (.lconst 0, 1) := by decide +kernel
theorem dX10_isMedium_3 : decode cX10_isMedium 3 = .ok (.aload_n 0, 1) := by decide +kernel
theorem dX10_isMedium_4 : decode cX10_isMedium 4 = .ok (.getfield 89, 3) := by decide +kernel
theorem dX10_isMedium_7 : decode cX10_isMedium 7 = .ok (.iconst 1, 1) := by decide +kernel
theorem dX10_isMedium_8 : decode cX10_isMedium 8 = .ok (.isub, 1) := by decide +kernel
theorem dX10_isMedium_9 : decode cX10_isMedium 9 = .ok (.i2l, 1) := by decide +kernel
theorem dX10_isMedium_10 : decode cX10_isMedium 10 = .ok (.invokestatic 117, 3) := by decide +kernel
theorem dX10_isMedium_13 : decode cX10_isMedium 13 = .ok (.ireturn, 1) := by decide +kernel
theorem dX10_writableBut_0 : decode cX10_writableBut 0 = .ok (.aload_n 0, 1) := by decide +kernel
theorem dX10_writableBut_1 : decode cX10_writableBut 1 = .ok (.getfield 89, 3) := by decide +kernel
theorem dX10_writableBut_4 : decode cX10_writableBut 4 = .ok (.iconst 1, 1) := by decide +kernel
theorem dX10_writableBut_5 : decode cX10_writableBut 5 = .ok (.isub, 1) := by decide +kernel
theorem dX10_writableBut_6 : decode cX10_writableBut 6 = .ok (.istore_n 2, 1) := by decide +kernel
theorem dX10_writableBut_7 : decode cX10_writableBut 7 = .ok (.iload_n 2, 1) := by decide +kernel
theorem dX10_writableBut_8 : decode cX10_writableBut 8 = .ok (.ifCond .lt 25, 3) := by decide +kernel
theorem dX10_writableBut_11 : decode cX10_writableBut 11 = .ok (.iload_n 2, 1) := by decide +kernel
theorem dX10_writableBut_12 : decode cX10_writableBut 12 = .ok (.iload_n 1, 1) := by decide +kernel
theorem dX10_writableBut_13 : decode cX10_writableBut 13 = .ok (.if_icmp .eq 14, 3) := by decide +kernel
theorem dX10_writableBut_16 : decode cX10_writableBut 16 = .ok (.aload_n 0, 1) := by decide +kernel
theorem dX10_writableBut_17 : decode cX10_writableBut 17 = .ok (.getfield 38, 3) := by decide +kernel
theorem dX10_writableBut_20 : decode cX10_writableBut 20 = .ok (.iload_n 2, 1) := by decide +kernel
theorem dX10_writableBut_21 : decode cX10_writableBut 21 = .ok (.iaload, 1) := by decide +kernel
theorem dX10_writableBut_22 : decode cX10_writableBut 22 = .ok (.ifCond .ne 5, 3) := by decide +kernel
theorem dX10_writableBut_25 : decode cX10_writableBut 25 = .ok (.iload_n 2, 1) := by decide +kernel
theorem dX10_writableBut_26 : decode cX10_writableBut 26 = .ok (.ireturn, 1) := by decide +kernel
theorem dX10_writableBut_27 : decode cX10_writableBut 27 = .ok (.iinc 2 (-1), 3) := by decide +kernel
theorem dX10_writableBut_30 : decode cX10_writableBut 30 = .ok (.goto (-23), 3) := by decide +kernel
theorem dX10_writableBut_33 : decode cX10_writableBut 33 = .ok (.iconst (-1), 1) := by decide +kernel
theorem dX10_writableBut_34 : decode cX10_writableBut 34 = .ok (.ireturn, 1) := by decide +kernel
theorem dX10_hasRoom_0 : decode cX10_hasRoom 0 = .ok (.iload_n 2, 1) := by decide +kernel
theorem dX10_hasRoom_1 : decode cX10_hasRoom 1 = .ok (.ifCond .eq 22, 3) := by decide +kernel
theorem dX10_hasRoom_4 : decode cX10_hasRoom 4 = .ok (.iload_n 1, 1) := by decide +kernel
theorem dX10_hasRoom_5 : decode cX10_hasRoom 5 = .ok (.iconst (-1), 1) := by decide +kernel
theorem dX10_hasRoom_6 : decode cX10_hasRoom 6 = .ok (.if_icmp .eq 21, 3) := by decide +kernel
theorem dX10_hasRoom_9 : decode cX10_hasRoom 9 = .ok (.aload_n 0, 1) := by decide +kernel
theorem dX10_hasRoom_10 : decode cX10_hasRoom 10 = .ok (.getfield 41, 3) := by decide +kernel
theorem dX10_hasRoom_13 : decode cX10_hasRoom 13 = .ok (.iload_n 1, 1) := by decide +kernel
theorem dX10_hasRoom_14 : decode cX10_hasRoom 14 = .ok (.iaload, 1) := by decide +kernel
theorem dX10_hasRoom_15 : decode cX10_hasRoom 15 = .ok (.iload_n 2, 1) := by decide +kernel
theorem dX10_hasRoom_16 : decode cX10_hasRoom 16 = .ok (.iadd, 1) := by decide +kernel
theorem dX10_hasRoom_17 : decode cX10_hasRoom 17 = .ok (.sipush 150, 3) := by decide +kernel
theorem dX10_hasRoom_20 : decode cX10_hasRoom 20 = .ok (.if_icmp .gt 7, 3) := by decide +kernel
theorem dX10_hasRoom_23 : decode cX10_hasRoom 23 = .ok (.iconst 1, 1) := by decide +kernel
theorem dX10_hasRoom_24 : decode cX10_hasRoom 24 = .ok (.goto 4, 3) := by decide +kernel
theorem dX10_hasRoom_27 : decode cX10_hasRoom 27 = .ok (.iconst 0, 1) := by decide +kernel
theorem dX10_hasRoom_28 : decode cX10_hasRoom 28 = .ok (.ireturn, 1) := by decide +kernel
theorem dX10_writes_0 : decode cX10_writes 0 = .ok (.sipush 150, 3) := by decide +kernel
theorem dX10_writes_3 : decode cX10_writes 3 = .ok (.iload_n 1, 1) := by decide +kernel
theorem dX10_writes_4 : decode cX10_writes 4 = .ok (.imul, 1) := by decide +kernel
theorem dX10_writes_5 : decode cX10_writes 5 = .ok (.aload_n 0, 1) := by decide +kernel
theorem dX10_writes_6 : decode cX10_writes 6 = .ok (.getfield 41, 3) := by decide +kernel
theorem dX10_writes_9 : decode cX10_writes 9 = .ok (.iload_n 1, 1) := by decide +kernel
theorem dX10_writes_10 : decode cX10_writes 10 = .ok (.iaload, 1) := by decide +kernel
theorem dX10_writes_11 : decode cX10_writes 11 = .ok (.iadd, 1) := by decide +kernel
theorem dX10_writes_12 : decode cX10_writes 12 = .ok (.istore 7, 2) := by decide +kernel
theorem dX10_writes_14 : decode cX10_writes 14 = .ok (.aload_n 0, 1) := by decide +kernel
theorem dX10_writes_15 : decode cX10_writes 15 = .ok (.getfield 44, 3) := by decide +kernel
theorem dX10_writes_18 : decode cX10_writes 18 = .ok (.iload 7, 2) := by decide +kernel
theorem dX10_writes_20 : decode cX10_writes 20 = .ok (.iload_n 2, 1) := by decide +kernel
theorem dX10_writes_21 : decode cX10_writes 21 = .ok (.iastore, 1) := by decide +kernel
theorem dX10_writes_22 : decode cX10_writes 22 = .ok (.aload_n 0, 1) := by decide +kernel
theorem dX10_writes_23 : decode cX10_writes 23 = .ok (.getfield 47, 3) := by decide +kernel
theorem dX10_writes_26 : decode cX10_writes 26 = .ok (.iload 7, 2) := by decide +kernel
theorem dX10_writes_28 : decode cX10_writes 28 = .ok (.iload_n 3, 1) := by decide +kernel
theorem dX10_writes_29 : decode cX10_writes 29 = .ok (.iastore, 1) := by decide +kernel
theorem dX10_writes_30 : decode cX10_writes 30 = .ok (.aload_n 0, 1) := by decide +kernel
theorem dX10_writes_31 : decode cX10_writes 31 = .ok (.getfield 50, 3) := by decide +kernel
theorem dX10_writes_34 : decode cX10_writes 34 = .ok (.iload 7, 2) := by decide +kernel
theorem dX10_writes_36 : decode cX10_writes 36 = .ok (.iload 4, 2) := by decide +kernel
theorem dX10_writes_38 : decode cX10_writes 38 = .ok (.iastore, 1) := by decide +kernel
theorem dX10_writes_39 : decode cX10_writes 39 = .ok (.aload_n 0, 1) := by decide +kernel
theorem dX10_writes_40 : decode cX10_writes 40 = .ok (.getfield 53, 3) := by decide +kernel
theorem dX10_writes_43 : decode cX10_writes 43 = .ok (.iload 7, 2) := by decide +kernel
theorem dX10_writes_45 : decode cX10_writes 45 = .ok (.lload 5, 2) := by decide +kernel
theorem dX10_writes_47 : decode cX10_writes 47 = .ok (.lastore, 1) := by decide +kernel
theorem dX10_writes_48 : decode cX10_writes 48 = .ok (.aload_n 0, 1) := by decide +kernel
theorem dX10_writes_49 : decode cX10_writes 49 = .ok (.getfield 41, 3) := by decide +kernel
theorem dX10_writes_52 : decode cX10_writes 52 = .ok (.iload_n 1, 1) := by decide +kernel
theorem dX10_writes_53 : decode cX10_writes 53 = .ok (.dup2, 1) := by decide +kernel
theorem dX10_writes_54 : decode cX10_writes 54 = .ok (.iaload, 1) := by decide +kernel
theorem dX10_writes_55 : decode cX10_writes 55 = .ok (.iconst 1, 1) := by decide +kernel
theorem dX10_writes_56 : decode cX10_writes 56 = .ok (.iadd, 1) := by decide +kernel
theorem dX10_writes_57 : decode cX10_writes 57 = .ok (.iastore, 1) := by decide +kernel
theorem dX10_writes_58 : decode cX10_writes 58 = .ok (.return_, 1) := by decide +kernel
theorem dX10_wraps_0 : decode cX10_wraps 0 = .ok (.aload_n 0, 1) := by decide +kernel
theorem dX10_wraps_1 : decode cX10_wraps 1 = .ok (.aload_n 0, 1) := by decide +kernel
theorem dX10_wraps_2 : decode cX10_wraps 2 = .ok (.iconst (-1), 1) := by decide +kernel
theorem dX10_wraps_3 : decode cX10_wraps 3 = .ok (.invokevirtual 123, 3) := by decide +kernel
theorem dX10_wraps_6 : decode cX10_wraps 6 = .ok (.iconst 0, 1) := by decide +kernel
theorem dX10_wraps_7 : decode cX10_wraps 7 = .ok (.iload_n 1, 1) := by decide +kernel
theorem dX10_wraps_8 : decode cX10_wraps 8 = .ok (.iload_n 2, 1) := by decide +kernel
theorem dX10_wraps_9 : decode cX10_wraps 9 = .ok (.aload_n 0, 1) := by decide +kernel
theorem dX10_wraps_10 : decode cX10_wraps 10 = .ok (.iload_n 1, 1) := by decide +kernel
theorem dX10_wraps_11 : decode cX10_wraps 11 = .ok (.invokevirtual 126, 3) := by decide +kernel
theorem dX10_wraps_14 : decode cX10_wraps 14 = .ok (.aload_n 0, 1) := by decide +kernel
theorem dX10_wraps_15 : decode cX10_wraps 15 = .ok (.iload_n 2, 1) := by decide +kernel
theorem dX10_wraps_16 : decode cX10_wraps 16 = .ok (.invokevirtual 126, 3) := by decide +kernel
theorem dX10_wraps_19 : decode cX10_wraps 19 = .ok (.iload_n 1, 1) := by decide +kernel
theorem dX10_wraps_20 : decode cX10_wraps 20 = .ok (.ixor, 1) := by decide +kernel
theorem dX10_wraps_21 : decode cX10_wraps 21 = .ok (.invokestatic 108, 3) := by decide +kernel
theorem dX10_wraps_24 : decode cX10_wraps 24 = .ok (.ixor, 1) := by decide +kernel
theorem dX10_wraps_25 : decode cX10_wraps 25 = .ok (.i2l, 1) := by decide +kernel
theorem dX10_wraps_26 : decode cX10_wraps 26 = .ok (.invokevirtual 129, 3) := by decide +kernel
theorem dX10_wraps_29 : decode cX10_wraps 29 = .ok (.return_, 1) := by decide +kernel
theorem dX10_maskOf_0 : decode cX10_maskOf 0 = .ok (.aload_n 0, 1) := by decide +kernel
theorem dX10_maskOf_1 : decode cX10_maskOf 1 = .ok (.iload_n 1, 1) := by decide +kernel
theorem dX10_maskOf_2 : decode cX10_maskOf 2 = .ok (.invokevirtual 126, 3) := by decide +kernel
theorem dX10_maskOf_5 : decode cX10_maskOf 5 = .ok (.iconst 1, 1) := by decide +kernel
theorem dX10_maskOf_6 : decode cX10_maskOf 6 = .ok (.iadd, 1) := by decide +kernel
theorem dX10_maskOf_7 : decode cX10_maskOf 7 = .ok (.invokestatic 108, 3) := by decide +kernel
theorem dX10_maskOf_10 : decode cX10_maskOf 10 = .ok (.i2l, 1) := by decide +kernel
theorem dX10_maskOf_11 : decode cX10_maskOf 11 = .ok (.bipush 32, 2) := by decide +kernel
theorem dX10_maskOf_13 : decode cX10_maskOf 13 = .ok (.lshl, 1) := by decide +kernel
theorem dX10_maskOf_14 : decode cX10_maskOf 14 = .ok (.aload_n 0, 1) := by decide +kernel
theorem dX10_maskOf_15 : decode cX10_maskOf 15 = .ok (.iload_n 1, 1) := by decide +kernel
theorem dX10_maskOf_16 : decode cX10_maskOf 16 = .ok (.invokevirtual 126, 3) := by decide +kernel
theorem dX10_maskOf_19 : decode cX10_maskOf 19 = .ok (.iconst 2, 1) := by decide +kernel
theorem dX10_maskOf_20 : decode cX10_maskOf 20 = .ok (.iadd, 1) := by decide +kernel
theorem dX10_maskOf_21 : decode cX10_maskOf 21 = .ok (.invokestatic 108, 3) := by decide +kernel
theorem dX10_maskOf_24 : decode cX10_maskOf 24 = .ok (.i2l, 1) := by decide +kernel
theorem dX10_maskOf_25 : decode cX10_maskOf 25 = .ok (.ldc2_w 133, 3) := by decide +kernel
theorem dX10_maskOf_28 : decode cX10_maskOf 28 = .ok (.land, 1) := by decide +kernel
theorem dX10_maskOf_29 : decode cX10_maskOf 29 = .ok (.lor, 1) := by decide +kernel
theorem dX10_maskOf_30 : decode cX10_maskOf 30 = .ok (.lreturn, 1) := by decide +kernel
theorem dX10_isOn_0 : decode cX10_isOn 0 = .ok (.sipush 150, 3) := by decide +kernel
theorem dX10_isOn_3 : decode cX10_isOn 3 = .ok (.iload_n 1, 1) := by decide +kernel
theorem dX10_isOn_4 : decode cX10_isOn 4 = .ok (.imul, 1) := by decide +kernel
theorem dX10_isOn_5 : decode cX10_isOn 5 = .ok (.istore 5, 2) := by decide +kernel
theorem dX10_isOn_7 : decode cX10_isOn 7 = .ok (.iload 5, 2) := by decide +kernel
theorem dX10_isOn_9 : decode cX10_isOn 9 = .ok (.sipush 150, 3) := by decide +kernel
theorem dX10_isOn_12 : decode cX10_isOn 12 = .ok (.iload_n 1, 1) := by decide +kernel
theorem dX10_isOn_13 : decode cX10_isOn 13 = .ok (.imul, 1) := by decide +kernel
theorem dX10_isOn_14 : decode cX10_isOn 14 = .ok (.aload_n 0, 1) := by decide +kernel
theorem dX10_isOn_15 : decode cX10_isOn 15 = .ok (.getfield 41, 3) := by decide +kernel
theorem dX10_isOn_18 : decode cX10_isOn 18 = .ok (.iload_n 1, 1) := by decide +kernel
theorem dX10_isOn_19 : decode cX10_isOn 19 = .ok (.iaload, 1) := by decide +kernel
theorem dX10_isOn_20 : decode cX10_isOn 20 = .ok (.iadd, 1) := by decide +kernel
theorem dX10_isOn_21 : decode cX10_isOn 21 = .ok (.if_icmp .ge 45, 3) := by decide +kernel
theorem dX10_isOn_24 : decode cX10_isOn 24 = .ok (.aload_n 0, 1) := by decide +kernel
theorem dX10_isOn_25 : decode cX10_isOn 25 = .ok (.getfield 44, 3) := by decide +kernel
theorem dX10_isOn_28 : decode cX10_isOn 28 = .ok (.iload 5, 2) := by decide +kernel
theorem dX10_isOn_30 : decode cX10_isOn 30 = .ok (.iaload, 1) := by decide +kernel
theorem dX10_isOn_31 : decode cX10_isOn 31 = .ok (.iload_n 2, 1) := by decide +kernel
theorem dX10_isOn_32 : decode cX10_isOn 32 = .ok (.if_icmp .ne 28, 3) := by decide +kernel
theorem dX10_isOn_35 : decode cX10_isOn 35 = .ok (.aload_n 0, 1) := by decide +kernel
theorem dX10_isOn_36 : decode cX10_isOn 36 = .ok (.getfield 47, 3) := by decide +kernel
theorem dX10_isOn_39 : decode cX10_isOn 39 = .ok (.iload 5, 2) := by decide +kernel
theorem dX10_isOn_41 : decode cX10_isOn 41 = .ok (.iaload, 1) := by decide +kernel
theorem dX10_isOn_42 : decode cX10_isOn 42 = .ok (.iload_n 3, 1) := by decide +kernel
theorem dX10_isOn_43 : decode cX10_isOn 43 = .ok (.if_icmp .ne 17, 3) := by decide +kernel
theorem dX10_isOn_46 : decode cX10_isOn 46 = .ok (.aload_n 0, 1) := by decide +kernel
theorem dX10_isOn_47 : decode cX10_isOn 47 = .ok (.getfield 50, 3) := by decide +kernel
theorem dX10_isOn_50 : decode cX10_isOn 50 = .ok (.iload 5, 2) := by decide +kernel
theorem dX10_isOn_52 : decode cX10_isOn 52 = .ok (.iaload, 1) := by decide +kernel
theorem dX10_isOn_53 : decode cX10_isOn 53 = .ok (.iload 4, 2) := by decide +kernel
theorem dX10_isOn_55 : decode cX10_isOn 55 = .ok (.if_icmp .ne 5, 3) := by decide +kernel
theorem dX10_isOn_58 : decode cX10_isOn 58 = .ok (.iconst 1, 1) := by decide +kernel
theorem dX10_isOn_59 : decode cX10_isOn 59 = .ok (.ireturn, 1) := by decide +kernel
theorem dX10_isOn_60 : decode cX10_isOn 60 = .ok (.iinc 5 1, 3) := by decide +kernel
theorem dX10_isOn_63 : decode cX10_isOn 63 = .ok (.goto (-56), 3) := by decide +kernel
theorem dX10_isOn_66 : decode cX10_isOn 66 = .ok (.iconst 0, 1) := by decide +kernel
theorem dX10_isOn_67 : decode cX10_isOn 67 = .ok (.ireturn, 1) := by decide +kernel
theorem dX10_isIntact_0 : decode cX10_isIntact 0 = .ok (.iconst 0, 1) := by decide +kernel
theorem dX10_isIntact_1 : decode cX10_isIntact 1 = .ok (.istore 5, 2) := by decide +kernel
theorem dX10_isIntact_3 : decode cX10_isIntact 3 = .ok (.iload 5, 2) := by decide +kernel
theorem dX10_isIntact_5 : decode cX10_isIntact 5 = .ok (.aload_n 0, 1) := by decide +kernel
theorem dX10_isIntact_6 : decode cX10_isIntact 6 = .ok (.getfield 89, 3) := by decide +kernel
theorem dX10_isIntact_9 : decode cX10_isIntact 9 = .ok (.if_icmp .ge 40, 3) := by decide +kernel
theorem dX10_isIntact_12 : decode cX10_isIntact 12 = .ok (.iload 5, 2) := by decide +kernel
theorem dX10_isIntact_14 : decode cX10_isIntact 14 = .ok (.iload 4, 2) := by decide +kernel
theorem dX10_isIntact_16 : decode cX10_isIntact 16 = .ok (.if_icmp .eq 27, 3) := by decide +kernel
theorem dX10_isIntact_19 : decode cX10_isIntact 19 = .ok (.aload_n 0, 1) := by decide +kernel
theorem dX10_isIntact_20 : decode cX10_isIntact 20 = .ok (.getfield 38, 3) := by decide +kernel
theorem dX10_isIntact_23 : decode cX10_isIntact 23 = .ok (.iload 5, 2) := by decide +kernel
theorem dX10_isIntact_25 : decode cX10_isIntact 25 = .ok (.iaload, 1) := by decide +kernel
theorem dX10_isIntact_26 : decode cX10_isIntact 26 = .ok (.ifCond .ne 17, 3) := by decide +kernel
theorem dX10_isIntact_29 : decode cX10_isIntact 29 = .ok (.aload_n 0, 1) := by decide +kernel
theorem dX10_isIntact_30 : decode cX10_isIntact 30 = .ok (.iload 5, 2) := by decide +kernel
theorem dX10_isIntact_32 : decode cX10_isIntact 32 = .ok (.iload_n 1, 1) := by decide +kernel
theorem dX10_isIntact_33 : decode cX10_isIntact 33 = .ok (.iload_n 2, 1) := by decide +kernel
theorem dX10_isIntact_34 : decode cX10_isIntact 34 = .ok (.iload_n 3, 1) := by decide +kernel
theorem dX10_isIntact_35 : decode cX10_isIntact 35 = .ok (.invokevirtual 135, 3) := by decide +kernel
theorem dX10_isIntact_38 : decode cX10_isIntact 38 = .ok (.ifCond .eq 5, 3) := by decide +kernel
theorem dX10_isIntact_41 : decode cX10_isIntact 41 = .ok (.iconst 1, 1) := by decide +kernel
theorem dX10_isIntact_42 : decode cX10_isIntact 42 = .ok (.ireturn, 1) := by decide +kernel
theorem dX10_isIntact_43 : decode cX10_isIntact 43 = .ok (.iinc 5 1, 3) := by decide +kernel
theorem dX10_isIntact_46 : decode cX10_isIntact 46 = .ok (.goto (-43), 3) := by decide +kernel
theorem dX10_isIntact_49 : decode cX10_isIntact 49 = .ok (.iconst 0, 1) := by decide +kernel
theorem dX10_isIntact_50 : decode cX10_isIntact 50 = .ok (.ireturn, 1) := by decide +kernel
theorem dX10_isReadable_0 : decode cX10_isReadable 0 = .ok (.bipush 21, 2) := by decide +kernel
theorem dX10_isReadable_2 : decode cX10_isReadable 2 = .ok (.iload_n 1, 1) := by decide +kernel
theorem dX10_isReadable_3 : decode cX10_isReadable 3 = .ok (.iadd, 1) := by decide +kernel
theorem dX10_isReadable_4 : decode cX10_isReadable 4 = .ok (.istore_n 3, 1) := by decide +kernel
theorem dX10_isReadable_5 : decode cX10_isReadable 5 = .ok (.aload_n 0, 1) := by decide +kernel
theorem dX10_isReadable_6 : decode cX10_isReadable 6 = .ok (.getfield 16, 3) := by decide +kernel
theorem dX10_isReadable_9 : decode cX10_isReadable 9 = .ok (.iload_n 1, 1) := by decide +kernel
theorem dX10_isReadable_10 : decode cX10_isReadable 10 = .ok (.iaload, 1) := by decide +kernel
theorem dX10_isReadable_11 : decode cX10_isReadable 11 = .ok (.iconst (-1), 1) := by decide +kernel
theorem dX10_isReadable_12 : decode cX10_isReadable 12 = .ok (.if_icmp .eq 24, 3) := by decide +kernel
theorem dX10_isReadable_15 : decode cX10_isReadable 15 = .ok (.aload_n 0, 1) := by decide +kernel
theorem dX10_isReadable_16 : decode cX10_isReadable 16 = .ok (.iconst 1, 1) := by decide +kernel
theorem dX10_isReadable_17 : decode cX10_isReadable 17 = .ok (.aload_n 0, 1) := by decide +kernel
theorem dX10_isReadable_18 : decode cX10_isReadable 18 = .ok (.getfield 16, 3) := by decide +kernel
theorem dX10_isReadable_21 : decode cX10_isReadable 21 = .ok (.iload_n 1, 1) := by decide +kernel
theorem dX10_isReadable_22 : decode cX10_isReadable 22 = .ok (.iaload, 1) := by decide +kernel
theorem dX10_isReadable_23 : decode cX10_isReadable 23 = .ok (.aload_n 0, 1) := by decide +kernel
theorem dX10_isReadable_24 : decode cX10_isReadable 24 = .ok (.getfield 7, 3) := by decide +kernel
theorem dX10_isReadable_27 : decode cX10_isReadable 27 = .ok (.iload_n 3, 1) := by decide +kernel
theorem dX10_isReadable_28 : decode cX10_isReadable 28 = .ok (.iaload, 1) := by decide +kernel
theorem dX10_isReadable_29 : decode cX10_isReadable 29 = .ok (.iload_n 2, 1) := by decide +kernel
theorem dX10_isReadable_30 : decode cX10_isReadable 30 = .ok (.invokevirtual 139, 3) := by decide +kernel
theorem dX10_isReadable_33 : decode cX10_isReadable 33 = .ok (.ifCond .ne 5, 3) := by decide +kernel
theorem dX10_isReadable_36 : decode cX10_isReadable 36 = .ok (.iconst 0, 1) := by decide +kernel
theorem dX10_isReadable_37 : decode cX10_isReadable 37 = .ok (.ireturn, 1) := by decide +kernel
theorem dX10_isReadable_38 : decode cX10_isReadable 38 = .ok (.iload_n 3, 1) := by decide +kernel
theorem dX10_isReadable_39 : decode cX10_isReadable 39 = .ok (.ifCond .le 37, 3) := by decide +kernel
theorem dX10_isReadable_42 : decode cX10_isReadable 42 = .ok (.aload_n 0, 1) := by decide +kernel
theorem dX10_isReadable_43 : decode cX10_isReadable 43 = .ok (.iconst 0, 1) := by decide +kernel
theorem dX10_isReadable_44 : decode cX10_isReadable 44 = .ok (.aload_n 0, 1) := by decide +kernel
theorem dX10_isReadable_45 : decode cX10_isReadable 45 = .ok (.getfield 7, 3) := by decide +kernel
theorem dX10_isReadable_48 : decode cX10_isReadable 48 = .ok (.iload_n 3, 1) := by decide +kernel
theorem dX10_isReadable_49 : decode cX10_isReadable 49 = .ok (.iaload, 1) := by decide +kernel
theorem dX10_isReadable_50 : decode cX10_isReadable 50 = .ok (.aload_n 0, 1) := by decide +kernel
theorem dX10_isReadable_51 : decode cX10_isReadable 51 = .ok (.getfield 7, 3) := by decide +kernel
theorem dX10_isReadable_54 : decode cX10_isReadable 54 = .ok (.iload_n 3, 1) := by decide +kernel
theorem dX10_isReadable_55 : decode cX10_isReadable 55 = .ok (.invokestatic 112, 3) := by decide +kernel
theorem dX10_isReadable_58 : decode cX10_isReadable 58 = .ok (.iaload, 1) := by decide +kernel
theorem dX10_isReadable_59 : decode cX10_isReadable 59 = .ok (.iload_n 2, 1) := by decide +kernel
theorem dX10_isReadable_60 : decode cX10_isReadable 60 = .ok (.invokevirtual 139, 3) := by decide +kernel
theorem dX10_isReadable_63 : decode cX10_isReadable 63 = .ok (.ifCond .ne 5, 3) := by decide +kernel
theorem dX10_isReadable_66 : decode cX10_isReadable 66 = .ok (.iconst 0, 1) := by decide +kernel
theorem dX10_isReadable_67 : decode cX10_isReadable 67 = .ok (.ireturn, 1) := by decide +kernel
theorem dX10_isReadable_68 : decode cX10_isReadable 68 = .ok (.iload_n 3, 1) := by decide +kernel
theorem dX10_isReadable_69 : decode cX10_isReadable 69 = .ok (.invokestatic 112, 3) := by decide +kernel
theorem dX10_isReadable_72 : decode cX10_isReadable 72 = .ok (.istore_n 3, 1) := by decide +kernel
theorem dX10_isReadable_73 : decode cX10_isReadable 73 = .ok (.goto (-35), 3) := by decide +kernel
theorem dX10_isReadable_76 : decode cX10_isReadable 76 = .ok (.iconst 1, 1) := by decide +kernel
theorem dX10_isReadable_77 : decode cX10_isReadable 77 = .ok (.ireturn, 1) := by decide +kernel
theorem dX10_losesBy_0 : decode cX10_losesBy 0 = .ok (.iconst 0, 1) := by decide +kernel
theorem dX10_losesBy_1 : decode cX10_losesBy 1 = .ok (.istore_n 2, 1) := by decide +kernel
theorem dX10_losesBy_2 : decode cX10_losesBy 2 = .ok (.iconst 0, 1) := by decide +kernel
theorem dX10_losesBy_3 : decode cX10_losesBy 3 = .ok (.istore_n 3, 1) := by decide +kernel
theorem dX10_losesBy_4 : decode cX10_losesBy 4 = .ok (.iload_n 3, 1) := by decide +kernel
theorem dX10_losesBy_5 : decode cX10_losesBy 5 = .ok (.bipush 64, 2) := by decide +kernel
theorem dX10_losesBy_7 : decode cX10_losesBy 7 = .ok (.if_icmp .ge 35, 3) := by decide +kernel
theorem dX10_losesBy_10 : decode cX10_losesBy 10 = .ok (.iload_n 2, 1) := by decide +kernel
theorem dX10_losesBy_11 : decode cX10_losesBy 11 = .ok (.aload_n 0, 1) := by decide +kernel
theorem dX10_losesBy_12 : decode cX10_losesBy 12 = .ok (.iload_n 3, 1) := by decide +kernel
theorem dX10_losesBy_13 : decode cX10_losesBy 13 = .ok (.iconst (-1), 1) := by decide +kernel
theorem dX10_losesBy_14 : decode cX10_losesBy 14 = .ok (.invokevirtual 142, 3) := by decide +kernel
theorem dX10_losesBy_17 : decode cX10_losesBy 17 = .ok (.ifCond .eq 16, 3) := by decide +kernel
theorem dX10_losesBy_20 : decode cX10_losesBy 20 = .ok (.aload_n 0, 1) := by decide +kernel
theorem dX10_losesBy_21 : decode cX10_losesBy 21 = .ok (.iload_n 3, 1) := by decide +kernel
theorem dX10_losesBy_22 : decode cX10_losesBy 22 = .ok (.iload_n 1, 1) := by decide +kernel
theorem dX10_losesBy_23 : decode cX10_losesBy 23 = .ok (.invokevirtual 142, 3) := by decide +kernel
theorem dX10_losesBy_26 : decode cX10_losesBy 26 = .ok (.ifCond .ne 7, 3) := by decide +kernel
theorem dX10_losesBy_29 : decode cX10_losesBy 29 = .ok (.iconst 1, 1) := by decide +kernel
theorem dX10_losesBy_30 : decode cX10_losesBy 30 = .ok (.goto 4, 3) := by decide +kernel
theorem dX10_losesBy_33 : decode cX10_losesBy 33 = .ok (.iconst 0, 1) := by decide +kernel
theorem dX10_losesBy_34 : decode cX10_losesBy 34 = .ok (.iadd, 1) := by decide +kernel
theorem dX10_losesBy_35 : decode cX10_losesBy 35 = .ok (.istore_n 2, 1) := by decide +kernel
theorem dX10_losesBy_36 : decode cX10_losesBy 36 = .ok (.iinc 3 1, 3) := by decide +kernel
theorem dX10_losesBy_39 : decode cX10_losesBy 39 = .ok (.goto (-35), 3) := by decide +kernel
theorem dX10_losesBy_42 : decode cX10_losesBy 42 = .ok (.iload_n 2, 1) := by decide +kernel
theorem dX10_losesBy_43 : decode cX10_losesBy 43 = .ok (.ireturn, 1) := by decide +kernel
theorem dX10_has_0 : decode cX10_has 0 = .ok (.iconst 0, 1) := by decide +kernel
theorem dX10_has_1 : decode cX10_has 1 = .ok (.istore_n 2, 1) := by decide +kernel
theorem dX10_has_2 : decode cX10_has 2 = .ok (.iload_n 2, 1) := by decide +kernel
theorem dX10_has_3 : decode cX10_has 3 = .ok (.aload_n 0, 1) := by decide +kernel
theorem dX10_has_4 : decode cX10_has 4 = .ok (.getfield 146, 3) := by decide +kernel
theorem dX10_has_7 : decode cX10_has 7 = .ok (.if_icmp .ge 21, 3) := by decide +kernel
theorem dX10_has_10 : decode cX10_has 10 = .ok (.aload_n 0, 1) := by decide +kernel
theorem dX10_has_11 : decode cX10_has 11 = .ok (.getfield 72, 3) := by decide +kernel
theorem dX10_has_14 : decode cX10_has 14 = .ok (.iload_n 2, 1) := by decide +kernel
theorem dX10_has_15 : decode cX10_has 15 = .ok (.iaload, 1) := by decide +kernel
theorem dX10_has_16 : decode cX10_has 16 = .ok (.iload_n 1, 1) := by decide +kernel
theorem dX10_has_17 : decode cX10_has 17 = .ok (.if_icmp .ne 5, 3) := by decide +kernel
theorem dX10_has_20 : decode cX10_has 20 = .ok (.iconst 1, 1) := by decide +kernel
theorem dX10_has_21 : decode cX10_has 21 = .ok (.ireturn, 1) := by decide +kernel
theorem dX10_has_22 : decode cX10_has 22 = .ok (.iinc 2 1, 3) := by decide +kernel
theorem dX10_has_25 : decode cX10_has 25 = .ok (.goto (-23), 3) := by decide +kernel
theorem dX10_has_28 : decode cX10_has 28 = .ok (.iconst 0, 1) := by decide +kernel
theorem dX10_has_29 : decode cX10_has 29 = .ok (.ireturn, 1) := by decide +kernel
theorem dX10_adds_0 : decode cX10_adds 0 = .ok (.aload_n 0, 1) := by decide +kernel
theorem dX10_adds_1 : decode cX10_adds 1 = .ok (.iload_n 1, 1) := by decide +kernel
theorem dX10_adds_2 : decode cX10_adds 2 = .ok (.invokevirtual 149, 3) := by decide +kernel
theorem dX10_adds_5 : decode cX10_adds 5 = .ok (.ifCond .eq 4, 3) := by decide +kernel
theorem dX10_adds_8 : decode cX10_adds 8 = .ok (.return_, 1) := by decide +kernel
theorem dX10_adds_9 : decode cX10_adds 9 = .ok (.aload_n 0, 1) := by decide +kernel
theorem dX10_adds_10 : decode cX10_adds 10 = .ok (.getfield 72, 3) := by decide +kernel
theorem dX10_adds_13 : decode cX10_adds 13 = .ok (.aload_n 0, 1) := by decide +kernel
theorem dX10_adds_14 : decode cX10_adds 14 = .ok (.getfield 146, 3) := by decide +kernel
theorem dX10_adds_17 : decode cX10_adds 17 = .ok (.iload_n 1, 1) := by decide +kernel
theorem dX10_adds_18 : decode cX10_adds 18 = .ok (.iastore, 1) := by decide +kernel
theorem dX10_adds_19 : decode cX10_adds 19 = .ok (.aload_n 0, 1) := by decide +kernel
theorem dX10_adds_20 : decode cX10_adds 20 = .ok (.dup, 1) := by decide +kernel
theorem dX10_adds_21 : decode cX10_adds 21 = .ok (.getfield 146, 3) := by decide +kernel
theorem dX10_adds_24 : decode cX10_adds 24 = .ok (.iconst 1, 1) := by decide +kernel
theorem dX10_adds_25 : decode cX10_adds 25 = .ok (.iadd, 1) := by decide +kernel
theorem dX10_adds_26 : decode cX10_adds 26 = .ok (.putfield 146, 3) := by decide +kernel
theorem dX10_adds_29 : decode cX10_adds 29 = .ok (.return_, 1) := by decide +kernel
theorem dX10_addsFor_0 : decode cX10_addsFor 0 = .ok (.iconst 0, 1) := by decide +kernel
theorem dX10_addsFor_1 : decode cX10_addsFor 1 = .ok (.istore_n 2, 1) := by decide +kernel
theorem dX10_addsFor_2 : decode cX10_addsFor 2 = .ok (.iload_n 2, 1) := by decide +kernel
theorem dX10_addsFor_3 : decode cX10_addsFor 3 = .ok (.aload_n 0, 1) := by decide +kernel
theorem dX10_addsFor_4 : decode cX10_addsFor 4 = .ok (.getfield 89, 3) := by decide +kernel
theorem dX10_addsFor_7 : decode cX10_addsFor 7 = .ok (.if_icmp .ge 77, 3) := by decide +kernel
theorem dX10_addsFor_10 : decode cX10_addsFor 10 = .ok (.sipush 150, 3) := by decide +kernel
theorem dX10_addsFor_13 : decode cX10_addsFor 13 = .ok (.iload_n 2, 1) := by decide +kernel
theorem dX10_addsFor_14 : decode cX10_addsFor 14 = .ok (.imul, 1) := by decide +kernel
theorem dX10_addsFor_15 : decode cX10_addsFor 15 = .ok (.istore_n 3, 1) := by decide +kernel
theorem dX10_addsFor_16 : decode cX10_addsFor 16 = .ok (.aload_n 0, 1) := by decide +kernel
theorem dX10_addsFor_17 : decode cX10_addsFor 17 = .ok (.getfield 38, 3) := by decide +kernel
theorem dX10_addsFor_20 : decode cX10_addsFor 20 = .ok (.iload_n 2, 1) := by decide +kernel
theorem dX10_addsFor_21 : decode cX10_addsFor 21 = .ok (.iaload, 1) := by decide +kernel
theorem dX10_addsFor_22 : decode cX10_addsFor 22 = .ok (.iconst 2, 1) := by decide +kernel
theorem dX10_addsFor_23 : decode cX10_addsFor 23 = .ok (.if_icmp .eq 55, 3) := by decide +kernel
theorem dX10_addsFor_26 : decode cX10_addsFor 26 = .ok (.iload_n 3, 1) := by decide +kernel
theorem dX10_addsFor_27 : decode cX10_addsFor 27 = .ok (.sipush 150, 3) := by decide +kernel
theorem dX10_addsFor_30 : decode cX10_addsFor 30 = .ok (.iload_n 2, 1) := by decide +kernel
theorem dX10_addsFor_31 : decode cX10_addsFor 31 = .ok (.imul, 1) := by decide +kernel
theorem dX10_addsFor_32 : decode cX10_addsFor 32 = .ok (.aload_n 0, 1) := by decide +kernel
theorem dX10_addsFor_33 : decode cX10_addsFor 33 = .ok (.getfield 41, 3) := by decide +kernel
theorem dX10_addsFor_36 : decode cX10_addsFor 36 = .ok (.iload_n 2, 1) := by decide +kernel
theorem dX10_addsFor_37 : decode cX10_addsFor 37 = .ok (.iaload, 1) := by decide +kernel
theorem dX10_addsFor_38 : decode cX10_addsFor 38 = .ok (.iadd, 1) := by decide +kernel
theorem dX10_addsFor_39 : decode cX10_addsFor 39 = .ok (.if_icmp .ge 39, 3) := by decide +kernel
theorem dX10_addsFor_42 : decode cX10_addsFor 42 = .ok (.aload_n 0, 1) := by decide +kernel
theorem dX10_addsFor_43 : decode cX10_addsFor 43 = .ok (.getfield 44, 3) := by decide +kernel
theorem dX10_addsFor_46 : decode cX10_addsFor 46 = .ok (.iload_n 3, 1) := by decide +kernel
theorem dX10_addsFor_47 : decode cX10_addsFor 47 = .ok (.iaload, 1) := by decide +kernel
theorem dX10_addsFor_48 : decode cX10_addsFor 48 = .ok (.iconst 1, 1) := by decide +kernel
theorem dX10_addsFor_49 : decode cX10_addsFor 49 = .ok (.if_icmp .ne 23, 3) := by decide +kernel
theorem dX10_addsFor_52 : decode cX10_addsFor 52 = .ok (.aload_n 0, 1) := by decide +kernel
theorem dX10_addsFor_53 : decode cX10_addsFor 53 = .ok (.getfield 47, 3) := by decide +kernel
theorem dX10_addsFor_56 : decode cX10_addsFor 56 = .ok (.iload_n 3, 1) := by decide +kernel
theorem dX10_addsFor_57 : decode cX10_addsFor 57 = .ok (.iaload, 1) := by decide +kernel
theorem dX10_addsFor_58 : decode cX10_addsFor 58 = .ok (.iload_n 1, 1) := by decide +kernel
theorem dX10_addsFor_59 : decode cX10_addsFor 59 = .ok (.if_icmp .ne 13, 3) := by decide +kernel
theorem dX10_addsFor_62 : decode cX10_addsFor 62 = .ok (.aload_n 0, 1) := by decide +kernel
theorem dX10_addsFor_63 : decode cX10_addsFor 63 = .ok (.aload_n 0, 1) := by decide +kernel
theorem dX10_addsFor_64 : decode cX10_addsFor 64 = .ok (.getfield 50, 3) := by decide +kernel
theorem dX10_addsFor_67 : decode cX10_addsFor 67 = .ok (.iload_n 3, 1) := by decide +kernel
theorem dX10_addsFor_68 : decode cX10_addsFor 68 = .ok (.iaload, 1) := by decide +kernel
theorem dX10_addsFor_69 : decode cX10_addsFor 69 = .ok (.invokevirtual 153, 3) := by decide +kernel
theorem dX10_addsFor_72 : decode cX10_addsFor 72 = .ok (.iinc 3 1, 3) := by decide +kernel
theorem dX10_addsFor_75 : decode cX10_addsFor 75 = .ok (.goto (-59), 3) := by decide +kernel
theorem dX10_addsFor_78 : decode cX10_addsFor 78 = .ok (.iinc 2 1, 3) := by decide +kernel
theorem dX10_addsFor_81 : decode cX10_addsFor 81 = .ok (.goto (-79), 3) := by decide +kernel
theorem dX10_addsFor_84 : decode cX10_addsFor 84 = .ok (.return_, 1) := by decide +kernel
theorem dX10_grows_0 : decode cX10_grows 0 = .ok (.iconst (-1), 1) := by decide +kernel
theorem dX10_grows_1 : decode cX10_grows 1 = .ok (.istore_n 2, 1) := by decide +kernel
theorem dX10_grows_2 : decode cX10_grows 2 = .ok (.iload_n 2, 1) := by decide +kernel
theorem dX10_grows_3 : decode cX10_grows 3 = .ok (.aload_n 0, 1) := by decide +kernel
theorem dX10_grows_4 : decode cX10_grows 4 = .ok (.getfield 146, 3) := by decide +kernel
theorem dX10_grows_7 : decode cX10_grows 7 = .ok (.if_icmp .eq 130, 3) := by decide +kernel
theorem dX10_grows_10 : decode cX10_grows 10 = .ok (.aload_n 0, 1) := by decide +kernel
theorem dX10_grows_11 : decode cX10_grows 11 = .ok (.getfield 146, 3) := by decide +kernel
theorem dX10_grows_14 : decode cX10_grows 14 = .ok (.istore_n 2, 1) := by decide +kernel
theorem dX10_grows_15 : decode cX10_grows 15 = .ok (.iconst 0, 1) := by decide +kernel
theorem dX10_grows_16 : decode cX10_grows 16 = .ok (.istore_n 3, 1) := by decide +kernel
theorem dX10_grows_17 : decode cX10_grows 17 = .ok (.iload_n 3, 1) := by decide +kernel
theorem dX10_grows_18 : decode cX10_grows 18 = .ok (.aload_n 0, 1) := by decide +kernel
theorem dX10_grows_19 : decode cX10_grows 19 = .ok (.getfield 89, 3) := by decide +kernel
theorem dX10_grows_22 : decode cX10_grows 22 = .ok (.if_icmp .ge 112, 3) := by decide +kernel
theorem dX10_grows_25 : decode cX10_grows 25 = .ok (.sipush 150, 3) := by decide +kernel
theorem dX10_grows_28 : decode cX10_grows 28 = .ok (.iload_n 3, 1) := by decide +kernel
theorem dX10_grows_29 : decode cX10_grows 29 = .ok (.imul, 1) := by decide +kernel
theorem dX10_grows_30 : decode cX10_grows 30 = .ok (.istore 4, 2) := by decide +kernel
theorem dX10_grows_32 : decode cX10_grows 32 = .ok (.aload_n 0, 1) := by decide +kernel
theorem dX10_grows_33 : decode cX10_grows 33 = .ok (.getfield 38, 3) := by decide +kernel
theorem dX10_grows_36 : decode cX10_grows 36 = .ok (.iload_n 3, 1) := by decide +kernel
theorem dX10_grows_37 : decode cX10_grows 37 = .ok (.iaload, 1) := by decide +kernel
theorem dX10_grows_38 : decode cX10_grows 38 = .ok (.iconst 2, 1) := by decide +kernel
theorem dX10_grows_39 : decode cX10_grows 39 = .ok (.if_icmp .eq 89, 3) := by decide +kernel
theorem dX10_grows_42 : decode cX10_grows 42 = .ok (.iload 4, 2) := by decide +kernel
theorem dX10_grows_44 : decode cX10_grows 44 = .ok (.sipush 150, 3) := by decide +kernel
theorem dX10_grows_47 : decode cX10_grows 47 = .ok (.iload_n 3, 1) := by decide +kernel
theorem dX10_grows_48 : decode cX10_grows 48 = .ok (.imul, 1) := by decide +kernel
theorem dX10_grows_49 : decode cX10_grows 49 = .ok (.aload_n 0, 1) := by decide +kernel
theorem dX10_grows_50 : decode cX10_grows 50 = .ok (.getfield 41, 3) := by decide +kernel
theorem dX10_grows_53 : decode cX10_grows 53 = .ok (.iload_n 3, 1) := by decide +kernel
theorem dX10_grows_54 : decode cX10_grows 54 = .ok (.iaload, 1) := by decide +kernel
theorem dX10_grows_55 : decode cX10_grows 55 = .ok (.iadd, 1) := by decide +kernel
theorem dX10_grows_56 : decode cX10_grows 56 = .ok (.if_icmp .ge 72, 3) := by decide +kernel
theorem dX10_grows_59 : decode cX10_grows 59 = .ok (.aload_n 0, 1) := by decide +kernel
theorem dX10_grows_60 : decode cX10_grows 60 = .ok (.getfield 44, 3) := by decide +kernel
theorem dX10_grows_63 : decode cX10_grows 63 = .ok (.iload 4, 2) := by decide +kernel
theorem dX10_grows_65 : decode cX10_grows 65 = .ok (.iaload, 1) := by decide +kernel
theorem dX10_grows_66 : decode cX10_grows 66 = .ok (.ifCond .ne 56, 3) := by decide +kernel
theorem dX10_grows_69 : decode cX10_grows 69 = .ok (.aload_n 0, 1) := by decide +kernel
theorem dX10_grows_70 : decode cX10_grows 70 = .ok (.iload_n 1, 1) := by decide +kernel
theorem dX10_grows_71 : decode cX10_grows 71 = .ok (.ifCond .eq 13, 3) := by decide +kernel
theorem dX10_grows_74 : decode cX10_grows 74 = .ok (.aload_n 0, 1) := by decide +kernel
theorem dX10_grows_75 : decode cX10_grows 75 = .ok (.getfield 47, 3) := by decide +kernel
theorem dX10_grows_78 : decode cX10_grows 78 = .ok (.iload 4, 2) := by decide +kernel
theorem dX10_grows_80 : decode cX10_grows 80 = .ok (.iaload, 1) := by decide +kernel
theorem dX10_grows_81 : decode cX10_grows 81 = .ok (.goto 10, 3) := by decide +kernel
theorem dX10_grows_84 : decode cX10_grows 84 = .ok (.aload_n 0, 1) := by decide +kernel
theorem dX10_grows_85 : decode cX10_grows 85 = .ok (.getfield 50, 3) := by decide +kernel
theorem dX10_grows_88 : decode cX10_grows 88 = .ok (.iload 4, 2) := by decide +kernel
theorem dX10_grows_90 : decode cX10_grows 90 = .ok (.iaload, 1) := by decide +kernel
theorem dX10_grows_91 : decode cX10_grows 91 = .ok (.invokevirtual 149, 3) := by decide +kernel
theorem dX10_grows_94 : decode cX10_grows 94 = .ok (.ifCond .eq 28, 3) := by decide +kernel
theorem dX10_grows_97 : decode cX10_grows 97 = .ok (.aload_n 0, 1) := by decide +kernel
theorem dX10_grows_98 : decode cX10_grows 98 = .ok (.iload_n 1, 1) := by decide +kernel
theorem dX10_grows_99 : decode cX10_grows 99 = .ok (.ifCond .eq 13, 3) := by decide +kernel
theorem dX10_grows_102 : decode cX10_grows 102 = .ok (.aload_n 0, 1) := by decide +kernel
theorem dX10_grows_103 : decode cX10_grows 103 = .ok (.getfield 50, 3) := by decide +kernel
theorem dX10_grows_106 : decode cX10_grows 106 = .ok (.iload 4, 2) := by decide +kernel
theorem dX10_grows_108 : decode cX10_grows 108 = .ok (.iaload, 1) := by decide +kernel
theorem dX10_grows_109 : decode cX10_grows 109 = .ok (.goto 10, 3) := by decide +kernel
theorem dX10_grows_112 : decode cX10_grows 112 = .ok (.aload_n 0, 1) := by decide +kernel
theorem dX10_grows_113 : decode cX10_grows 113 = .ok (.getfield 47, 3) := by decide +kernel
theorem dX10_grows_116 : decode cX10_grows 116 = .ok (.iload 4, 2) := by decide +kernel
theorem dX10_grows_118 : decode cX10_grows 118 = .ok (.iaload, 1) := by decide +kernel
theorem dX10_grows_119 : decode cX10_grows 119 = .ok (.invokevirtual 153, 3) := by decide +kernel
theorem dX10_grows_122 : decode cX10_grows 122 = .ok (.iinc 4 1, 3) := by decide +kernel
theorem dX10_grows_125 : decode cX10_grows 125 = .ok (.goto (-93), 3) := by decide +kernel
theorem dX10_grows_128 : decode cX10_grows 128 = .ok (.iinc 3 1, 3) := by decide +kernel
theorem dX10_grows_131 : decode cX10_grows 131 = .ok (.goto (-114), 3) := by decide +kernel
theorem dX10_grows_134 : decode cX10_grows 134 = .ok (.goto (-132), 3) := by decide +kernel
theorem dX10_grows_137 : decode cX10_grows 137 = .ok (.return_, 1) := by decide +kernel
theorem dX10_openersOf_0 : decode cX10_openersOf 0 = .ok (.aload_n 0, 1) := by decide +kernel
theorem dX10_openersOf_1 : decode cX10_openersOf 1 = .ok (.iconst 0, 1) := by decide +kernel
theorem dX10_openersOf_2 : decode cX10_openersOf 2 = .ok (.putfield 146, 3) := by decide +kernel
theorem dX10_openersOf_5 : decode cX10_openersOf 5 = .ok (.aload_n 0, 1) := by decide +kernel
theorem dX10_openersOf_6 : decode cX10_openersOf 6 = .ok (.iload_n 1, 1) := by decide +kernel
theorem dX10_openersOf_7 : decode cX10_openersOf 7 = .ok (.invokevirtual 156, 3) := by decide +kernel
theorem dX10_openersOf_10 : decode cX10_openersOf 10 = .ok (.aload_n 0, 1) := by decide +kernel
theorem dX10_openersOf_11 : decode cX10_openersOf 11 = .ok (.iconst 1, 1) := by decide +kernel
theorem dX10_openersOf_12 : decode cX10_openersOf 12 = .ok (.invokevirtual 159, 3) := by decide +kernel
theorem dX10_openersOf_15 : decode cX10_openersOf 15 = .ok (.return_, 1) := by decide +kernel
theorem dX10_emptyTo_0 : decode cX10_emptyTo 0 = .ok (.iconst 0, 1) := by decide +kernel
theorem dX10_emptyTo_1 : decode cX10_emptyTo 1 = .ok (.istore_n 2, 1) := by decide +kernel
theorem dX10_emptyTo_2 : decode cX10_emptyTo 2 = .ok (.iload_n 1, 1) := by decide +kernel
theorem dX10_emptyTo_3 : decode cX10_emptyTo 3 = .ok (.istore_n 3, 1) := by decide +kernel
theorem dX10_emptyTo_4 : decode cX10_emptyTo 4 = .ok (.iload_n 3, 1) := by decide +kernel
theorem dX10_emptyTo_5 : decode cX10_emptyTo 5 = .ok (.ifCond .le 28, 3) := by decide +kernel
theorem dX10_emptyTo_8 : decode cX10_emptyTo 8 = .ok (.iload_n 2, 1) := by decide +kernel
theorem dX10_emptyTo_9 : decode cX10_emptyTo 9 = .ok (.aload_n 0, 1) := by decide +kernel
theorem dX10_emptyTo_10 : decode cX10_emptyTo 10 = .ok (.getfield 7, 3) := by decide +kernel
theorem dX10_emptyTo_13 : decode cX10_emptyTo 13 = .ok (.iload_n 3, 1) := by decide +kernel
theorem dX10_emptyTo_14 : decode cX10_emptyTo 14 = .ok (.iaload, 1) := by decide +kernel
theorem dX10_emptyTo_15 : decode cX10_emptyTo 15 = .ok (.ifCond .ne 7, 3) := by decide +kernel
theorem dX10_emptyTo_18 : decode cX10_emptyTo 18 = .ok (.iconst 1, 1) := by decide +kernel
theorem dX10_emptyTo_19 : decode cX10_emptyTo 19 = .ok (.goto 4, 3) := by decide +kernel
theorem dX10_emptyTo_22 : decode cX10_emptyTo 22 = .ok (.iconst 0, 1) := by decide +kernel
theorem dX10_emptyTo_23 : decode cX10_emptyTo 23 = .ok (.iadd, 1) := by decide +kernel
theorem dX10_emptyTo_24 : decode cX10_emptyTo 24 = .ok (.istore_n 2, 1) := by decide +kernel
theorem dX10_emptyTo_25 : decode cX10_emptyTo 25 = .ok (.iload_n 3, 1) := by decide +kernel
theorem dX10_emptyTo_26 : decode cX10_emptyTo 26 = .ok (.invokestatic 112, 3) := by decide +kernel
theorem dX10_emptyTo_29 : decode cX10_emptyTo 29 = .ok (.istore_n 3, 1) := by decide +kernel
theorem dX10_emptyTo_30 : decode cX10_emptyTo 30 = .ok (.goto (-26), 3) := by decide +kernel
theorem dX10_emptyTo_33 : decode cX10_emptyTo 33 = .ok (.iload_n 2, 1) := by decide +kernel
theorem dX10_emptyTo_34 : decode cX10_emptyTo 34 = .ok (.ireturn, 1) := by decide +kernel
theorem dX10_builds_0 : decode cX10_builds 0 = .ok (.iload_n 1, 1) := by decide +kernel
theorem dX10_builds_1 : decode cX10_builds 1 = .ok (.ifCond .eq 12, 3) := by decide +kernel
theorem dX10_builds_4 : decode cX10_builds 4 = .ok (.aload_n 0, 1) := by decide +kernel
theorem dX10_builds_5 : decode cX10_builds 5 = .ok (.getfield 7, 3) := by decide +kernel
theorem dX10_builds_8 : decode cX10_builds 8 = .ok (.iload_n 1, 1) := by decide +kernel
theorem dX10_builds_9 : decode cX10_builds 9 = .ok (.iaload, 1) := by decide +kernel
theorem dX10_builds_10 : decode cX10_builds 10 = .ok (.ifCond .eq 4, 3) := by decide +kernel
theorem dX10_builds_13 : decode cX10_builds 13 = .ok (.return_, 1) := by decide +kernel
theorem dX10_builds_14 : decode cX10_builds 14 = .ok (.aload_n 0, 1) := by decide +kernel
theorem dX10_builds_15 : decode cX10_builds 15 = .ok (.iload_n 1, 1) := by decide +kernel
theorem dX10_builds_16 : decode cX10_builds 16 = .ok (.invokestatic 112, 3) := by decide +kernel
theorem dX10_builds_19 : decode cX10_builds 19 = .ok (.invokevirtual 163, 3) := by decide +kernel
theorem dX10_builds_22 : decode cX10_builds 22 = .ok (.aload_n 0, 1) := by decide +kernel
theorem dX10_builds_23 : decode cX10_builds 23 = .ok (.getfield 7, 3) := by decide +kernel
theorem dX10_builds_26 : decode cX10_builds 26 = .ok (.iload_n 1, 1) := by decide +kernel
theorem dX10_builds_27 : decode cX10_builds 27 = .ok (.aload_n 0, 1) := by decide +kernel
theorem dX10_builds_28 : decode cX10_builds 28 = .ok (.invokevirtual 101, 3) := by decide +kernel
theorem dX10_builds_31 : decode cX10_builds 31 = .ok (.iastore, 1) := by decide +kernel
theorem dX10_builds_32 : decode cX10_builds 32 = .ok (.aload_n 0, 1) := by decide +kernel
theorem dX10_builds_33 : decode cX10_builds 33 = .ok (.aload_n 0, 1) := by decide +kernel
theorem dX10_builds_34 : decode cX10_builds 34 = .ok (.getfield 7, 3) := by decide +kernel
theorem dX10_builds_37 : decode cX10_builds 37 = .ok (.iload_n 1, 1) := by decide +kernel
theorem dX10_builds_38 : decode cX10_builds 38 = .ok (.iaload, 1) := by decide +kernel
theorem dX10_builds_39 : decode cX10_builds 39 = .ok (.aload_n 0, 1) := by decide +kernel
theorem dX10_builds_40 : decode cX10_builds 40 = .ok (.getfield 7, 3) := by decide +kernel
theorem dX10_builds_43 : decode cX10_builds 43 = .ok (.iload_n 1, 1) := by decide +kernel
theorem dX10_builds_44 : decode cX10_builds 44 = .ok (.invokestatic 112, 3) := by decide +kernel
theorem dX10_builds_47 : decode cX10_builds 47 = .ok (.iaload, 1) := by decide +kernel
theorem dX10_builds_48 : decode cX10_builds 48 = .ok (.invokevirtual 166, 3) := by decide +kernel
theorem dX10_builds_51 : decode cX10_builds 51 = .ok (.return_, 1) := by decide +kernel
theorem dX10_store_0 : decode cX10_store 0 = .ok (.aload_n 0, 1) := by decide +kernel
theorem dX10_store_1 : decode cX10_store 1 = .ok (.iload_n 1, 1) := by decide +kernel
theorem dX10_store_2 : decode cX10_store 2 = .ok (.invokestatic 170, 3) := by decide +kernel
theorem dX10_store_5 : decode cX10_store 5 = .ok (.ifCond .eq 7, 3) := by decide +kernel
theorem dX10_store_8 : decode cX10_store 8 = .ok (.iconst 0, 1) := by decide +kernel
theorem dX10_store_9 : decode cX10_store 9 = .ok (.goto 4, 3) := by decide +kernel
theorem dX10_store_12 : decode cX10_store 12 = .ok (.iconst 1, 1) := by decide +kernel
theorem dX10_store_13 : decode cX10_store 13 = .ok (.putfield 82, 3) := by decide +kernel
theorem dX10_store_16 : decode cX10_store 16 = .ok (.aload_n 0, 1) := by decide +kernel
theorem dX10_store_17 : decode cX10_store 17 = .ok (.getfield 82, 3) := by decide +kernel
theorem dX10_store_20 : decode cX10_store 20 = .ok (.ifCond .le 5, 3) := by decide +kernel
theorem dX10_store_23 : decode cX10_store 23 = .ok (.iconst 0, 1) := by decide +kernel
theorem dX10_store_24 : decode cX10_store 24 = .ok (.ireturn, 1) := by decide +kernel
theorem dX10_store_25 : decode cX10_store 25 = .ok (.bipush 21, 2) := by decide +kernel
theorem dX10_store_27 : decode cX10_store 27 = .ok (.iload_n 1, 1) := by decide +kernel
theorem dX10_store_28 : decode cX10_store 28 = .ok (.iadd, 1) := by decide +kernel
theorem dX10_store_29 : decode cX10_store 29 = .ok (.istore 4, 2) := by decide +kernel
theorem dX10_store_31 : decode cX10_store 31 = .ok (.aload_n 0, 1) := by decide +kernel
theorem dX10_store_32 : decode cX10_store 32 = .ok (.aload_n 0, 1) := by decide +kernel
theorem dX10_store_33 : decode cX10_store 33 = .ok (.getfield 16, 3) := by decide +kernel
theorem dX10_store_36 : decode cX10_store 36 = .ok (.iload_n 1, 1) := by decide +kernel
theorem dX10_store_37 : decode cX10_store 37 = .ok (.iaload, 1) := by decide +kernel
theorem dX10_store_38 : decode cX10_store 38 = .ok (.iconst (-1), 1) := by decide +kernel
theorem dX10_store_39 : decode cX10_store 39 = .ok (.if_icmp .ne 33, 3) := by decide +kernel
theorem dX10_store_42 : decode cX10_store 42 = .ok (.aload_n 0, 1) := by decide +kernel
theorem dX10_store_43 : decode cX10_store 43 = .ok (.getfield 95, 3) := by decide +kernel
theorem dX10_store_46 : decode cX10_store 46 = .ok (.sipush 200, 3) := by decide +kernel
theorem dX10_store_49 : decode cX10_store 49 = .ok (.if_icmp .eq 23, 3) := by decide +kernel
theorem dX10_store_52 : decode cX10_store 52 = .ok (.aload_n 0, 1) := by decide +kernel
theorem dX10_store_53 : decode cX10_store 53 = .ok (.aload_n 0, 1) := by decide +kernel
theorem dX10_store_54 : decode cX10_store 54 = .ok (.iconst (-1), 1) := by decide +kernel
theorem dX10_store_55 : decode cX10_store 55 = .ok (.invokevirtual 123, 3) := by decide +kernel
theorem dX10_store_58 : decode cX10_store 58 = .ok (.aload_n 0, 1) := by decide +kernel
theorem dX10_store_59 : decode cX10_store 59 = .ok (.iload 4, 2) := by decide +kernel
theorem dX10_store_61 : decode cX10_store 61 = .ok (.invokevirtual 173, 3) := by decide +kernel
theorem dX10_store_64 : decode cX10_store 64 = .ok (.iconst 1, 1) := by decide +kernel
theorem dX10_store_65 : decode cX10_store 65 = .ok (.iadd, 1) := by decide +kernel
theorem dX10_store_66 : decode cX10_store 66 = .ok (.invokevirtual 176, 3) := by decide +kernel
theorem dX10_store_69 : decode cX10_store 69 = .ok (.ifCond .ne 7, 3) := by decide +kernel
theorem dX10_store_72 : decode cX10_store 72 = .ok (.iconst 2, 1) := by decide +kernel
theorem dX10_store_73 : decode cX10_store 73 = .ok (.goto 4, 3) := by decide +kernel
theorem dX10_store_76 : decode cX10_store 76 = .ok (.iconst 0, 1) := by decide +kernel
theorem dX10_store_77 : decode cX10_store 77 = .ok (.putfield 82, 3) := by decide +kernel
theorem dX10_store_80 : decode cX10_store 80 = .ok (.aload_n 0, 1) := by decide +kernel
theorem dX10_store_81 : decode cX10_store 81 = .ok (.getfield 82, 3) := by decide +kernel
theorem dX10_store_84 : decode cX10_store 84 = .ok (.ifCond .le 5, 3) := by decide +kernel
theorem dX10_store_87 : decode cX10_store 87 = .ok (.iconst 0, 1) := by decide +kernel
theorem dX10_store_88 : decode cX10_store 88 = .ok (.ireturn, 1) := by decide +kernel
theorem dX10_store_89 : decode cX10_store 89 = .ok (.aload_n 0, 1) := by decide +kernel
theorem dX10_store_90 : decode cX10_store 90 = .ok (.iload 4, 2) := by decide +kernel
theorem dX10_store_92 : decode cX10_store 92 = .ok (.invokevirtual 163, 3) := by decide +kernel
theorem dX10_store_95 : decode cX10_store 95 = .ok (.aload_n 0, 1) := by decide +kernel
theorem dX10_store_96 : decode cX10_store 96 = .ok (.aload_n 0, 1) := by decide +kernel
theorem dX10_store_97 : decode cX10_store 97 = .ok (.iconst (-1), 1) := by decide +kernel
theorem dX10_store_98 : decode cX10_store 98 = .ok (.invokevirtual 123, 3) := by decide +kernel
theorem dX10_store_101 : decode cX10_store 101 = .ok (.iconst 1, 1) := by decide +kernel
theorem dX10_store_102 : decode cX10_store 102 = .ok (.aload_n 0, 1) := by decide +kernel
theorem dX10_store_103 : decode cX10_store 103 = .ok (.getfield 95, 3) := by decide +kernel
theorem dX10_store_106 : decode cX10_store 106 = .ok (.aload_n 0, 1) := by decide +kernel
theorem dX10_store_107 : decode cX10_store 107 = .ok (.getfield 7, 3) := by decide +kernel
theorem dX10_store_110 : decode cX10_store 110 = .ok (.iload 4, 2) := by decide +kernel
theorem dX10_store_112 : decode cX10_store 112 = .ok (.iaload, 1) := by decide +kernel
theorem dX10_store_113 : decode cX10_store 113 = .ok (.lload_n 2, 1) := by decide +kernel
theorem dX10_store_114 : decode cX10_store 114 = .ok (.aload_n 0, 1) := by decide +kernel
theorem dX10_store_115 : decode cX10_store 115 = .ok (.aload_n 0, 1) := by decide +kernel
theorem dX10_store_116 : decode cX10_store 116 = .ok (.getfield 7, 3) := by decide +kernel
theorem dX10_store_119 : decode cX10_store 119 = .ok (.iload 4, 2) := by decide +kernel
theorem dX10_store_121 : decode cX10_store 121 = .ok (.iaload, 1) := by decide +kernel
theorem dX10_store_122 : decode cX10_store 122 = .ok (.invokevirtual 179, 3) := by decide +kernel
theorem dX10_store_125 : decode cX10_store 125 = .ok (.lxor, 1) := by decide +kernel
theorem dX10_store_126 : decode cX10_store 126 = .ok (.invokevirtual 129, 3) := by decide +kernel
theorem dX10_store_129 : decode cX10_store 129 = .ok (.aload_n 0, 1) := by decide +kernel
theorem dX10_store_130 : decode cX10_store 130 = .ok (.getfield 16, 3) := by decide +kernel
theorem dX10_store_133 : decode cX10_store 133 = .ok (.iload_n 1, 1) := by decide +kernel
theorem dX10_store_134 : decode cX10_store 134 = .ok (.aload_n 0, 1) := by decide +kernel
theorem dX10_store_135 : decode cX10_store 135 = .ok (.getfield 95, 3) := by decide +kernel
theorem dX10_store_138 : decode cX10_store 138 = .ok (.iastore, 1) := by decide +kernel
theorem dX10_store_139 : decode cX10_store 139 = .ok (.aload_n 0, 1) := by decide +kernel
theorem dX10_store_140 : decode cX10_store 140 = .ok (.getfield 57, 3) := by decide +kernel
theorem dX10_store_143 : decode cX10_store 143 = .ok (.aload_n 0, 1) := by decide +kernel
theorem dX10_store_144 : decode cX10_store 144 = .ok (.getfield 95, 3) := by decide +kernel
theorem dX10_store_147 : decode cX10_store 147 = .ok (.lload_n 2, 1) := by decide +kernel
theorem dX10_store_148 : decode cX10_store 148 = .ok (.lastore, 1) := by decide +kernel
theorem dX10_store_149 : decode cX10_store 149 = .ok (.aload_n 0, 1) := by decide +kernel
theorem dX10_store_150 : decode cX10_store 150 = .ok (.getfield 60, 3) := by decide +kernel
theorem dX10_store_153 : decode cX10_store 153 = .ok (.aload_n 0, 1) := by decide +kernel
theorem dX10_store_154 : decode cX10_store 154 = .ok (.getfield 95, 3) := by decide +kernel
theorem dX10_store_157 : decode cX10_store 157 = .ok (.iload_n 1, 1) := by decide +kernel
theorem dX10_store_158 : decode cX10_store 158 = .ok (.iastore, 1) := by decide +kernel
theorem dX10_store_159 : decode cX10_store 159 = .ok (.aload_n 0, 1) := by decide +kernel
theorem dX10_store_160 : decode cX10_store 160 = .ok (.getfield 63, 3) := by decide +kernel
theorem dX10_store_163 : decode cX10_store 163 = .ok (.aload_n 0, 1) := by decide +kernel
theorem dX10_store_164 : decode cX10_store 164 = .ok (.getfield 95, 3) := by decide +kernel
theorem dX10_store_167 : decode cX10_store 167 = .ok (.iconst (-1), 1) := by decide +kernel
theorem dX10_store_168 : decode cX10_store 168 = .ok (.iastore, 1) := by decide +kernel
theorem dX10_store_169 : decode cX10_store 169 = .ok (.aload_n 0, 1) := by decide +kernel
theorem dX10_store_170 : decode cX10_store 170 = .ok (.dup, 1) := by decide +kernel
theorem dX10_store_171 : decode cX10_store 171 = .ok (.getfield 95, 3) := by decide +kernel
theorem dX10_store_174 : decode cX10_store 174 = .ok (.iconst 1, 1) := by decide +kernel
theorem dX10_store_175 : decode cX10_store 175 = .ok (.iadd, 1) := by decide +kernel
theorem dX10_store_176 : decode cX10_store 176 = .ok (.putfield 95, 3) := by decide +kernel
theorem dX10_store_179 : decode cX10_store 179 = .ok (.aload_n 0, 1) := by decide +kernel
theorem dX10_store_180 : decode cX10_store 180 = .ok (.getfield 95, 3) := by decide +kernel
theorem dX10_store_183 : decode cX10_store 183 = .ok (.iconst 1, 1) := by decide +kernel
theorem dX10_store_184 : decode cX10_store 184 = .ok (.isub, 1) := by decide +kernel
theorem dX10_store_185 : decode cX10_store 185 = .ok (.ireturn, 1) := by decide +kernel
theorem dX10_read_0 : decode cX10_read 0 = .ok (.aload_n 0, 1) := by decide +kernel
theorem dX10_read_1 : decode cX10_read 1 = .ok (.iload_n 1, 1) := by decide +kernel
theorem dX10_read_2 : decode cX10_read 2 = .ok (.invokestatic 170, 3) := by decide +kernel
theorem dX10_read_5 : decode cX10_read 5 = .ok (.ifCond .ne 7, 3) := by decide +kernel
theorem dX10_read_8 : decode cX10_read 8 = .ok (.iconst 1, 1) := by decide +kernel
theorem dX10_read_9 : decode cX10_read 9 = .ok (.goto 17, 3) := by decide +kernel
theorem dX10_read_12 : decode cX10_read 12 = .ok (.aload_n 0, 1) := by decide +kernel
theorem dX10_read_13 : decode cX10_read 13 = .ok (.iload_n 1, 1) := by decide +kernel
theorem dX10_read_14 : decode cX10_read 14 = .ok (.iconst (-1), 1) := by decide +kernel
theorem dX10_read_15 : decode cX10_read 15 = .ok (.invokevirtual 142, 3) := by decide +kernel
theorem dX10_read_18 : decode cX10_read 18 = .ok (.ifCond .ne 7, 3) := by decide +kernel
theorem dX10_read_21 : decode cX10_read 21 = .ok (.iconst 2, 1) := by decide +kernel
theorem dX10_read_22 : decode cX10_read 22 = .ok (.goto 4, 3) := by decide +kernel
theorem dX10_read_25 : decode cX10_read 25 = .ok (.iconst 0, 1) := by decide +kernel
theorem dX10_read_26 : decode cX10_read 26 = .ok (.putfield 82, 3) := by decide +kernel
theorem dX10_read_29 : decode cX10_read 29 = .ok (.aload_n 0, 1) := by decide +kernel
theorem dX10_read_30 : decode cX10_read 30 = .ok (.getfield 82, 3) := by decide +kernel
theorem dX10_read_33 : decode cX10_read 33 = .ok (.ifCond .le 7, 3) := by decide +kernel
theorem dX10_read_36 : decode cX10_read 36 = .ok (.lconst 0, 1) := by decide +kernel
theorem dX10_read_37 : decode cX10_read 37 = .ok (.goto 14, 3) := by decide +kernel
theorem dX10_read_40 : decode cX10_read 40 = .ok (.aload_n 0, 1) := by decide +kernel
theorem dX10_read_41 : decode cX10_read 41 = .ok (.getfield 57, 3) := by decide +kernel
theorem dX10_read_44 : decode cX10_read 44 = .ok (.aload_n 0, 1) := by decide +kernel
theorem dX10_read_45 : decode cX10_read 45 = .ok (.getfield 16, 3) := by decide +kernel
theorem dX10_read_48 : decode cX10_read 48 = .ok (.iload_n 1, 1) := by decide +kernel
theorem dX10_read_49 : decode cX10_read 49 = .ok (.iaload, 1) := by decide +kernel
theorem dX10_read_50 : decode cX10_read 50 = .ok (.laload, 1) := by decide +kernel
theorem dX10_read_51 : decode cX10_read 51 = .ok (.lreturn, 1) := by decide +kernel
theorem dX10_recordAt_0 : decode cX10_recordAt 0 = .ok (.aload_n 0, 1) := by decide +kernel
theorem dX10_recordAt_1 : decode cX10_recordAt 1 = .ok (.iload_n 1, 1) := by decide +kernel
theorem dX10_recordAt_2 : decode cX10_recordAt 2 = .ok (.invokestatic 170, 3) := by decide +kernel
theorem dX10_recordAt_5 : decode cX10_recordAt 5 = .ok (.ifCond .eq 7, 3) := by decide +kernel
theorem dX10_recordAt_8 : decode cX10_recordAt 8 = .ok (.iconst 0, 1) := by decide +kernel
theorem dX10_recordAt_9 : decode cX10_recordAt 9 = .ok (.goto 4, 3) := by decide +kernel
theorem dX10_recordAt_12 : decode cX10_recordAt 12 = .ok (.iconst 1, 1) := by decide +kernel
theorem dX10_recordAt_13 : decode cX10_recordAt 13 = .ok (.putfield 82, 3) := by decide +kernel
theorem dX10_recordAt_16 : decode cX10_recordAt 16 = .ok (.aload_n 0, 1) := by decide +kernel
theorem dX10_recordAt_17 : decode cX10_recordAt 17 = .ok (.getfield 82, 3) := by decide +kernel
theorem dX10_recordAt_20 : decode cX10_recordAt 20 = .ok (.ifCond .le 7, 3) := by decide +kernel
theorem dX10_recordAt_23 : decode cX10_recordAt 23 = .ok (.iconst 0, 1) := by decide +kernel
theorem dX10_recordAt_24 : decode cX10_recordAt 24 = .ok (.goto 9, 3) := by decide +kernel
theorem dX10_recordAt_27 : decode cX10_recordAt 27 = .ok (.aload_n 0, 1) := by decide +kernel
theorem dX10_recordAt_28 : decode cX10_recordAt 28 = .ok (.getfield 16, 3) := by decide +kernel
theorem dX10_recordAt_31 : decode cX10_recordAt 31 = .ok (.iload_n 1, 1) := by decide +kernel
theorem dX10_recordAt_32 : decode cX10_recordAt 32 = .ok (.iaload, 1) := by decide +kernel
theorem dX10_recordAt_33 : decode cX10_recordAt 33 = .ok (.ireturn, 1) := by decide +kernel
theorem dX10_leafOf_0 : decode cX10_leafOf 0 = .ok (.aload_n 0, 1) := by decide +kernel
theorem dX10_leafOf_1 : decode cX10_leafOf 1 = .ok (.aload_n 0, 1) := by decide +kernel
theorem dX10_leafOf_2 : decode cX10_leafOf 2 = .ok (.iload_n 1, 1) := by decide +kernel
theorem dX10_leafOf_3 : decode cX10_leafOf 3 = .ok (.invokevirtual 183, 3) := by decide +kernel
theorem dX10_leafOf_6 : decode cX10_leafOf 6 = .ok (.ifCond .eq 7, 3) := by decide +kernel
theorem dX10_leafOf_9 : decode cX10_leafOf 9 = .ok (.iconst 0, 1) := by decide +kernel
theorem dX10_leafOf_10 : decode cX10_leafOf 10 = .ok (.goto 4, 3) := by decide +kernel
theorem dX10_leafOf_13 : decode cX10_leafOf 13 = .ok (.iconst 1, 1) := by decide +kernel
theorem dX10_leafOf_14 : decode cX10_leafOf 14 = .ok (.putfield 82, 3) := by decide +kernel
theorem dX10_leafOf_17 : decode cX10_leafOf 17 = .ok (.aload_n 0, 1) := by decide +kernel
theorem dX10_leafOf_18 : decode cX10_leafOf 18 = .ok (.getfield 82, 3) := by decide +kernel
theorem dX10_leafOf_21 : decode cX10_leafOf 21 = .ok (.ifCond .le 7, 3) := by decide +kernel
theorem dX10_leafOf_24 : decode cX10_leafOf 24 = .ok (.iconst 0, 1) := by decide +kernel
theorem dX10_leafOf_25 : decode cX10_leafOf 25 = .ok (.goto 9, 3) := by decide +kernel
theorem dX10_leafOf_28 : decode cX10_leafOf 28 = .ok (.aload_n 0, 1) := by decide +kernel
theorem dX10_leafOf_29 : decode cX10_leafOf 29 = .ok (.getfield 60, 3) := by decide +kernel
theorem dX10_leafOf_32 : decode cX10_leafOf 32 = .ok (.iload_n 1, 1) := by decide +kernel
theorem dX10_leafOf_33 : decode cX10_leafOf 33 = .ok (.iaload, 1) := by decide +kernel
theorem dX10_leafOf_34 : decode cX10_leafOf 34 = .ok (.ireturn, 1) := by decide +kernel
theorem dX10_recordCount_0 : decode cX10_recordCount 0 = .ok (.aload_n 0, 1) := by decide +kernel
theorem dX10_recordCount_1 : decode cX10_recordCount 1 = .ok (.iload_n 1, 1) := by decide +kernel
theorem dX10_recordCount_2 : decode cX10_recordCount 2 = .ok (.i2l, 1) := by decide +kernel
theorem dX10_recordCount_3 : decode cX10_recordCount 3 = .ok (.lconst 0, 1) := by decide +kernel
theorem dX10_recordCount_4 : decode cX10_recordCount 4 = .ok (.ldc2_w 186, 3) := by decide +kernel
theorem dX10_recordCount_7 : decode cX10_recordCount 7 = .ok (.invokestatic 117, 3) := by decide +kernel
theorem dX10_recordCount_10 : decode cX10_recordCount 10 = .ok (.ifCond .eq 7, 3) := by decide +kernel
theorem dX10_recordCount_13 : decode cX10_recordCount 13 = .ok (.iconst 0, 1) := by decide +kernel
theorem dX10_recordCount_14 : decode cX10_recordCount 14 = .ok (.goto 4, 3) := by decide +kernel
theorem dX10_recordCount_17 : decode cX10_recordCount 17 = .ok (.iconst 1, 1) := by decide +kernel
theorem dX10_recordCount_18 : decode cX10_recordCount 18 = .ok (.putfield 82, 3) := by decide +kernel
theorem dX10_recordCount_21 : decode cX10_recordCount 21 = .ok (.aload_n 0, 1) := by decide +kernel
theorem dX10_recordCount_22 : decode cX10_recordCount 22 = .ok (.getfield 82, 3) := by decide +kernel
theorem dX10_recordCount_25 : decode cX10_recordCount 25 = .ok (.ifCond .gt 7, 3) := by decide +kernel
theorem dX10_recordCount_28 : decode cX10_recordCount 28 = .ok (.iload_n 1, 1) := by decide +kernel
theorem dX10_recordCount_29 : decode cX10_recordCount 29 = .ok (.ifCond .ne 19, 3) := by decide +kernel
theorem dX10_recordCount_32 : decode cX10_recordCount 32 = .ok (.aload_n 0, 1) := by decide +kernel
theorem dX10_recordCount_33 : decode cX10_recordCount 33 = .ok (.getfield 82, 3) := by decide +kernel
theorem dX10_recordCount_36 : decode cX10_recordCount 36 = .ok (.ifCond .le 7, 3) := by decide +kernel
theorem dX10_recordCount_39 : decode cX10_recordCount 39 = .ok (.iconst 0, 1) := by decide +kernel
theorem dX10_recordCount_40 : decode cX10_recordCount 40 = .ok (.goto 7, 3) := by decide +kernel
theorem dX10_recordCount_43 : decode cX10_recordCount 43 = .ok (.aload_n 0, 1) := by decide +kernel
theorem dX10_recordCount_44 : decode cX10_recordCount 44 = .ok (.getfield 95, 3) := by decide +kernel
theorem dX10_recordCount_47 : decode cX10_recordCount 47 = .ok (.ireturn, 1) := by decide +kernel
theorem dX10_recordCount_48 : decode cX10_recordCount 48 = .ok (.iconst 0, 1) := by decide +kernel
theorem dX10_recordCount_49 : decode cX10_recordCount 49 = .ok (.istore_n 2, 1) := by decide +kernel
theorem dX10_recordCount_50 : decode cX10_recordCount 50 = .ok (.iconst 0, 1) := by decide +kernel
theorem dX10_recordCount_51 : decode cX10_recordCount 51 = .ok (.istore_n 3, 1) := by decide +kernel
theorem dX10_recordCount_52 : decode cX10_recordCount 52 = .ok (.iload_n 3, 1) := by decide +kernel
theorem dX10_recordCount_53 : decode cX10_recordCount 53 = .ok (.bipush 64, 2) := by decide +kernel
theorem dX10_recordCount_55 : decode cX10_recordCount 55 = .ok (.if_icmp .ge 41, 3) := by decide +kernel
theorem dX10_recordCount_58 : decode cX10_recordCount 58 = .ok (.iload_n 2, 1) := by decide +kernel
theorem dX10_recordCount_59 : decode cX10_recordCount 59 = .ok (.aload_n 0, 1) := by decide +kernel
theorem dX10_recordCount_60 : decode cX10_recordCount 60 = .ok (.getfield 16, 3) := by decide +kernel
theorem dX10_recordCount_63 : decode cX10_recordCount 63 = .ok (.iload_n 3, 1) := by decide +kernel
theorem dX10_recordCount_64 : decode cX10_recordCount 64 = .ok (.iaload, 1) := by decide +kernel
theorem dX10_recordCount_65 : decode cX10_recordCount 65 = .ok (.iconst (-1), 1) := by decide +kernel
theorem dX10_recordCount_66 : decode cX10_recordCount 66 = .ok (.if_icmp .eq 21, 3) := by decide +kernel
theorem dX10_recordCount_69 : decode cX10_recordCount 69 = .ok (.iload_n 1, 1) := by decide +kernel
theorem dX10_recordCount_70 : decode cX10_recordCount 70 = .ok (.iconst 1, 1) := by decide +kernel
theorem dX10_recordCount_71 : decode cX10_recordCount 71 = .ok (.if_icmp .eq 12, 3) := by decide +kernel
theorem dX10_recordCount_74 : decode cX10_recordCount 74 = .ok (.aload_n 0, 1) := by decide +kernel
theorem dX10_recordCount_75 : decode cX10_recordCount 75 = .ok (.iload_n 3, 1) := by decide +kernel
theorem dX10_recordCount_76 : decode cX10_recordCount 76 = .ok (.iconst (-1), 1) := by decide +kernel
theorem dX10_recordCount_77 : decode cX10_recordCount 77 = .ok (.invokevirtual 142, 3) := by decide +kernel
theorem dX10_recordCount_80 : decode cX10_recordCount 80 = .ok (.ifCond .ne 7, 3) := by decide +kernel
theorem dX10_recordCount_83 : decode cX10_recordCount 83 = .ok (.iconst 1, 1) := by decide +kernel
theorem dX10_recordCount_84 : decode cX10_recordCount 84 = .ok (.goto 4, 3) := by decide +kernel
theorem dX10_recordCount_87 : decode cX10_recordCount 87 = .ok (.iconst 0, 1) := by decide +kernel
theorem dX10_recordCount_88 : decode cX10_recordCount 88 = .ok (.iadd, 1) := by decide +kernel
theorem dX10_recordCount_89 : decode cX10_recordCount 89 = .ok (.istore_n 2, 1) := by decide +kernel
theorem dX10_recordCount_90 : decode cX10_recordCount 90 = .ok (.iinc 3 1, 3) := by decide +kernel
theorem dX10_recordCount_93 : decode cX10_recordCount 93 = .ok (.goto (-41), 3) := by decide +kernel
theorem dX10_recordCount_96 : decode cX10_recordCount 96 = .ok (.iload_n 2, 1) := by decide +kernel
theorem dX10_recordCount_97 : decode cX10_recordCount 97 = .ok (.ireturn, 1) := by decide +kernel
theorem dX10_openers_0 : decode cX10_openers 0 = .ok (.aload_n 0, 1) := by decide +kernel
theorem dX10_openers_1 : decode cX10_openers 1 = .ok (.aload_n 0, 1) := by decide +kernel
theorem dX10_openers_2 : decode cX10_openers 2 = .ok (.iload_n 1, 1) := by decide +kernel
theorem dX10_openers_3 : decode cX10_openers 3 = .ok (.invokevirtual 183, 3) := by decide +kernel
theorem dX10_openers_6 : decode cX10_openers 6 = .ok (.ifCond .eq 7, 3) := by decide +kernel
theorem dX10_openers_9 : decode cX10_openers 9 = .ok (.iconst 0, 1) := by decide +kernel
theorem dX10_openers_10 : decode cX10_openers 10 = .ok (.goto 4, 3) := by decide +kernel
theorem dX10_openers_13 : decode cX10_openers 13 = .ok (.iconst 1, 1) := by decide +kernel
theorem dX10_openers_14 : decode cX10_openers 14 = .ok (.putfield 82, 3) := by decide +kernel
theorem dX10_openers_17 : decode cX10_openers 17 = .ok (.aload_n 0, 1) := by decide +kernel
theorem dX10_openers_18 : decode cX10_openers 18 = .ok (.getfield 82, 3) := by decide +kernel
theorem dX10_openers_21 : decode cX10_openers 21 = .ok (.ifCond .le 5, 3) := by decide +kernel
theorem dX10_openers_24 : decode cX10_openers 24 = .ok (.iconst 0, 1) := by decide +kernel
theorem dX10_openers_25 : decode cX10_openers 25 = .ok (.ireturn, 1) := by decide +kernel
theorem dX10_openers_26 : decode cX10_openers 26 = .ok (.aload_n 0, 1) := by decide +kernel
theorem dX10_openers_27 : decode cX10_openers 27 = .ok (.iload_n 1, 1) := by decide +kernel
theorem dX10_openers_28 : decode cX10_openers 28 = .ok (.invokevirtual 188, 3) := by decide +kernel
theorem dX10_openers_31 : decode cX10_openers 31 = .ok (.aload_n 0, 1) := by decide +kernel
theorem dX10_openers_32 : decode cX10_openers 32 = .ok (.aload_n 0, 1) := by decide +kernel
theorem dX10_openers_33 : decode cX10_openers 33 = .ok (.getfield 7, 3) := by decide +kernel
theorem dX10_openers_36 : decode cX10_openers 36 = .ok (.iconst 0, 1) := by decide +kernel
theorem dX10_openers_37 : decode cX10_openers 37 = .ok (.iaload, 1) := by decide +kernel
theorem dX10_openers_38 : decode cX10_openers 38 = .ok (.invokevirtual 149, 3) := by decide +kernel
theorem dX10_openers_41 : decode cX10_openers 41 = .ok (.ifCond .eq 7, 3) := by decide +kernel
theorem dX10_openers_44 : decode cX10_openers 44 = .ok (.iconst 1, 1) := by decide +kernel
theorem dX10_openers_45 : decode cX10_openers 45 = .ok (.goto 4, 3) := by decide +kernel
theorem dX10_openers_48 : decode cX10_openers 48 = .ok (.iconst 0, 1) := by decide +kernel
theorem dX10_openers_49 : decode cX10_openers 49 = .ok (.istore_n 2, 1) := by decide +kernel
theorem dX10_openers_50 : decode cX10_openers 50 = .ok (.iconst 0, 1) := by decide +kernel
theorem dX10_openers_51 : decode cX10_openers 51 = .ok (.istore_n 3, 1) := by decide +kernel
theorem dX10_openers_52 : decode cX10_openers 52 = .ok (.iload_n 3, 1) := by decide +kernel
theorem dX10_openers_53 : decode cX10_openers 53 = .ok (.iconst 4, 1) := by decide +kernel
theorem dX10_openers_54 : decode cX10_openers 54 = .ok (.if_icmp .ge 41, 3) := by decide +kernel
theorem dX10_openers_57 : decode cX10_openers 57 = .ok (.iload_n 2, 1) := by decide +kernel
theorem dX10_openers_58 : decode cX10_openers 58 = .ok (.aload_n 0, 1) := by decide +kernel
theorem dX10_openers_59 : decode cX10_openers 59 = .ok (.getfield 22, 3) := by decide +kernel
theorem dX10_openers_62 : decode cX10_openers 62 = .ok (.iload_n 3, 1) := by decide +kernel
theorem dX10_openers_63 : decode cX10_openers 63 = .ok (.iaload, 1) := by decide +kernel
theorem dX10_openers_64 : decode cX10_openers 64 = .ok (.ifCond .le 22, 3) := by decide +kernel
theorem dX10_openers_67 : decode cX10_openers 67 = .ok (.aload_n 0, 1) := by decide +kernel
theorem dX10_openers_68 : decode cX10_openers 68 = .ok (.aload_n 0, 1) := by decide +kernel
theorem dX10_openers_69 : decode cX10_openers 69 = .ok (.getfield 22, 3) := by decide +kernel
theorem dX10_openers_72 : decode cX10_openers 72 = .ok (.iload_n 3, 1) := by decide +kernel
theorem dX10_openers_73 : decode cX10_openers 73 = .ok (.iaload, 1) := by decide +kernel
theorem dX10_openers_74 : decode cX10_openers 74 = .ok (.invokevirtual 149, 3) := by decide +kernel
theorem dX10_openers_77 : decode cX10_openers 77 = .ok (.ifCond .eq 9, 3) := by decide +kernel
theorem dX10_openers_80 : decode cX10_openers 80 = .ok (.iconst 2, 1) := by decide +kernel
theorem dX10_openers_81 : decode cX10_openers 81 = .ok (.iload_n 3, 1) := by decide +kernel
theorem dX10_openers_82 : decode cX10_openers 82 = .ok (.ishl, 1) := by decide +kernel
theorem dX10_openers_83 : decode cX10_openers 83 = .ok (.goto 4, 3) := by decide +kernel
theorem dX10_openers_86 : decode cX10_openers 86 = .ok (.iconst 0, 1) := by decide +kernel
theorem dX10_openers_87 : decode cX10_openers 87 = .ok (.ior, 1) := by decide +kernel
theorem dX10_openers_88 : decode cX10_openers 88 = .ok (.istore_n 2, 1) := by decide +kernel
theorem dX10_openers_89 : decode cX10_openers 89 = .ok (.iinc 3 1, 3) := by decide +kernel
theorem dX10_openers_92 : decode cX10_openers 92 = .ok (.goto (-40), 3) := by decide +kernel
theorem dX10_openers_95 : decode cX10_openers 95 = .ok (.iload_n 2, 1) := by decide +kernel
theorem dX10_openers_96 : decode cX10_openers 96 = .ok (.ireturn, 1) := by decide +kernel
theorem dX10_isCustodian_0 : decode cX10_isCustodian 0 = .ok (.iload_n 0, 1) := by decide +kernel
theorem dX10_isCustodian_1 : decode cX10_isCustodian 1 = .ok (.i2l, 1) := by decide +kernel
theorem dX10_isCustodian_2 : decode cX10_isCustodian 2 = .ok (.lconst 0, 1) := by decide +kernel
theorem dX10_isCustodian_3 : decode cX10_isCustodian 3 = .ok (.ldc2_w 191, 3) := by decide +kernel
theorem dX10_isCustodian_6 : decode cX10_isCustodian 6 = .ok (.invokestatic 117, 3) := by decide +kernel
theorem dX10_isCustodian_9 : decode cX10_isCustodian 9 = .ok (.ireturn, 1) := by decide +kernel
theorem dX10_openWith_0 : decode cX10_openWith 0 = .ok (.aload_n 0, 1) := by decide +kernel
theorem dX10_openWith_1 : decode cX10_openWith 1 = .ok (.iload_n 1, 1) := by decide +kernel
theorem dX10_openWith_2 : decode cX10_openWith 2 = .ok (.invokestatic 193, 3) := by decide +kernel
theorem dX10_openWith_5 : decode cX10_openWith 5 = .ok (.ifCond .eq 15, 3) := by decide +kernel
theorem dX10_openWith_8 : decode cX10_openWith 8 = .ok (.aload_n 0, 1) := by decide +kernel
theorem dX10_openWith_9 : decode cX10_openWith 9 = .ok (.iload_n 2, 1) := by decide +kernel
theorem dX10_openWith_10 : decode cX10_openWith 10 = .ok (.invokevirtual 183, 3) := by decide +kernel
theorem dX10_openWith_13 : decode cX10_openWith 13 = .ok (.ifCond .eq 7, 3) := by decide +kernel
theorem dX10_openWith_16 : decode cX10_openWith 16 = .ok (.iconst 0, 1) := by decide +kernel
theorem dX10_openWith_17 : decode cX10_openWith 17 = .ok (.goto 4, 3) := by decide +kernel
theorem dX10_openWith_20 : decode cX10_openWith 20 = .ok (.iconst 1, 1) := by decide +kernel
theorem dX10_openWith_21 : decode cX10_openWith 21 = .ok (.putfield 82, 3) := by decide +kernel
theorem dX10_openWith_24 : decode cX10_openWith 24 = .ok (.aload_n 0, 1) := by decide +kernel
theorem dX10_openWith_25 : decode cX10_openWith 25 = .ok (.getfield 82, 3) := by decide +kernel
theorem dX10_openWith_28 : decode cX10_openWith 28 = .ok (.ifCond .le 5, 3) := by decide +kernel
theorem dX10_openWith_31 : decode cX10_openWith 31 = .ok (.lconst 0, 1) := by decide +kernel
theorem dX10_openWith_32 : decode cX10_openWith 32 = .ok (.lreturn, 1) := by decide +kernel
theorem dX10_openWith_33 : decode cX10_openWith 33 = .ok (.aload_n 0, 1) := by decide +kernel
theorem dX10_openWith_34 : decode cX10_openWith 34 = .ok (.iload_n 2, 1) := by decide +kernel
theorem dX10_openWith_35 : decode cX10_openWith 35 = .ok (.invokevirtual 188, 3) := by decide +kernel
theorem dX10_openWith_38 : decode cX10_openWith 38 = .ok (.aload_n 0, 1) := by decide +kernel
theorem dX10_openWith_39 : decode cX10_openWith 39 = .ok (.aload_n 0, 1) := by decide +kernel
theorem dX10_openWith_40 : decode cX10_openWith 40 = .ok (.getfield 22, 3) := by decide +kernel
theorem dX10_openWith_43 : decode cX10_openWith 43 = .ok (.iload_n 1, 1) := by decide +kernel
theorem dX10_openWith_44 : decode cX10_openWith 44 = .ok (.iaload, 1) := by decide +kernel
theorem dX10_openWith_45 : decode cX10_openWith 45 = .ok (.ifCond .le 20, 3) := by decide +kernel
theorem dX10_openWith_48 : decode cX10_openWith 48 = .ok (.aload_n 0, 1) := by decide +kernel
theorem dX10_openWith_49 : decode cX10_openWith 49 = .ok (.aload_n 0, 1) := by decide +kernel
theorem dX10_openWith_50 : decode cX10_openWith 50 = .ok (.getfield 22, 3) := by decide +kernel
theorem dX10_openWith_53 : decode cX10_openWith 53 = .ok (.iload_n 1, 1) := by decide +kernel
theorem dX10_openWith_54 : decode cX10_openWith 54 = .ok (.iaload, 1) := by decide +kernel
theorem dX10_openWith_55 : decode cX10_openWith 55 = .ok (.invokevirtual 149, 3) := by decide +kernel
theorem dX10_openWith_58 : decode cX10_openWith 58 = .ok (.ifCond .eq 7, 3) := by decide +kernel
theorem dX10_openWith_61 : decode cX10_openWith 61 = .ok (.iconst 0, 1) := by decide +kernel
theorem dX10_openWith_62 : decode cX10_openWith 62 = .ok (.goto 4, 3) := by decide +kernel
theorem dX10_openWith_65 : decode cX10_openWith 65 = .ok (.iconst 2, 1) := by decide +kernel
theorem dX10_openWith_66 : decode cX10_openWith 66 = .ok (.putfield 82, 3) := by decide +kernel
theorem dX10_openWith_69 : decode cX10_openWith 69 = .ok (.aload_n 0, 1) := by decide +kernel
theorem dX10_openWith_70 : decode cX10_openWith 70 = .ok (.getfield 82, 3) := by decide +kernel
theorem dX10_openWith_73 : decode cX10_openWith 73 = .ok (.ifCond .le 7, 3) := by decide +kernel
theorem dX10_openWith_76 : decode cX10_openWith 76 = .ok (.lconst 0, 1) := by decide +kernel
theorem dX10_openWith_77 : decode cX10_openWith 77 = .ok (.goto 9, 3) := by decide +kernel
theorem dX10_openWith_80 : decode cX10_openWith 80 = .ok (.aload_n 0, 1) := by decide +kernel
theorem dX10_openWith_81 : decode cX10_openWith 81 = .ok (.getfield 57, 3) := by decide +kernel
theorem dX10_openWith_84 : decode cX10_openWith 84 = .ok (.iload_n 2, 1) := by decide +kernel
theorem dX10_openWith_85 : decode cX10_openWith 85 = .ok (.laload, 1) := by decide +kernel
theorem dX10_openWith_86 : decode cX10_openWith 86 = .ok (.lreturn, 1) := by decide +kernel
theorem dX10_placeOf_0 : decode cX10_placeOf 0 = .ok (.iconst 0, 1) := by decide +kernel
theorem dX10_placeOf_1 : decode cX10_placeOf 1 = .ok (.istore_n 2, 1) := by decide +kernel
theorem dX10_placeOf_2 : decode cX10_placeOf 2 = .ok (.iload_n 2, 1) := by decide +kernel
theorem dX10_placeOf_3 : decode cX10_placeOf 3 = .ok (.aload_n 0, 1) := by decide +kernel
theorem dX10_placeOf_4 : decode cX10_placeOf 4 = .ok (.getfield 146, 3) := by decide +kernel
theorem dX10_placeOf_7 : decode cX10_placeOf 7 = .ok (.if_icmp .ge 21, 3) := by decide +kernel
theorem dX10_placeOf_10 : decode cX10_placeOf 10 = .ok (.aload_n 0, 1) := by decide +kernel
theorem dX10_placeOf_11 : decode cX10_placeOf 11 = .ok (.getfield 72, 3) := by decide +kernel
theorem dX10_placeOf_14 : decode cX10_placeOf 14 = .ok (.iload_n 2, 1) := by decide +kernel
theorem dX10_placeOf_15 : decode cX10_placeOf 15 = .ok (.iaload, 1) := by decide +kernel
theorem dX10_placeOf_16 : decode cX10_placeOf 16 = .ok (.iload_n 1, 1) := by decide +kernel
theorem dX10_placeOf_17 : decode cX10_placeOf 17 = .ok (.if_icmp .ne 5, 3) := by decide +kernel
theorem dX10_placeOf_20 : decode cX10_placeOf 20 = .ok (.iload_n 2, 1) := by decide +kernel
theorem dX10_placeOf_21 : decode cX10_placeOf 21 = .ok (.ireturn, 1) := by decide +kernel
theorem dX10_placeOf_22 : decode cX10_placeOf 22 = .ok (.iinc 2 1, 3) := by decide +kernel
theorem dX10_placeOf_25 : decode cX10_placeOf 25 = .ok (.goto (-23), 3) := by decide +kernel
theorem dX10_placeOf_28 : decode cX10_placeOf 28 = .ok (.iconst (-1), 1) := by decide +kernel
theorem dX10_placeOf_29 : decode cX10_placeOf 29 = .ok (.ireturn, 1) := by decide +kernel
theorem dX10_laysSteps_0 : decode cX10_laysSteps 0 = .ok (.aload_n 0, 1) := by decide +kernel
theorem dX10_laysSteps_1 : decode cX10_laysSteps 1 = .ok (.getfield 72, 3) := by decide +kernel
theorem dX10_laysSteps_4 : decode cX10_laysSteps 4 = .ok (.iconst 0, 1) := by decide +kernel
theorem dX10_laysSteps_5 : decode cX10_laysSteps 5 = .ok (.iload_n 1, 1) := by decide +kernel
theorem dX10_laysSteps_6 : decode cX10_laysSteps 6 = .ok (.iastore, 1) := by decide +kernel
theorem dX10_laysSteps_7 : decode cX10_laysSteps 7 = .ok (.aload_n 0, 1) := by decide +kernel
theorem dX10_laysSteps_8 : decode cX10_laysSteps 8 = .ok (.getfield 75, 3) := by decide +kernel
theorem dX10_laysSteps_11 : decode cX10_laysSteps 11 = .ok (.iconst 0, 1) := by decide +kernel
theorem dX10_laysSteps_12 : decode cX10_laysSteps 12 = .ok (.iconst 0, 1) := by decide +kernel
theorem dX10_laysSteps_13 : decode cX10_laysSteps 13 = .ok (.iastore, 1) := by decide +kernel
theorem dX10_laysSteps_14 : decode cX10_laysSteps 14 = .ok (.aload_n 0, 1) := by decide +kernel
theorem dX10_laysSteps_15 : decode cX10_laysSteps 15 = .ok (.iconst 1, 1) := by decide +kernel
theorem dX10_laysSteps_16 : decode cX10_laysSteps 16 = .ok (.putfield 146, 3) := by decide +kernel
theorem dX10_laysSteps_19 : decode cX10_laysSteps 19 = .ok (.iconst 0, 1) := by decide +kernel
theorem dX10_laysSteps_20 : decode cX10_laysSteps 20 = .ok (.istore_n 2, 1) := by decide +kernel
theorem dX10_laysSteps_21 : decode cX10_laysSteps 21 = .ok (.iload_n 2, 1) := by decide +kernel
theorem dX10_laysSteps_22 : decode cX10_laysSteps 22 = .ok (.aload_n 0, 1) := by decide +kernel
theorem dX10_laysSteps_23 : decode cX10_laysSteps 23 = .ok (.getfield 146, 3) := by decide +kernel
theorem dX10_laysSteps_26 : decode cX10_laysSteps 26 = .ok (.if_icmp .ge 136, 3) := by decide +kernel
theorem dX10_laysSteps_29 : decode cX10_laysSteps 29 = .ok (.iconst 0, 1) := by decide +kernel
theorem dX10_laysSteps_30 : decode cX10_laysSteps 30 = .ok (.istore_n 3, 1) := by decide +kernel
theorem dX10_laysSteps_31 : decode cX10_laysSteps 31 = .ok (.iload_n 3, 1) := by decide +kernel
theorem dX10_laysSteps_32 : decode cX10_laysSteps 32 = .ok (.aload_n 0, 1) := by decide +kernel
theorem dX10_laysSteps_33 : decode cX10_laysSteps 33 = .ok (.getfield 89, 3) := by decide +kernel
theorem dX10_laysSteps_36 : decode cX10_laysSteps 36 = .ok (.if_icmp .ge 120, 3) := by decide +kernel
theorem dX10_laysSteps_39 : decode cX10_laysSteps 39 = .ok (.sipush 150, 3) := by decide +kernel
theorem dX10_laysSteps_42 : decode cX10_laysSteps 42 = .ok (.iload_n 3, 1) := by decide +kernel
theorem dX10_laysSteps_43 : decode cX10_laysSteps 43 = .ok (.imul, 1) := by decide +kernel
theorem dX10_laysSteps_44 : decode cX10_laysSteps 44 = .ok (.istore 4, 2) := by decide +kernel
theorem dX10_laysSteps_46 : decode cX10_laysSteps 46 = .ok (.aload_n 0, 1) := by decide +kernel
theorem dX10_laysSteps_47 : decode cX10_laysSteps 47 = .ok (.getfield 38, 3) := by decide +kernel
theorem dX10_laysSteps_50 : decode cX10_laysSteps 50 = .ok (.iload_n 3, 1) := by decide +kernel
theorem dX10_laysSteps_51 : decode cX10_laysSteps 51 = .ok (.iaload, 1) := by decide +kernel
theorem dX10_laysSteps_52 : decode cX10_laysSteps 52 = .ok (.iconst 2, 1) := by decide +kernel
theorem dX10_laysSteps_53 : decode cX10_laysSteps 53 = .ok (.if_icmp .eq 97, 3) := by decide +kernel
theorem dX10_laysSteps_56 : decode cX10_laysSteps 56 = .ok (.iload 4, 2) := by decide +kernel
theorem dX10_laysSteps_58 : decode cX10_laysSteps 58 = .ok (.sipush 150, 3) := by decide +kernel
theorem dX10_laysSteps_61 : decode cX10_laysSteps 61 = .ok (.iload_n 3, 1) := by decide +kernel
theorem dX10_laysSteps_62 : decode cX10_laysSteps 62 = .ok (.imul, 1) := by decide +kernel
theorem dX10_laysSteps_63 : decode cX10_laysSteps 63 = .ok (.aload_n 0, 1) := by decide +kernel
theorem dX10_laysSteps_64 : decode cX10_laysSteps 64 = .ok (.getfield 41, 3) := by decide +kernel
theorem dX10_laysSteps_67 : decode cX10_laysSteps 67 = .ok (.iload_n 3, 1) := by decide +kernel
theorem dX10_laysSteps_68 : decode cX10_laysSteps 68 = .ok (.iaload, 1) := by decide +kernel
theorem dX10_laysSteps_69 : decode cX10_laysSteps 69 = .ok (.iadd, 1) := by decide +kernel
theorem dX10_laysSteps_70 : decode cX10_laysSteps 70 = .ok (.if_icmp .ge 80, 3) := by decide +kernel
theorem dX10_laysSteps_73 : decode cX10_laysSteps 73 = .ok (.aload_n 0, 1) := by decide +kernel
theorem dX10_laysSteps_74 : decode cX10_laysSteps 74 = .ok (.getfield 44, 3) := by decide +kernel
theorem dX10_laysSteps_77 : decode cX10_laysSteps 77 = .ok (.iload 4, 2) := by decide +kernel
theorem dX10_laysSteps_79 : decode cX10_laysSteps 79 = .ok (.iaload, 1) := by decide +kernel
theorem dX10_laysSteps_80 : decode cX10_laysSteps 80 = .ok (.ifCond .ne 64, 3) := by decide +kernel
theorem dX10_laysSteps_83 : decode cX10_laysSteps 83 = .ok (.aload_n 0, 1) := by decide +kernel
theorem dX10_laysSteps_84 : decode cX10_laysSteps 84 = .ok (.getfield 50, 3) := by decide +kernel
theorem dX10_laysSteps_87 : decode cX10_laysSteps 87 = .ok (.iload 4, 2) := by decide +kernel
theorem dX10_laysSteps_89 : decode cX10_laysSteps 89 = .ok (.iaload, 1) := by decide +kernel
theorem dX10_laysSteps_90 : decode cX10_laysSteps 90 = .ok (.aload_n 0, 1) := by decide +kernel
theorem dX10_laysSteps_91 : decode cX10_laysSteps 91 = .ok (.getfield 72, 3) := by decide +kernel
theorem dX10_laysSteps_94 : decode cX10_laysSteps 94 = .ok (.iload_n 2, 1) := by decide +kernel
theorem dX10_laysSteps_95 : decode cX10_laysSteps 95 = .ok (.iaload, 1) := by decide +kernel
theorem dX10_laysSteps_96 : decode cX10_laysSteps 96 = .ok (.if_icmp .ne 48, 3) := by decide +kernel
theorem dX10_laysSteps_99 : decode cX10_laysSteps 99 = .ok (.aload_n 0, 1) := by decide +kernel
theorem dX10_laysSteps_100 : decode cX10_laysSteps 100 = .ok (.aload_n 0, 1) := by decide +kernel
theorem dX10_laysSteps_101 : decode cX10_laysSteps 101 = .ok (.getfield 47, 3) := by decide +kernel
theorem dX10_laysSteps_104 : decode cX10_laysSteps 104 = .ok (.iload 4, 2) := by decide +kernel
theorem dX10_laysSteps_106 : decode cX10_laysSteps 106 = .ok (.iaload, 1) := by decide +kernel
theorem dX10_laysSteps_107 : decode cX10_laysSteps 107 = .ok (.invokevirtual 149, 3) := by decide +kernel
theorem dX10_laysSteps_110 : decode cX10_laysSteps 110 = .ok (.ifCond .eq 6, 3) := by decide +kernel
theorem dX10_laysSteps_113 : decode cX10_laysSteps 113 = .ok (.goto 31, 3) := by decide +kernel
theorem dX10_laysSteps_116 : decode cX10_laysSteps 116 = .ok (.aload_n 0, 1) := by decide +kernel
theorem dX10_laysSteps_117 : decode cX10_laysSteps 117 = .ok (.getfield 75, 3) := by decide +kernel
theorem dX10_laysSteps_120 : decode cX10_laysSteps 120 = .ok (.aload_n 0, 1) := by decide +kernel
theorem dX10_laysSteps_121 : decode cX10_laysSteps 121 = .ok (.getfield 146, 3) := by decide +kernel
theorem dX10_laysSteps_124 : decode cX10_laysSteps 124 = .ok (.aload_n 0, 1) := by decide +kernel
theorem dX10_laysSteps_125 : decode cX10_laysSteps 125 = .ok (.getfield 75, 3) := by decide +kernel
theorem dX10_laysSteps_128 : decode cX10_laysSteps 128 = .ok (.iload_n 2, 1) := by decide +kernel
theorem dX10_laysSteps_129 : decode cX10_laysSteps 129 = .ok (.iaload, 1) := by decide +kernel
theorem dX10_laysSteps_130 : decode cX10_laysSteps 130 = .ok (.iconst 1, 1) := by decide +kernel
theorem dX10_laysSteps_131 : decode cX10_laysSteps 131 = .ok (.iadd, 1) := by decide +kernel
theorem dX10_laysSteps_132 : decode cX10_laysSteps 132 = .ok (.iastore, 1) := by decide +kernel
theorem dX10_laysSteps_133 : decode cX10_laysSteps 133 = .ok (.aload_n 0, 1) := by decide +kernel
theorem dX10_laysSteps_134 : decode cX10_laysSteps 134 = .ok (.aload_n 0, 1) := by decide +kernel
theorem dX10_laysSteps_135 : decode cX10_laysSteps 135 = .ok (.getfield 47, 3) := by decide +kernel
theorem dX10_laysSteps_138 : decode cX10_laysSteps 138 = .ok (.iload 4, 2) := by decide +kernel
theorem dX10_laysSteps_140 : decode cX10_laysSteps 140 = .ok (.iaload, 1) := by decide +kernel
theorem dX10_laysSteps_141 : decode cX10_laysSteps 141 = .ok (.invokevirtual 153, 3) := by decide +kernel
theorem dX10_laysSteps_144 : decode cX10_laysSteps 144 = .ok (.iinc 4 1, 3) := by decide +kernel
theorem dX10_laysSteps_147 : decode cX10_laysSteps 147 = .ok (.goto (-101), 3) := by decide +kernel
theorem dX10_laysSteps_150 : decode cX10_laysSteps 150 = .ok (.iinc 3 1, 3) := by decide +kernel
theorem dX10_laysSteps_153 : decode cX10_laysSteps 153 = .ok (.goto (-122), 3) := by decide +kernel
theorem dX10_laysSteps_156 : decode cX10_laysSteps 156 = .ok (.iinc 2 1, 3) := by decide +kernel
theorem dX10_laysSteps_159 : decode cX10_laysSteps 159 = .ok (.goto (-138), 3) := by decide +kernel
theorem dX10_laysSteps_162 : decode cX10_laysSteps 162 = .ok (.return_, 1) := by decide +kernel
theorem dX10_stepsTo_0 : decode cX10_stepsTo 0 = .ok (.iconst (-1), 1) := by decide +kernel
theorem dX10_stepsTo_1 : decode cX10_stepsTo 1 = .ok (.istore_n 2, 1) := by decide +kernel
theorem dX10_stepsTo_2 : decode cX10_stepsTo 2 = .ok (.iconst 0, 1) := by decide +kernel
theorem dX10_stepsTo_3 : decode cX10_stepsTo 3 = .ok (.istore_n 3, 1) := by decide +kernel
theorem dX10_stepsTo_4 : decode cX10_stepsTo 4 = .ok (.iload_n 3, 1) := by decide +kernel
theorem dX10_stepsTo_5 : decode cX10_stepsTo 5 = .ok (.aload_n 0, 1) := by decide +kernel
theorem dX10_stepsTo_6 : decode cX10_stepsTo 6 = .ok (.getfield 89, 3) := by decide +kernel
theorem dX10_stepsTo_9 : decode cX10_stepsTo 9 = .ok (.if_icmp .ge 122, 3) := by decide +kernel
theorem dX10_stepsTo_12 : decode cX10_stepsTo 12 = .ok (.sipush 150, 3) := by decide +kernel
theorem dX10_stepsTo_15 : decode cX10_stepsTo 15 = .ok (.iload_n 3, 1) := by decide +kernel
theorem dX10_stepsTo_16 : decode cX10_stepsTo 16 = .ok (.imul, 1) := by decide +kernel
theorem dX10_stepsTo_17 : decode cX10_stepsTo 17 = .ok (.istore 4, 2) := by decide +kernel
theorem dX10_stepsTo_19 : decode cX10_stepsTo 19 = .ok (.aload_n 0, 1) := by decide +kernel
theorem dX10_stepsTo_20 : decode cX10_stepsTo 20 = .ok (.getfield 38, 3) := by decide +kernel
theorem dX10_stepsTo_23 : decode cX10_stepsTo 23 = .ok (.iload_n 3, 1) := by decide +kernel
theorem dX10_stepsTo_24 : decode cX10_stepsTo 24 = .ok (.iaload, 1) := by decide +kernel
theorem dX10_stepsTo_25 : decode cX10_stepsTo 25 = .ok (.iconst 2, 1) := by decide +kernel
theorem dX10_stepsTo_26 : decode cX10_stepsTo 26 = .ok (.if_icmp .eq 99, 3) := by decide +kernel
theorem dX10_stepsTo_29 : decode cX10_stepsTo 29 = .ok (.iload 4, 2) := by decide +kernel
theorem dX10_stepsTo_31 : decode cX10_stepsTo 31 = .ok (.sipush 150, 3) := by decide +kernel
theorem dX10_stepsTo_34 : decode cX10_stepsTo 34 = .ok (.iload_n 3, 1) := by decide +kernel
theorem dX10_stepsTo_35 : decode cX10_stepsTo 35 = .ok (.imul, 1) := by decide +kernel
theorem dX10_stepsTo_36 : decode cX10_stepsTo 36 = .ok (.aload_n 0, 1) := by decide +kernel
theorem dX10_stepsTo_37 : decode cX10_stepsTo 37 = .ok (.getfield 41, 3) := by decide +kernel
theorem dX10_stepsTo_40 : decode cX10_stepsTo 40 = .ok (.iload_n 3, 1) := by decide +kernel
theorem dX10_stepsTo_41 : decode cX10_stepsTo 41 = .ok (.iaload, 1) := by decide +kernel
theorem dX10_stepsTo_42 : decode cX10_stepsTo 42 = .ok (.iadd, 1) := by decide +kernel
theorem dX10_stepsTo_43 : decode cX10_stepsTo 43 = .ok (.if_icmp .ge 82, 3) := by decide +kernel
theorem dX10_stepsTo_46 : decode cX10_stepsTo 46 = .ok (.aload_n 0, 1) := by decide +kernel
theorem dX10_stepsTo_47 : decode cX10_stepsTo 47 = .ok (.getfield 44, 3) := by decide +kernel
theorem dX10_stepsTo_50 : decode cX10_stepsTo 50 = .ok (.iload 4, 2) := by decide +kernel
theorem dX10_stepsTo_52 : decode cX10_stepsTo 52 = .ok (.iaload, 1) := by decide +kernel
theorem dX10_stepsTo_53 : decode cX10_stepsTo 53 = .ok (.iconst 1, 1) := by decide +kernel
theorem dX10_stepsTo_54 : decode cX10_stepsTo 54 = .ok (.if_icmp .ne 28, 3) := by decide +kernel
theorem dX10_stepsTo_57 : decode cX10_stepsTo 57 = .ok (.aload_n 0, 1) := by decide +kernel
theorem dX10_stepsTo_58 : decode cX10_stepsTo 58 = .ok (.getfield 47, 3) := by decide +kernel
theorem dX10_stepsTo_61 : decode cX10_stepsTo 61 = .ok (.iload 4, 2) := by decide +kernel
theorem dX10_stepsTo_63 : decode cX10_stepsTo 63 = .ok (.iaload, 1) := by decide +kernel
theorem dX10_stepsTo_64 : decode cX10_stepsTo 64 = .ok (.iload_n 1, 1) := by decide +kernel
theorem dX10_stepsTo_65 : decode cX10_stepsTo 65 = .ok (.if_icmp .ne 17, 3) := by decide +kernel
theorem dX10_stepsTo_68 : decode cX10_stepsTo 68 = .ok (.aload_n 0, 1) := by decide +kernel
theorem dX10_stepsTo_69 : decode cX10_stepsTo 69 = .ok (.aload_n 0, 1) := by decide +kernel
theorem dX10_stepsTo_70 : decode cX10_stepsTo 70 = .ok (.getfield 50, 3) := by decide +kernel
theorem dX10_stepsTo_73 : decode cX10_stepsTo 73 = .ok (.iload 4, 2) := by decide +kernel
theorem dX10_stepsTo_75 : decode cX10_stepsTo 75 = .ok (.iaload, 1) := by decide +kernel
theorem dX10_stepsTo_76 : decode cX10_stepsTo 76 = .ok (.invokevirtual 196, 3) := by decide +kernel
theorem dX10_stepsTo_79 : decode cX10_stepsTo 79 = .ok (.goto 4, 3) := by decide +kernel
theorem dX10_stepsTo_82 : decode cX10_stepsTo 82 = .ok (.iconst (-1), 1) := by decide +kernel
theorem dX10_stepsTo_83 : decode cX10_stepsTo 83 = .ok (.istore 5, 2) := by decide +kernel
theorem dX10_stepsTo_85 : decode cX10_stepsTo 85 = .ok (.iload 5, 2) := by decide +kernel
theorem dX10_stepsTo_87 : decode cX10_stepsTo 87 = .ok (.iconst (-1), 1) := by decide +kernel
theorem dX10_stepsTo_88 : decode cX10_stepsTo 88 = .ok (.if_icmp .eq 31, 3) := by decide +kernel
theorem dX10_stepsTo_91 : decode cX10_stepsTo 91 = .ok (.iload_n 2, 1) := by decide +kernel
theorem dX10_stepsTo_92 : decode cX10_stepsTo 92 = .ok (.iconst (-1), 1) := by decide +kernel
theorem dX10_stepsTo_93 : decode cX10_stepsTo 93 = .ok (.if_icmp .eq 16, 3) := by decide +kernel
theorem dX10_stepsTo_96 : decode cX10_stepsTo 96 = .ok (.aload_n 0, 1) := by decide +kernel
theorem dX10_stepsTo_97 : decode cX10_stepsTo 97 = .ok (.getfield 75, 3) := by decide +kernel
theorem dX10_stepsTo_100 : decode cX10_stepsTo 100 = .ok (.iload 5, 2) := by decide +kernel
theorem dX10_stepsTo_102 : decode cX10_stepsTo 102 = .ok (.iaload, 1) := by decide +kernel
theorem dX10_stepsTo_103 : decode cX10_stepsTo 103 = .ok (.iconst 1, 1) := by decide +kernel
theorem dX10_stepsTo_104 : decode cX10_stepsTo 104 = .ok (.iadd, 1) := by decide +kernel
theorem dX10_stepsTo_105 : decode cX10_stepsTo 105 = .ok (.iload_n 2, 1) := by decide +kernel
theorem dX10_stepsTo_106 : decode cX10_stepsTo 106 = .ok (.if_icmp .ge 13, 3) := by decide +kernel
theorem dX10_stepsTo_109 : decode cX10_stepsTo 109 = .ok (.aload_n 0, 1) := by decide +kernel
theorem dX10_stepsTo_110 : decode cX10_stepsTo 110 = .ok (.getfield 75, 3) := by decide +kernel
theorem dX10_stepsTo_113 : decode cX10_stepsTo 113 = .ok (.iload 5, 2) := by decide +kernel
theorem dX10_stepsTo_115 : decode cX10_stepsTo 115 = .ok (.iaload, 1) := by decide +kernel
theorem dX10_stepsTo_116 : decode cX10_stepsTo 116 = .ok (.iconst 1, 1) := by decide +kernel
theorem dX10_stepsTo_117 : decode cX10_stepsTo 117 = .ok (.iadd, 1) := by decide +kernel
theorem dX10_stepsTo_118 : decode cX10_stepsTo 118 = .ok (.istore_n 2, 1) := by decide +kernel
theorem dX10_stepsTo_119 : decode cX10_stepsTo 119 = .ok (.iinc 4 1, 3) := by decide +kernel
theorem dX10_stepsTo_122 : decode cX10_stepsTo 122 = .ok (.goto (-103), 3) := by decide +kernel
theorem dX10_stepsTo_125 : decode cX10_stepsTo 125 = .ok (.iinc 3 1, 3) := by decide +kernel
theorem dX10_stepsTo_128 : decode cX10_stepsTo 128 = .ok (.goto (-124), 3) := by decide +kernel
theorem dX10_stepsTo_131 : decode cX10_stepsTo 131 = .ok (.iload_n 2, 1) := by decide +kernel
theorem dX10_stepsTo_132 : decode cX10_stepsTo 132 = .ok (.ireturn, 1) := by decide +kernel
theorem dX10_openSteps_0 : decode cX10_openSteps 0 = .ok (.aload_n 0, 1) := by decide +kernel
theorem dX10_openSteps_1 : decode cX10_openSteps 1 = .ok (.iload_n 1, 1) := by decide +kernel
theorem dX10_openSteps_2 : decode cX10_openSteps 2 = .ok (.iconst (-1), 1) := by decide +kernel
theorem dX10_openSteps_3 : decode cX10_openSteps 3 = .ok (.if_icmp .eq 10, 3) := by decide +kernel
theorem dX10_openSteps_6 : decode cX10_openSteps 6 = .ok (.iload_n 1, 1) := by decide +kernel
theorem dX10_openSteps_7 : decode cX10_openSteps 7 = .ok (.invokestatic 193, 3) := by decide +kernel
theorem dX10_openSteps_10 : decode cX10_openSteps 10 = .ok (.ifCond .eq 15, 3) := by decide +kernel
theorem dX10_openSteps_13 : decode cX10_openSteps 13 = .ok (.aload_n 0, 1) := by decide +kernel
theorem dX10_openSteps_14 : decode cX10_openSteps 14 = .ok (.iload_n 2, 1) := by decide +kernel
theorem dX10_openSteps_15 : decode cX10_openSteps 15 = .ok (.invokevirtual 183, 3) := by decide +kernel
theorem dX10_openSteps_18 : decode cX10_openSteps 18 = .ok (.ifCond .eq 7, 3) := by decide +kernel
theorem dX10_openSteps_21 : decode cX10_openSteps 21 = .ok (.iconst 0, 1) := by decide +kernel
theorem dX10_openSteps_22 : decode cX10_openSteps 22 = .ok (.goto 4, 3) := by decide +kernel
theorem dX10_openSteps_25 : decode cX10_openSteps 25 = .ok (.iconst 1, 1) := by decide +kernel
theorem dX10_openSteps_26 : decode cX10_openSteps 26 = .ok (.putfield 82, 3) := by decide +kernel
theorem dX10_openSteps_29 : decode cX10_openSteps 29 = .ok (.aload_n 0, 1) := by decide +kernel
theorem dX10_openSteps_30 : decode cX10_openSteps 30 = .ok (.getfield 82, 3) := by decide +kernel
theorem dX10_openSteps_33 : decode cX10_openSteps 33 = .ok (.ifCond .le 5, 3) := by decide +kernel
theorem dX10_openSteps_36 : decode cX10_openSteps 36 = .ok (.iconst 0, 1) := by decide +kernel
theorem dX10_openSteps_37 : decode cX10_openSteps 37 = .ok (.ireturn, 1) := by decide +kernel
theorem dX10_openSteps_38 : decode cX10_openSteps 38 = .ok (.iload_n 1, 1) := by decide +kernel
theorem dX10_openSteps_39 : decode cX10_openSteps 39 = .ok (.iconst (-1), 1) := by decide +kernel
theorem dX10_openSteps_40 : decode cX10_openSteps 40 = .ok (.if_icmp .ne 12, 3) := by decide +kernel
theorem dX10_openSteps_43 : decode cX10_openSteps 43 = .ok (.aload_n 0, 1) := by decide +kernel
theorem dX10_openSteps_44 : decode cX10_openSteps 44 = .ok (.getfield 7, 3) := by decide +kernel
theorem dX10_openSteps_47 : decode cX10_openSteps 47 = .ok (.iconst 0, 1) := by decide +kernel
theorem dX10_openSteps_48 : decode cX10_openSteps 48 = .ok (.iaload, 1) := by decide +kernel
theorem dX10_openSteps_49 : decode cX10_openSteps 49 = .ok (.goto 9, 3) := by decide +kernel
theorem dX10_openSteps_52 : decode cX10_openSteps 52 = .ok (.aload_n 0, 1) := by decide +kernel
theorem dX10_openSteps_53 : decode cX10_openSteps 53 = .ok (.getfield 22, 3) := by decide +kernel
theorem dX10_openSteps_56 : decode cX10_openSteps 56 = .ok (.iload_n 1, 1) := by decide +kernel
theorem dX10_openSteps_57 : decode cX10_openSteps 57 = .ok (.iaload, 1) := by decide +kernel
theorem dX10_openSteps_58 : decode cX10_openSteps 58 = .ok (.istore_n 3, 1) := by decide +kernel
theorem dX10_openSteps_59 : decode cX10_openSteps 59 = .ok (.iconst (-1), 1) := by decide +kernel
theorem dX10_openSteps_60 : decode cX10_openSteps 60 = .ok (.istore 4, 2) := by decide +kernel
theorem dX10_openSteps_62 : decode cX10_openSteps 62 = .ok (.iload_n 3, 1) := by decide +kernel
theorem dX10_openSteps_63 : decode cX10_openSteps 63 = .ok (.ifCond .le 15, 3) := by decide +kernel
theorem dX10_openSteps_66 : decode cX10_openSteps 66 = .ok (.aload_n 0, 1) := by decide +kernel
theorem dX10_openSteps_67 : decode cX10_openSteps 67 = .ok (.iload_n 3, 1) := by decide +kernel
theorem dX10_openSteps_68 : decode cX10_openSteps 68 = .ok (.invokevirtual 199, 3) := by decide +kernel
theorem dX10_openSteps_71 : decode cX10_openSteps 71 = .ok (.aload_n 0, 1) := by decide +kernel
theorem dX10_openSteps_72 : decode cX10_openSteps 72 = .ok (.iload_n 2, 1) := by decide +kernel
theorem dX10_openSteps_73 : decode cX10_openSteps 73 = .ok (.invokevirtual 202, 3) := by decide +kernel
theorem dX10_openSteps_76 : decode cX10_openSteps 76 = .ok (.istore 4, 2) := by decide +kernel
theorem dX10_openSteps_78 : decode cX10_openSteps 78 = .ok (.aload_n 0, 1) := by decide +kernel
theorem dX10_openSteps_79 : decode cX10_openSteps 79 = .ok (.iload 4, 2) := by decide +kernel
theorem dX10_openSteps_81 : decode cX10_openSteps 81 = .ok (.iconst (-1), 1) := by decide +kernel
theorem dX10_openSteps_82 : decode cX10_openSteps 82 = .ok (.if_icmp .ne 7, 3) := by decide +kernel
theorem dX10_openSteps_85 : decode cX10_openSteps 85 = .ok (.iconst 2, 1) := by decide +kernel
theorem dX10_openSteps_86 : decode cX10_openSteps 86 = .ok (.goto 4, 3) := by decide +kernel
theorem dX10_openSteps_89 : decode cX10_openSteps 89 = .ok (.iconst 0, 1) := by decide +kernel
theorem dX10_openSteps_90 : decode cX10_openSteps 90 = .ok (.putfield 82, 3) := by decide +kernel
theorem dX10_openSteps_93 : decode cX10_openSteps 93 = .ok (.aload_n 0, 1) := by decide +kernel
theorem dX10_openSteps_94 : decode cX10_openSteps 94 = .ok (.getfield 82, 3) := by decide +kernel
theorem dX10_openSteps_97 : decode cX10_openSteps 97 = .ok (.ifCond .le 7, 3) := by decide +kernel
theorem dX10_openSteps_100 : decode cX10_openSteps 100 = .ok (.iconst 0, 1) := by decide +kernel
theorem dX10_openSteps_101 : decode cX10_openSteps 101 = .ok (.goto 5, 3) := by decide +kernel
theorem dX10_openSteps_104 : decode cX10_openSteps 104 = .ok (.iload 4, 2) := by decide +kernel
theorem dX10_openSteps_106 : decode cX10_openSteps 106 = .ok (.ireturn, 1) := by decide +kernel
theorem dX10_exposedBy_0 : decode cX10_exposedBy 0 = .ok (.aload_n 0, 1) := by decide +kernel
theorem dX10_exposedBy_1 : decode cX10_exposedBy 1 = .ok (.iload_n 1, 1) := by decide +kernel
theorem dX10_exposedBy_2 : decode cX10_exposedBy 2 = .ok (.invokestatic 193, 3) := by decide +kernel
theorem dX10_exposedBy_5 : decode cX10_exposedBy 5 = .ok (.ifCond .eq 15, 3) := by decide +kernel
theorem dX10_exposedBy_8 : decode cX10_exposedBy 8 = .ok (.aload_n 0, 1) := by decide +kernel
theorem dX10_exposedBy_9 : decode cX10_exposedBy 9 = .ok (.iload_n 2, 1) := by decide +kernel
theorem dX10_exposedBy_10 : decode cX10_exposedBy 10 = .ok (.invokevirtual 205, 3) := by decide +kernel
theorem dX10_exposedBy_13 : decode cX10_exposedBy 13 = .ok (.ifCond .eq 7, 3) := by decide +kernel
theorem dX10_exposedBy_16 : decode cX10_exposedBy 16 = .ok (.iconst 0, 1) := by decide +kernel
theorem dX10_exposedBy_17 : decode cX10_exposedBy 17 = .ok (.goto 4, 3) := by decide +kernel
theorem dX10_exposedBy_20 : decode cX10_exposedBy 20 = .ok (.iconst 1, 1) := by decide +kernel
theorem dX10_exposedBy_21 : decode cX10_exposedBy 21 = .ok (.putfield 82, 3) := by decide +kernel
theorem dX10_exposedBy_24 : decode cX10_exposedBy 24 = .ok (.aload_n 0, 1) := by decide +kernel
theorem dX10_exposedBy_25 : decode cX10_exposedBy 25 = .ok (.getfield 82, 3) := by decide +kernel
theorem dX10_exposedBy_28 : decode cX10_exposedBy 28 = .ok (.ifCond .gt 12, 3) := by decide +kernel
theorem dX10_exposedBy_31 : decode cX10_exposedBy 31 = .ok (.aload_n 0, 1) := by decide +kernel
theorem dX10_exposedBy_32 : decode cX10_exposedBy 32 = .ok (.getfield 22, 3) := by decide +kernel
theorem dX10_exposedBy_35 : decode cX10_exposedBy 35 = .ok (.iload_n 1, 1) := by decide +kernel
theorem dX10_exposedBy_36 : decode cX10_exposedBy 36 = .ok (.iaload, 1) := by decide +kernel
theorem dX10_exposedBy_37 : decode cX10_exposedBy 37 = .ok (.ifCond .ne 5, 3) := by decide +kernel
theorem dX10_exposedBy_40 : decode cX10_exposedBy 40 = .ok (.iconst 0, 1) := by decide +kernel
theorem dX10_exposedBy_41 : decode cX10_exposedBy 41 = .ok (.ireturn, 1) := by decide +kernel
theorem dX10_exposedBy_42 : decode cX10_exposedBy 42 = .ok (.aload_n 0, 1) := by decide +kernel
theorem dX10_exposedBy_43 : decode cX10_exposedBy 43 = .ok (.iconst 0, 1) := by decide +kernel
theorem dX10_exposedBy_44 : decode cX10_exposedBy 44 = .ok (.putfield 146, 3) := by decide +kernel
theorem dX10_exposedBy_47 : decode cX10_exposedBy 47 = .ok (.aload_n 0, 1) := by decide +kernel
theorem dX10_exposedBy_48 : decode cX10_exposedBy 48 = .ok (.aload_n 0, 1) := by decide +kernel
theorem dX10_exposedBy_49 : decode cX10_exposedBy 49 = .ok (.getfield 22, 3) := by decide +kernel
theorem dX10_exposedBy_52 : decode cX10_exposedBy 52 = .ok (.iload_n 1, 1) := by decide +kernel
theorem dX10_exposedBy_53 : decode cX10_exposedBy 53 = .ok (.iaload, 1) := by decide +kernel
theorem dX10_exposedBy_54 : decode cX10_exposedBy 54 = .ok (.invokevirtual 153, 3) := by decide +kernel
theorem dX10_exposedBy_57 : decode cX10_exposedBy 57 = .ok (.sipush 150, 3) := by decide +kernel
theorem dX10_exposedBy_60 : decode cX10_exposedBy 60 = .ok (.iload_n 2, 1) := by decide +kernel
theorem dX10_exposedBy_61 : decode cX10_exposedBy 61 = .ok (.imul, 1) := by decide +kernel
theorem dX10_exposedBy_62 : decode cX10_exposedBy 62 = .ok (.istore_n 3, 1) := by decide +kernel
theorem dX10_exposedBy_63 : decode cX10_exposedBy 63 = .ok (.iload_n 3, 1) := by decide +kernel
theorem dX10_exposedBy_64 : decode cX10_exposedBy 64 = .ok (.aload_n 0, 1) := by decide +kernel
theorem dX10_exposedBy_65 : decode cX10_exposedBy 65 = .ok (.getfield 41, 3) := by decide +kernel
theorem dX10_exposedBy_68 : decode cX10_exposedBy 68 = .ok (.iload_n 2, 1) := by decide +kernel
theorem dX10_exposedBy_69 : decode cX10_exposedBy 69 = .ok (.iaload, 1) := by decide +kernel
theorem dX10_exposedBy_70 : decode cX10_exposedBy 70 = .ok (.iadd, 1) := by decide +kernel
theorem dX10_exposedBy_71 : decode cX10_exposedBy 71 = .ok (.istore 4, 2) := by decide +kernel
theorem dX10_exposedBy_73 : decode cX10_exposedBy 73 = .ok (.iconst (-1), 1) := by decide +kernel
theorem dX10_exposedBy_74 : decode cX10_exposedBy 74 = .ok (.istore 5, 2) := by decide +kernel
theorem dX10_exposedBy_76 : decode cX10_exposedBy 76 = .ok (.iload 5, 2) := by decide +kernel
theorem dX10_exposedBy_78 : decode cX10_exposedBy 78 = .ok (.aload_n 0, 1) := by decide +kernel
theorem dX10_exposedBy_79 : decode cX10_exposedBy 79 = .ok (.getfield 146, 3) := by decide +kernel
theorem dX10_exposedBy_82 : decode cX10_exposedBy 82 = .ok (.if_icmp .eq 63, 3) := by decide +kernel
theorem dX10_exposedBy_85 : decode cX10_exposedBy 85 = .ok (.aload_n 0, 1) := by decide +kernel
theorem dX10_exposedBy_86 : decode cX10_exposedBy 86 = .ok (.getfield 146, 3) := by decide +kernel
theorem dX10_exposedBy_89 : decode cX10_exposedBy 89 = .ok (.istore 5, 2) := by decide +kernel
theorem dX10_exposedBy_91 : decode cX10_exposedBy 91 = .ok (.iload_n 3, 1) := by decide +kernel
theorem dX10_exposedBy_92 : decode cX10_exposedBy 92 = .ok (.istore 6, 2) := by decide +kernel
theorem dX10_exposedBy_94 : decode cX10_exposedBy 94 = .ok (.iload 6, 2) := by decide +kernel
theorem dX10_exposedBy_96 : decode cX10_exposedBy 96 = .ok (.iload 4, 2) := by decide +kernel
theorem dX10_exposedBy_98 : decode cX10_exposedBy 98 = .ok (.if_icmp .ge 44, 3) := by decide +kernel
theorem dX10_exposedBy_101 : decode cX10_exposedBy 101 = .ok (.aload_n 0, 1) := by decide +kernel
theorem dX10_exposedBy_102 : decode cX10_exposedBy 102 = .ok (.getfield 44, 3) := by decide +kernel
theorem dX10_exposedBy_105 : decode cX10_exposedBy 105 = .ok (.iload 6, 2) := by decide +kernel
theorem dX10_exposedBy_107 : decode cX10_exposedBy 107 = .ok (.iaload, 1) := by decide +kernel
theorem dX10_exposedBy_108 : decode cX10_exposedBy 108 = .ok (.ifCond .ne 28, 3) := by decide +kernel
theorem dX10_exposedBy_111 : decode cX10_exposedBy 111 = .ok (.aload_n 0, 1) := by decide +kernel
theorem dX10_exposedBy_112 : decode cX10_exposedBy 112 = .ok (.aload_n 0, 1) := by decide +kernel
theorem dX10_exposedBy_113 : decode cX10_exposedBy 113 = .ok (.getfield 50, 3) := by decide +kernel
theorem dX10_exposedBy_116 : decode cX10_exposedBy 116 = .ok (.iload 6, 2) := by decide +kernel
theorem dX10_exposedBy_118 : decode cX10_exposedBy 118 = .ok (.iaload, 1) := by decide +kernel
theorem dX10_exposedBy_119 : decode cX10_exposedBy 119 = .ok (.invokevirtual 149, 3) := by decide +kernel
theorem dX10_exposedBy_122 : decode cX10_exposedBy 122 = .ok (.ifCond .eq 14, 3) := by decide +kernel
theorem dX10_exposedBy_125 : decode cX10_exposedBy 125 = .ok (.aload_n 0, 1) := by decide +kernel
theorem dX10_exposedBy_126 : decode cX10_exposedBy 126 = .ok (.aload_n 0, 1) := by decide +kernel
theorem dX10_exposedBy_127 : decode cX10_exposedBy 127 = .ok (.getfield 47, 3) := by decide +kernel
theorem dX10_exposedBy_130 : decode cX10_exposedBy 130 = .ok (.iload 6, 2) := by decide +kernel
theorem dX10_exposedBy_132 : decode cX10_exposedBy 132 = .ok (.iaload, 1) := by decide +kernel
theorem dX10_exposedBy_133 : decode cX10_exposedBy 133 = .ok (.invokevirtual 153, 3) := by decide +kernel
theorem dX10_exposedBy_136 : decode cX10_exposedBy 136 = .ok (.iinc 6 1, 3) := by decide +kernel
theorem dX10_exposedBy_139 : decode cX10_exposedBy 139 = .ok (.goto (-45), 3) := by decide +kernel
theorem dX10_exposedBy_142 : decode cX10_exposedBy 142 = .ok (.goto (-66), 3) := by decide +kernel
theorem dX10_exposedBy_145 : decode cX10_exposedBy 145 = .ok (.iconst 0, 1) := by decide +kernel
theorem dX10_exposedBy_146 : decode cX10_exposedBy 146 = .ok (.istore 5, 2) := by decide +kernel
theorem dX10_exposedBy_148 : decode cX10_exposedBy 148 = .ok (.iconst 0, 1) := by decide +kernel
theorem dX10_exposedBy_149 : decode cX10_exposedBy 149 = .ok (.istore 6, 2) := by decide +kernel
theorem dX10_exposedBy_151 : decode cX10_exposedBy 151 = .ok (.iload 6, 2) := by decide +kernel
theorem dX10_exposedBy_153 : decode cX10_exposedBy 153 = .ok (.aload_n 0, 1) := by decide +kernel
theorem dX10_exposedBy_154 : decode cX10_exposedBy 154 = .ok (.getfield 95, 3) := by decide +kernel
theorem dX10_exposedBy_157 : decode cX10_exposedBy 157 = .ok (.if_icmp .ge 92, 3) := by decide +kernel
theorem dX10_exposedBy_160 : decode cX10_exposedBy 160 = .ok (.iconst 0, 1) := by decide +kernel
theorem dX10_exposedBy_161 : decode cX10_exposedBy 161 = .ok (.istore 7, 2) := by decide +kernel
theorem dX10_exposedBy_163 : decode cX10_exposedBy 163 = .ok (.iload_n 3, 1) := by decide +kernel
theorem dX10_exposedBy_164 : decode cX10_exposedBy 164 = .ok (.istore 8, 2) := by decide +kernel
theorem dX10_exposedBy_166 : decode cX10_exposedBy 166 = .ok (.iload 8, 2) := by decide +kernel
theorem dX10_exposedBy_168 : decode cX10_exposedBy 168 = .ok (.iload 4, 2) := by decide +kernel
theorem dX10_exposedBy_170 : decode cX10_exposedBy 170 = .ok (.if_icmp .ge 58, 3) := by decide +kernel
theorem dX10_exposedBy_173 : decode cX10_exposedBy 173 = .ok (.iload 7, 2) := by decide +kernel
theorem dX10_exposedBy_175 : decode cX10_exposedBy 175 = .ok (.ifCond .ne 53, 3) := by decide +kernel
theorem dX10_exposedBy_178 : decode cX10_exposedBy 178 = .ok (.aload_n 0, 1) := by decide +kernel
theorem dX10_exposedBy_179 : decode cX10_exposedBy 179 = .ok (.getfield 44, 3) := by decide +kernel
theorem dX10_exposedBy_182 : decode cX10_exposedBy 182 = .ok (.iload 8, 2) := by decide +kernel
theorem dX10_exposedBy_184 : decode cX10_exposedBy 184 = .ok (.iaload, 1) := by decide +kernel
theorem dX10_exposedBy_185 : decode cX10_exposedBy 185 = .ok (.iconst 1, 1) := by decide +kernel
theorem dX10_exposedBy_186 : decode cX10_exposedBy 186 = .ok (.if_icmp .ne 33, 3) := by decide +kernel
theorem dX10_exposedBy_189 : decode cX10_exposedBy 189 = .ok (.aload_n 0, 1) := by decide +kernel
theorem dX10_exposedBy_190 : decode cX10_exposedBy 190 = .ok (.getfield 47, 3) := by decide +kernel
theorem dX10_exposedBy_193 : decode cX10_exposedBy 193 = .ok (.iload 8, 2) := by decide +kernel
theorem dX10_exposedBy_195 : decode cX10_exposedBy 195 = .ok (.iaload, 1) := by decide +kernel
theorem dX10_exposedBy_196 : decode cX10_exposedBy 196 = .ok (.iload 6, 2) := by decide +kernel
theorem dX10_exposedBy_198 : decode cX10_exposedBy 198 = .ok (.if_icmp .ne 21, 3) := by decide +kernel
theorem dX10_exposedBy_201 : decode cX10_exposedBy 201 = .ok (.aload_n 0, 1) := by decide +kernel
theorem dX10_exposedBy_202 : decode cX10_exposedBy 202 = .ok (.aload_n 0, 1) := by decide +kernel
theorem dX10_exposedBy_203 : decode cX10_exposedBy 203 = .ok (.getfield 50, 3) := by decide +kernel
theorem dX10_exposedBy_206 : decode cX10_exposedBy 206 = .ok (.iload 8, 2) := by decide +kernel
theorem dX10_exposedBy_208 : decode cX10_exposedBy 208 = .ok (.iaload, 1) := by decide +kernel
theorem dX10_exposedBy_209 : decode cX10_exposedBy 209 = .ok (.invokevirtual 149, 3) := by decide +kernel
theorem dX10_exposedBy_212 : decode cX10_exposedBy 212 = .ok (.ifCond .eq 7, 3) := by decide +kernel
theorem dX10_exposedBy_215 : decode cX10_exposedBy 215 = .ok (.iconst 1, 1) := by decide +kernel
theorem dX10_exposedBy_216 : decode cX10_exposedBy 216 = .ok (.goto 4, 3) := by decide +kernel
theorem dX10_exposedBy_219 : decode cX10_exposedBy 219 = .ok (.iconst 0, 1) := by decide +kernel
theorem dX10_exposedBy_220 : decode cX10_exposedBy 220 = .ok (.istore 7, 2) := by decide +kernel
theorem dX10_exposedBy_222 : decode cX10_exposedBy 222 = .ok (.iinc 8 1, 3) := by decide +kernel
theorem dX10_exposedBy_225 : decode cX10_exposedBy 225 = .ok (.goto (-59), 3) := by decide +kernel
theorem dX10_exposedBy_228 : decode cX10_exposedBy 228 = .ok (.iload 5, 2) := by decide +kernel
theorem dX10_exposedBy_230 : decode cX10_exposedBy 230 = .ok (.iload 7, 2) := by decide +kernel
theorem dX10_exposedBy_232 : decode cX10_exposedBy 232 = .ok (.ifCond .eq 7, 3) := by decide +kernel
theorem dX10_exposedBy_235 : decode cX10_exposedBy 235 = .ok (.iconst 1, 1) := by decide +kernel
theorem dX10_exposedBy_236 : decode cX10_exposedBy 236 = .ok (.goto 4, 3) := by decide +kernel
theorem dX10_exposedBy_239 : decode cX10_exposedBy 239 = .ok (.iconst 0, 1) := by decide +kernel
theorem dX10_exposedBy_240 : decode cX10_exposedBy 240 = .ok (.iadd, 1) := by decide +kernel
theorem dX10_exposedBy_241 : decode cX10_exposedBy 241 = .ok (.istore 5, 2) := by decide +kernel
theorem dX10_exposedBy_243 : decode cX10_exposedBy 243 = .ok (.iinc 6 1, 3) := by decide +kernel
theorem dX10_exposedBy_246 : decode cX10_exposedBy 246 = .ok (.goto (-95), 3) := by decide +kernel
theorem dX10_exposedBy_249 : decode cX10_exposedBy 249 = .ok (.iload 5, 2) := by decide +kernel
theorem dX10_exposedBy_251 : decode cX10_exposedBy 251 = .ok (.ireturn, 1) := by decide +kernel
theorem dX10_isDue_0 : decode cX10_isDue 0 = .ok (.aload_n 0, 1) := by decide +kernel
theorem dX10_isDue_1 : decode cX10_isDue 1 = .ok (.getfield 16, 3) := by decide +kernel
theorem dX10_isDue_4 : decode cX10_isDue 4 = .ok (.iload_n 1, 1) := by decide +kernel
theorem dX10_isDue_5 : decode cX10_isDue 5 = .ok (.iaload, 1) := by decide +kernel
theorem dX10_isDue_6 : decode cX10_isDue 6 = .ok (.iconst (-1), 1) := by decide +kernel
theorem dX10_isDue_7 : decode cX10_isDue 7 = .ok (.if_icmp .eq 40, 3) := by decide +kernel
theorem dX10_isDue_10 : decode cX10_isDue 10 = .ok (.aload_n 0, 1) := by decide +kernel
theorem dX10_isDue_11 : decode cX10_isDue 11 = .ok (.getfield 63, 3) := by decide +kernel
theorem dX10_isDue_14 : decode cX10_isDue 14 = .ok (.aload_n 0, 1) := by decide +kernel
theorem dX10_isDue_15 : decode cX10_isDue 15 = .ok (.getfield 16, 3) := by decide +kernel
theorem dX10_isDue_18 : decode cX10_isDue 18 = .ok (.iload_n 1, 1) := by decide +kernel
theorem dX10_isDue_19 : decode cX10_isDue 19 = .ok (.iaload, 1) := by decide +kernel
theorem dX10_isDue_20 : decode cX10_isDue 20 = .ok (.iaload, 1) := by decide +kernel
theorem dX10_isDue_21 : decode cX10_isDue 21 = .ok (.iconst (-1), 1) := by decide +kernel
theorem dX10_isDue_22 : decode cX10_isDue 22 = .ok (.if_icmp .eq 25, 3) := by decide +kernel
theorem dX10_isDue_25 : decode cX10_isDue 25 = .ok (.aload_n 0, 1) := by decide +kernel
theorem dX10_isDue_26 : decode cX10_isDue 26 = .ok (.getfield 63, 3) := by decide +kernel
theorem dX10_isDue_29 : decode cX10_isDue 29 = .ok (.aload_n 0, 1) := by decide +kernel
theorem dX10_isDue_30 : decode cX10_isDue 30 = .ok (.getfield 16, 3) := by decide +kernel
theorem dX10_isDue_33 : decode cX10_isDue 33 = .ok (.iload_n 1, 1) := by decide +kernel
theorem dX10_isDue_34 : decode cX10_isDue 34 = .ok (.iaload, 1) := by decide +kernel
theorem dX10_isDue_35 : decode cX10_isDue 35 = .ok (.iaload, 1) := by decide +kernel
theorem dX10_isDue_36 : decode cX10_isDue 36 = .ok (.aload_n 0, 1) := by decide +kernel
theorem dX10_isDue_37 : decode cX10_isDue 37 = .ok (.getfield 92, 3) := by decide +kernel
theorem dX10_isDue_40 : decode cX10_isDue 40 = .ok (.if_icmp .gt 7, 3) := by decide +kernel
theorem dX10_isDue_43 : decode cX10_isDue 43 = .ok (.iconst 1, 1) := by decide +kernel
theorem dX10_isDue_44 : decode cX10_isDue 44 = .ok (.goto 4, 3) := by decide +kernel
theorem dX10_isDue_47 : decode cX10_isDue 47 = .ok (.iconst 0, 1) := by decide +kernel
theorem dX10_isDue_48 : decode cX10_isDue 48 = .ok (.ireturn, 1) := by decide +kernel
theorem dX10_setDue_0 : decode cX10_setDue 0 = .ok (.aload_n 0, 1) := by decide +kernel
theorem dX10_setDue_1 : decode cX10_setDue 1 = .ok (.iload_n 1, 1) := by decide +kernel
theorem dX10_setDue_2 : decode cX10_setDue 2 = .ok (.invokestatic 170, 3) := by decide +kernel
theorem dX10_setDue_5 : decode cX10_setDue 5 = .ok (.ifCond .ne 7, 3) := by decide +kernel
theorem dX10_setDue_8 : decode cX10_setDue 8 = .ok (.iconst 1, 1) := by decide +kernel
theorem dX10_setDue_9 : decode cX10_setDue 9 = .ok (.goto 36, 3) := by decide +kernel
theorem dX10_setDue_12 : decode cX10_setDue 12 = .ok (.iload_n 2, 1) := by decide +kernel
theorem dX10_setDue_13 : decode cX10_setDue 13 = .ok (.i2l, 1) := by decide +kernel
theorem dX10_setDue_14 : decode cX10_setDue 14 = .ok (.ldc2_w 208, 3) := by decide +kernel
theorem dX10_setDue_17 : decode cX10_setDue 17 = .ok (.ldc2_w 210, 3) := by decide +kernel
theorem dX10_setDue_20 : decode cX10_setDue 20 = .ok (.invokestatic 117, 3) := by decide +kernel
theorem dX10_setDue_23 : decode cX10_setDue 23 = .ok (.ifCond .ne 7, 3) := by decide +kernel
theorem dX10_setDue_26 : decode cX10_setDue 26 = .ok (.iconst 2, 1) := by decide +kernel
theorem dX10_setDue_27 : decode cX10_setDue 27 = .ok (.goto 18, 3) := by decide +kernel
theorem dX10_setDue_30 : decode cX10_setDue 30 = .ok (.aload_n 0, 1) := by decide +kernel
theorem dX10_setDue_31 : decode cX10_setDue 31 = .ok (.getfield 16, 3) := by decide +kernel
theorem dX10_setDue_34 : decode cX10_setDue 34 = .ok (.iload_n 1, 1) := by decide +kernel
theorem dX10_setDue_35 : decode cX10_setDue 35 = .ok (.iaload, 1) := by decide +kernel
theorem dX10_setDue_36 : decode cX10_setDue 36 = .ok (.iconst (-1), 1) := by decide +kernel
theorem dX10_setDue_37 : decode cX10_setDue 37 = .ok (.if_icmp .ne 7, 3) := by decide +kernel
theorem dX10_setDue_40 : decode cX10_setDue 40 = .ok (.iconst 3, 1) := by decide +kernel
theorem dX10_setDue_41 : decode cX10_setDue 41 = .ok (.goto 4, 3) := by decide +kernel
theorem dX10_setDue_44 : decode cX10_setDue 44 = .ok (.iconst 0, 1) := by decide +kernel
theorem dX10_setDue_45 : decode cX10_setDue 45 = .ok (.putfield 82, 3) := by decide +kernel
theorem dX10_setDue_48 : decode cX10_setDue 48 = .ok (.aload_n 0, 1) := by decide +kernel
theorem dX10_setDue_49 : decode cX10_setDue 49 = .ok (.getfield 82, 3) := by decide +kernel
theorem dX10_setDue_52 : decode cX10_setDue 52 = .ok (.ifCond .le 5, 3) := by decide +kernel
theorem dX10_setDue_55 : decode cX10_setDue 55 = .ok (.iconst 0, 1) := by decide +kernel
theorem dX10_setDue_56 : decode cX10_setDue 56 = .ok (.ireturn, 1) := by decide +kernel
theorem dX10_setDue_57 : decode cX10_setDue 57 = .ok (.aload_n 0, 1) := by decide +kernel
theorem dX10_setDue_58 : decode cX10_setDue 58 = .ok (.getfield 63, 3) := by decide +kernel
theorem dX10_setDue_61 : decode cX10_setDue 61 = .ok (.aload_n 0, 1) := by decide +kernel
theorem dX10_setDue_62 : decode cX10_setDue 62 = .ok (.getfield 16, 3) := by decide +kernel
theorem dX10_setDue_65 : decode cX10_setDue 65 = .ok (.iload_n 1, 1) := by decide +kernel
theorem dX10_setDue_66 : decode cX10_setDue 66 = .ok (.iaload, 1) := by decide +kernel
theorem dX10_setDue_67 : decode cX10_setDue 67 = .ok (.iaload, 1) := by decide +kernel
theorem dX10_setDue_68 : decode cX10_setDue 68 = .ok (.istore_n 3, 1) := by decide +kernel
theorem dX10_setDue_69 : decode cX10_setDue 69 = .ok (.aload_n 0, 1) := by decide +kernel
theorem dX10_setDue_70 : decode cX10_setDue 70 = .ok (.getfield 63, 3) := by decide +kernel
theorem dX10_setDue_73 : decode cX10_setDue 73 = .ok (.aload_n 0, 1) := by decide +kernel
theorem dX10_setDue_74 : decode cX10_setDue 74 = .ok (.getfield 16, 3) := by decide +kernel
theorem dX10_setDue_77 : decode cX10_setDue 77 = .ok (.iload_n 1, 1) := by decide +kernel
theorem dX10_setDue_78 : decode cX10_setDue 78 = .ok (.iaload, 1) := by decide +kernel
theorem dX10_setDue_79 : decode cX10_setDue 79 = .ok (.iload_n 2, 1) := by decide +kernel
theorem dX10_setDue_80 : decode cX10_setDue 80 = .ok (.iastore, 1) := by decide +kernel
theorem dX10_setDue_81 : decode cX10_setDue 81 = .ok (.iload_n 3, 1) := by decide +kernel
theorem dX10_setDue_82 : decode cX10_setDue 82 = .ok (.ireturn, 1) := by decide +kernel
theorem dX10_passDays_0 : decode cX10_passDays 0 = .ok (.aload_n 0, 1) := by decide +kernel
theorem dX10_passDays_1 : decode cX10_passDays 1 = .ok (.iload_n 1, 1) := by decide +kernel
theorem dX10_passDays_2 : decode cX10_passDays 2 = .ok (.i2l, 1) := by decide +kernel
theorem dX10_passDays_3 : decode cX10_passDays 3 = .ok (.lconst 1, 1) := by decide +kernel
theorem dX10_passDays_4 : decode cX10_passDays 4 = .ok (.ldc2_w 212, 3) := by decide +kernel
theorem dX10_passDays_7 : decode cX10_passDays 7 = .ok (.invokestatic 117, 3) := by decide +kernel
theorem dX10_passDays_10 : decode cX10_passDays 10 = .ok (.ifCond .ne 7, 3) := by decide +kernel
theorem dX10_passDays_13 : decode cX10_passDays 13 = .ok (.iconst 1, 1) := by decide +kernel
theorem dX10_passDays_14 : decode cX10_passDays 14 = .ok (.goto 19, 3) := by decide +kernel
theorem dX10_passDays_17 : decode cX10_passDays 17 = .ok (.aload_n 0, 1) := by decide +kernel
theorem dX10_passDays_18 : decode cX10_passDays 18 = .ok (.getfield 92, 3) := by decide +kernel
theorem dX10_passDays_21 : decode cX10_passDays 21 = .ok (.iload_n 1, 1) := by decide +kernel
theorem dX10_passDays_22 : decode cX10_passDays 22 = .ok (.iadd, 1) := by decide +kernel
theorem dX10_passDays_23 : decode cX10_passDays 23 = .ok (.ldc 214, 2) := by decide +kernel
theorem dX10_passDays_25 : decode cX10_passDays 25 = .ok (.if_icmp .le 7, 3) := by decide +kernel
theorem dX10_passDays_28 : decode cX10_passDays 28 = .ok (.iconst 2, 1) := by decide +kernel
theorem dX10_passDays_29 : decode cX10_passDays 29 = .ok (.goto 4, 3) := by decide +kernel
theorem dX10_passDays_32 : decode cX10_passDays 32 = .ok (.iconst 0, 1) := by decide +kernel
theorem dX10_passDays_33 : decode cX10_passDays 33 = .ok (.putfield 82, 3) := by decide +kernel
theorem dX10_passDays_36 : decode cX10_passDays 36 = .ok (.aload_n 0, 1) := by decide +kernel
theorem dX10_passDays_37 : decode cX10_passDays 37 = .ok (.getfield 82, 3) := by decide +kernel
theorem dX10_passDays_40 : decode cX10_passDays 40 = .ok (.ifCond .le 5, 3) := by decide +kernel
theorem dX10_passDays_43 : decode cX10_passDays 43 = .ok (.iconst 0, 1) := by decide +kernel
theorem dX10_passDays_44 : decode cX10_passDays 44 = .ok (.ireturn, 1) := by decide +kernel
theorem dX10_passDays_45 : decode cX10_passDays 45 = .ok (.aload_n 0, 1) := by decide +kernel
theorem dX10_passDays_46 : decode cX10_passDays 46 = .ok (.dup, 1) := by decide +kernel
theorem dX10_passDays_47 : decode cX10_passDays 47 = .ok (.getfield 92, 3) := by decide +kernel
theorem dX10_passDays_50 : decode cX10_passDays 50 = .ok (.iload_n 1, 1) := by decide +kernel
theorem dX10_passDays_51 : decode cX10_passDays 51 = .ok (.iadd, 1) := by decide +kernel
theorem dX10_passDays_52 : decode cX10_passDays 52 = .ok (.putfield 92, 3) := by decide +kernel
theorem dX10_passDays_55 : decode cX10_passDays 55 = .ok (.iconst 0, 1) := by decide +kernel
theorem dX10_passDays_56 : decode cX10_passDays 56 = .ok (.istore_n 2, 1) := by decide +kernel
theorem dX10_passDays_57 : decode cX10_passDays 57 = .ok (.iconst 0, 1) := by decide +kernel
theorem dX10_passDays_58 : decode cX10_passDays 58 = .ok (.istore_n 3, 1) := by decide +kernel
theorem dX10_passDays_59 : decode cX10_passDays 59 = .ok (.iload_n 3, 1) := by decide +kernel
theorem dX10_passDays_60 : decode cX10_passDays 60 = .ok (.bipush 64, 2) := by decide +kernel
theorem dX10_passDays_62 : decode cX10_passDays 62 = .ok (.if_icmp .ge 47, 3) := by decide +kernel
theorem dX10_passDays_65 : decode cX10_passDays 65 = .ok (.aload_n 0, 1) := by decide +kernel
theorem dX10_passDays_66 : decode cX10_passDays 66 = .ok (.getfield 28, 3) := by decide +kernel
theorem dX10_passDays_69 : decode cX10_passDays 69 = .ok (.iload_n 3, 1) := by decide +kernel
theorem dX10_passDays_70 : decode cX10_passDays 70 = .ok (.baload, 1) := by decide +kernel
theorem dX10_passDays_71 : decode cX10_passDays 71 = .ok (.ifCond .ne 32, 3) := by decide +kernel
theorem dX10_passDays_74 : decode cX10_passDays 74 = .ok (.aload_n 0, 1) := by decide +kernel
theorem dX10_passDays_75 : decode cX10_passDays 75 = .ok (.iload_n 3, 1) := by decide +kernel
theorem dX10_passDays_76 : decode cX10_passDays 76 = .ok (.invokevirtual 215, 3) := by decide +kernel
theorem dX10_passDays_79 : decode cX10_passDays 79 = .ok (.ifCond .eq 24, 3) := by decide +kernel
theorem dX10_passDays_82 : decode cX10_passDays 82 = .ok (.aload_n 0, 1) := by decide +kernel
theorem dX10_passDays_83 : decode cX10_passDays 83 = .ok (.iload_n 3, 1) := by decide +kernel
theorem dX10_passDays_84 : decode cX10_passDays 84 = .ok (.invokevirtual 218, 3) := by decide +kernel
theorem dX10_passDays_87 : decode cX10_passDays 87 = .ok (.ifCond .eq 6, 3) := by decide +kernel
theorem dX10_passDays_90 : decode cX10_passDays 90 = .ok (.goto 13, 3) := by decide +kernel
theorem dX10_passDays_93 : decode cX10_passDays 93 = .ok (.aload_n 0, 1) := by decide +kernel
theorem dX10_passDays_94 : decode cX10_passDays 94 = .ok (.getfield 28, 3) := by decide +kernel
theorem dX10_passDays_97 : decode cX10_passDays 97 = .ok (.iload_n 3, 1) := by decide +kernel
theorem dX10_passDays_98 : decode cX10_passDays 98 = .ok (.iconst 1, 1) := by decide +kernel
theorem dX10_passDays_99 : decode cX10_passDays 99 = .ok (.bastore, 1) := by decide +kernel
theorem dX10_passDays_100 : decode cX10_passDays 100 = .ok (.iinc 2 1, 3) := by decide +kernel
theorem dX10_passDays_103 : decode cX10_passDays 103 = .ok (.iinc 3 1, 3) := by decide +kernel
theorem dX10_passDays_106 : decode cX10_passDays 106 = .ok (.goto (-47), 3) := by decide +kernel
theorem dX10_passDays_109 : decode cX10_passDays 109 = .ok (.iload_n 2, 1) := by decide +kernel
theorem dX10_passDays_110 : decode cX10_passDays 110 = .ok (.ireturn, 1) := by decide +kernel
theorem dX10_day_0 : decode cX10_day 0 = .ok (.aload_n 0, 1) := by decide +kernel
theorem dX10_day_1 : decode cX10_day 1 = .ok (.iconst 0, 1) := by decide +kernel
theorem dX10_day_2 : decode cX10_day 2 = .ok (.putfield 82, 3) := by decide +kernel
theorem dX10_day_5 : decode cX10_day 5 = .ok (.aload_n 0, 1) := by decide +kernel
theorem dX10_day_6 : decode cX10_day 6 = .ok (.getfield 92, 3) := by decide +kernel
theorem dX10_day_9 : decode cX10_day 9 = .ok (.ireturn, 1) := by decide +kernel
theorem dX10_dueCount_0 : decode cX10_dueCount 0 = .ok (.aload_n 0, 1) := by decide +kernel
theorem dX10_dueCount_1 : decode cX10_dueCount 1 = .ok (.iconst 0, 1) := by decide +kernel
theorem dX10_dueCount_2 : decode cX10_dueCount 2 = .ok (.putfield 82, 3) := by decide +kernel
theorem dX10_dueCount_5 : decode cX10_dueCount 5 = .ok (.iconst 0, 1) := by decide +kernel
theorem dX10_dueCount_6 : decode cX10_dueCount 6 = .ok (.istore_n 2, 1) := by decide +kernel
theorem dX10_dueCount_7 : decode cX10_dueCount 7 = .ok (.iconst 0, 1) := by decide +kernel
theorem dX10_dueCount_8 : decode cX10_dueCount 8 = .ok (.istore_n 3, 1) := by decide +kernel
theorem dX10_dueCount_9 : decode cX10_dueCount 9 = .ok (.iload_n 3, 1) := by decide +kernel
theorem dX10_dueCount_10 : decode cX10_dueCount 10 = .ok (.bipush 64, 2) := by decide +kernel
theorem dX10_dueCount_12 : decode cX10_dueCount 12 = .ok (.if_icmp .ge 42, 3) := by decide +kernel
theorem dX10_dueCount_15 : decode cX10_dueCount 15 = .ok (.iload_n 2, 1) := by decide +kernel
theorem dX10_dueCount_16 : decode cX10_dueCount 16 = .ok (.aload_n 0, 1) := by decide +kernel
theorem dX10_dueCount_17 : decode cX10_dueCount 17 = .ok (.iload_n 3, 1) := by decide +kernel
theorem dX10_dueCount_18 : decode cX10_dueCount 18 = .ok (.invokevirtual 215, 3) := by decide +kernel
theorem dX10_dueCount_21 : decode cX10_dueCount 21 = .ok (.ifCond .eq 24, 3) := by decide +kernel
theorem dX10_dueCount_24 : decode cX10_dueCount 24 = .ok (.aload_n 0, 1) := by decide +kernel
theorem dX10_dueCount_25 : decode cX10_dueCount 25 = .ok (.iload_n 3, 1) := by decide +kernel
theorem dX10_dueCount_26 : decode cX10_dueCount 26 = .ok (.invokevirtual 218, 3) := by decide +kernel
theorem dX10_dueCount_29 : decode cX10_dueCount 29 = .ok (.ifCond .eq 7, 3) := by decide +kernel
theorem dX10_dueCount_32 : decode cX10_dueCount 32 = .ok (.iconst 1, 1) := by decide +kernel
theorem dX10_dueCount_33 : decode cX10_dueCount 33 = .ok (.goto 4, 3) := by decide +kernel
theorem dX10_dueCount_36 : decode cX10_dueCount 36 = .ok (.iconst 0, 1) := by decide +kernel
theorem dX10_dueCount_37 : decode cX10_dueCount 37 = .ok (.iload_n 1, 1) := by decide +kernel
theorem dX10_dueCount_38 : decode cX10_dueCount 38 = .ok (.if_icmp .ne 7, 3) := by decide +kernel
theorem dX10_dueCount_41 : decode cX10_dueCount 41 = .ok (.iconst 1, 1) := by decide +kernel
theorem dX10_dueCount_42 : decode cX10_dueCount 42 = .ok (.goto 4, 3) := by decide +kernel
theorem dX10_dueCount_45 : decode cX10_dueCount 45 = .ok (.iconst 0, 1) := by decide +kernel
theorem dX10_dueCount_46 : decode cX10_dueCount 46 = .ok (.iadd, 1) := by decide +kernel
theorem dX10_dueCount_47 : decode cX10_dueCount 47 = .ok (.istore_n 2, 1) := by decide +kernel
theorem dX10_dueCount_48 : decode cX10_dueCount 48 = .ok (.iinc 3 1, 3) := by decide +kernel
theorem dX10_dueCount_51 : decode cX10_dueCount 51 = .ok (.goto (-42), 3) := by decide +kernel
theorem dX10_dueCount_54 : decode cX10_dueCount 54 = .ok (.iload_n 2, 1) := by decide +kernel
theorem dX10_dueCount_55 : decode cX10_dueCount 55 = .ok (.ireturn, 1) := by decide +kernel
theorem dX10_isCase_0 : decode cX10_isCase 0 = .ok (.iload_n 0, 1) := by decide +kernel
theorem dX10_isCase_1 : decode cX10_isCase 1 = .ok (.i2l, 1) := by decide +kernel
theorem dX10_isCase_2 : decode cX10_isCase 2 = .ok (.lconst 0, 1) := by decide +kernel
theorem dX10_isCase_3 : decode cX10_isCase 3 = .ok (.ldc2_w 221, 3) := by decide +kernel
theorem dX10_isCase_6 : decode cX10_isCase 6 = .ok (.invokestatic 117, 3) := by decide +kernel
theorem dX10_isCase_9 : decode cX10_isCase 9 = .ok (.ireturn, 1) := by decide +kernel
theorem dX10_hold_0 : decode cX10_hold 0 = .ok (.aload_n 0, 1) := by decide +kernel
theorem dX10_hold_1 : decode cX10_hold 1 = .ok (.iload_n 1, 1) := by decide +kernel
theorem dX10_hold_2 : decode cX10_hold 2 = .ok (.invokestatic 223, 3) := by decide +kernel
theorem dX10_hold_5 : decode cX10_hold 5 = .ok (.ifCond .eq 14, 3) := by decide +kernel
theorem dX10_hold_8 : decode cX10_hold 8 = .ok (.iload_n 2, 1) := by decide +kernel
theorem dX10_hold_9 : decode cX10_hold 9 = .ok (.invokestatic 226, 3) := by decide +kernel
theorem dX10_hold_12 : decode cX10_hold 12 = .ok (.ifCond .eq 7, 3) := by decide +kernel
theorem dX10_hold_15 : decode cX10_hold 15 = .ok (.iconst 0, 1) := by decide +kernel
theorem dX10_hold_16 : decode cX10_hold 16 = .ok (.goto 4, 3) := by decide +kernel
theorem dX10_hold_19 : decode cX10_hold 19 = .ok (.iconst 1, 1) := by decide +kernel
theorem dX10_hold_20 : decode cX10_hold 20 = .ok (.putfield 82, 3) := by decide +kernel
theorem dX10_hold_23 : decode cX10_hold 23 = .ok (.aload_n 0, 1) := by decide +kernel
theorem dX10_hold_24 : decode cX10_hold 24 = .ok (.getfield 82, 3) := by decide +kernel
theorem dX10_hold_27 : decode cX10_hold 27 = .ok (.ifCond .le 5, 3) := by decide +kernel
theorem dX10_hold_30 : decode cX10_hold 30 = .ok (.iconst 0, 1) := by decide +kernel
theorem dX10_hold_31 : decode cX10_hold 31 = .ok (.ireturn, 1) := by decide +kernel
theorem dX10_hold_32 : decode cX10_hold 32 = .ok (.aload_n 0, 1) := by decide +kernel
theorem dX10_hold_33 : decode cX10_hold 33 = .ok (.getfield 19, 3) := by decide +kernel
theorem dX10_hold_36 : decode cX10_hold 36 = .ok (.iload_n 1, 1) := by decide +kernel
theorem dX10_hold_37 : decode cX10_hold 37 = .ok (.iload_n 2, 1) := by decide +kernel
theorem dX10_hold_38 : decode cX10_hold 38 = .ok (.iastore, 1) := by decide +kernel
theorem dX10_hold_39 : decode cX10_hold 39 = .ok (.iconst 0, 1) := by decide +kernel
theorem dX10_hold_40 : decode cX10_hold 40 = .ok (.istore_n 3, 1) := by decide +kernel
theorem dX10_hold_41 : decode cX10_hold 41 = .ok (.iconst 0, 1) := by decide +kernel
theorem dX10_hold_42 : decode cX10_hold 42 = .ok (.istore 4, 2) := by decide +kernel
theorem dX10_hold_44 : decode cX10_hold 44 = .ok (.iload 4, 2) := by decide +kernel
theorem dX10_hold_46 : decode cX10_hold 46 = .ok (.bipush 64, 2) := by decide +kernel
theorem dX10_hold_48 : decode cX10_hold 48 = .ok (.if_icmp .ge 51, 3) := by decide +kernel
theorem dX10_hold_51 : decode cX10_hold 51 = .ok (.bipush 21, 2) := by decide +kernel
theorem dX10_hold_53 : decode cX10_hold 53 = .ok (.iload 4, 2) := by decide +kernel
theorem dX10_hold_55 : decode cX10_hold 55 = .ok (.iadd, 1) := by decide +kernel
theorem dX10_hold_56 : decode cX10_hold 56 = .ok (.iload_n 2, 1) := by decide +kernel
theorem dX10_hold_57 : decode cX10_hold 57 = .ok (.invokestatic 229, 3) := by decide +kernel
theorem dX10_hold_60 : decode cX10_hold 60 = .ok (.ifCond .ne 6, 3) := by decide +kernel
theorem dX10_hold_63 : decode cX10_hold 63 = .ok (.goto 30, 3) := by decide +kernel
theorem dX10_hold_66 : decode cX10_hold 66 = .ok (.aload_n 0, 1) := by decide +kernel
theorem dX10_hold_67 : decode cX10_hold 67 = .ok (.getfield 28, 3) := by decide +kernel
theorem dX10_hold_70 : decode cX10_hold 70 = .ok (.iload 4, 2) := by decide +kernel
theorem dX10_hold_72 : decode cX10_hold 72 = .ok (.iconst 0, 1) := by decide +kernel
theorem dX10_hold_73 : decode cX10_hold 73 = .ok (.bastore, 1) := by decide +kernel
theorem dX10_hold_74 : decode cX10_hold 74 = .ok (.iload_n 3, 1) := by decide +kernel
theorem dX10_hold_75 : decode cX10_hold 75 = .ok (.aload_n 0, 1) := by decide +kernel
theorem dX10_hold_76 : decode cX10_hold 76 = .ok (.getfield 16, 3) := by decide +kernel
theorem dX10_hold_79 : decode cX10_hold 79 = .ok (.iload 4, 2) := by decide +kernel
theorem dX10_hold_81 : decode cX10_hold 81 = .ok (.iaload, 1) := by decide +kernel
theorem dX10_hold_82 : decode cX10_hold 82 = .ok (.iconst (-1), 1) := by decide +kernel
theorem dX10_hold_83 : decode cX10_hold 83 = .ok (.if_icmp .ne 7, 3) := by decide +kernel
theorem dX10_hold_86 : decode cX10_hold 86 = .ok (.iconst 0, 1) := by decide +kernel
theorem dX10_hold_87 : decode cX10_hold 87 = .ok (.goto 4, 3) := by decide +kernel
theorem dX10_hold_90 : decode cX10_hold 90 = .ok (.iconst 1, 1) := by decide +kernel
theorem dX10_hold_91 : decode cX10_hold 91 = .ok (.iadd, 1) := by decide +kernel
theorem dX10_hold_92 : decode cX10_hold 92 = .ok (.istore_n 3, 1) := by decide +kernel
theorem dX10_hold_93 : decode cX10_hold 93 = .ok (.iinc 4 1, 3) := by decide +kernel
theorem dX10_hold_96 : decode cX10_hold 96 = .ok (.goto (-52), 3) := by decide +kernel
theorem dX10_hold_99 : decode cX10_hold 99 = .ok (.iload_n 3, 1) := by decide +kernel
theorem dX10_hold_100 : decode cX10_hold 100 = .ok (.ireturn, 1) := by decide +kernel
theorem dX10_release_0 : decode cX10_release 0 = .ok (.aload_n 0, 1) := by decide +kernel
theorem dX10_release_1 : decode cX10_release 1 = .ok (.iload_n 1, 1) := by decide +kernel
theorem dX10_release_2 : decode cX10_release 2 = .ok (.invokestatic 223, 3) := by decide +kernel
theorem dX10_release_5 : decode cX10_release 5 = .ok (.ifCond .eq 7, 3) := by decide +kernel
theorem dX10_release_8 : decode cX10_release 8 = .ok (.iconst 0, 1) := by decide +kernel
theorem dX10_release_9 : decode cX10_release 9 = .ok (.goto 4, 3) := by decide +kernel
theorem dX10_release_12 : decode cX10_release 12 = .ok (.iconst 1, 1) := by decide +kernel
theorem dX10_release_13 : decode cX10_release 13 = .ok (.putfield 82, 3) := by decide +kernel
theorem dX10_release_16 : decode cX10_release 16 = .ok (.aload_n 0, 1) := by decide +kernel
theorem dX10_release_17 : decode cX10_release 17 = .ok (.getfield 82, 3) := by decide +kernel
theorem dX10_release_20 : decode cX10_release 20 = .ok (.ifCond .le 5, 3) := by decide +kernel
theorem dX10_release_23 : decode cX10_release 23 = .ok (.iconst 0, 1) := by decide +kernel
theorem dX10_release_24 : decode cX10_release 24 = .ok (.ireturn, 1) := by decide +kernel
theorem dX10_release_25 : decode cX10_release 25 = .ok (.aload_n 0, 1) := by decide +kernel
theorem dX10_release_26 : decode cX10_release 26 = .ok (.getfield 19, 3) := by decide +kernel
theorem dX10_release_29 : decode cX10_release 29 = .ok (.iload_n 1, 1) := by decide +kernel
theorem dX10_release_30 : decode cX10_release 30 = .ok (.iaload, 1) := by decide +kernel
theorem dX10_release_31 : decode cX10_release 31 = .ok (.istore_n 2, 1) := by decide +kernel
theorem dX10_release_32 : decode cX10_release 32 = .ok (.aload_n 0, 1) := by decide +kernel
theorem dX10_release_33 : decode cX10_release 33 = .ok (.getfield 19, 3) := by decide +kernel
theorem dX10_release_36 : decode cX10_release 36 = .ok (.iload_n 1, 1) := by decide +kernel
theorem dX10_release_37 : decode cX10_release 37 = .ok (.iconst (-1), 1) := by decide +kernel
theorem dX10_release_38 : decode cX10_release 38 = .ok (.iastore, 1) := by decide +kernel
theorem dX10_release_39 : decode cX10_release 39 = .ok (.iload_n 2, 1) := by decide +kernel
theorem dX10_release_40 : decode cX10_release 40 = .ok (.ireturn, 1) := by decide +kernel
theorem dX10_pinsOf_0 : decode cX10_pinsOf 0 = .ok (.iconst 0, 1) := by decide +kernel
theorem dX10_pinsOf_1 : decode cX10_pinsOf 1 = .ok (.istore_n 2, 1) := by decide +kernel
theorem dX10_pinsOf_2 : decode cX10_pinsOf 2 = .ok (.iconst 0, 1) := by decide +kernel
theorem dX10_pinsOf_3 : decode cX10_pinsOf 3 = .ok (.istore_n 3, 1) := by decide +kernel
theorem dX10_pinsOf_4 : decode cX10_pinsOf 4 = .ok (.iload_n 3, 1) := by decide +kernel
theorem dX10_pinsOf_5 : decode cX10_pinsOf 5 = .ok (.bipush 8, 2) := by decide +kernel
theorem dX10_pinsOf_7 : decode cX10_pinsOf 7 = .ok (.if_icmp .ge 45, 3) := by decide +kernel
theorem dX10_pinsOf_10 : decode cX10_pinsOf 10 = .ok (.iload_n 2, 1) := by decide +kernel
theorem dX10_pinsOf_11 : decode cX10_pinsOf 11 = .ok (.aload_n 0, 1) := by decide +kernel
theorem dX10_pinsOf_12 : decode cX10_pinsOf 12 = .ok (.getfield 19, 3) := by decide +kernel
theorem dX10_pinsOf_15 : decode cX10_pinsOf 15 = .ok (.iload_n 3, 1) := by decide +kernel
theorem dX10_pinsOf_16 : decode cX10_pinsOf 16 = .ok (.iaload, 1) := by decide +kernel
theorem dX10_pinsOf_17 : decode cX10_pinsOf 17 = .ok (.iconst (-1), 1) := by decide +kernel
theorem dX10_pinsOf_18 : decode cX10_pinsOf 18 = .ok (.if_icmp .eq 25, 3) := by decide +kernel
theorem dX10_pinsOf_21 : decode cX10_pinsOf 21 = .ok (.bipush 21, 2) := by decide +kernel
theorem dX10_pinsOf_23 : decode cX10_pinsOf 23 = .ok (.iload_n 1, 1) := by decide +kernel
theorem dX10_pinsOf_24 : decode cX10_pinsOf 24 = .ok (.iadd, 1) := by decide +kernel
theorem dX10_pinsOf_25 : decode cX10_pinsOf 25 = .ok (.aload_n 0, 1) := by decide +kernel
theorem dX10_pinsOf_26 : decode cX10_pinsOf 26 = .ok (.getfield 19, 3) := by decide +kernel
theorem dX10_pinsOf_29 : decode cX10_pinsOf 29 = .ok (.iload_n 3, 1) := by decide +kernel
theorem dX10_pinsOf_30 : decode cX10_pinsOf 30 = .ok (.iaload, 1) := by decide +kernel
theorem dX10_pinsOf_31 : decode cX10_pinsOf 31 = .ok (.invokestatic 229, 3) := by decide +kernel
theorem dX10_pinsOf_34 : decode cX10_pinsOf 34 = .ok (.ifCond .eq 9, 3) := by decide +kernel
theorem dX10_pinsOf_37 : decode cX10_pinsOf 37 = .ok (.iconst 1, 1) := by decide +kernel
theorem dX10_pinsOf_38 : decode cX10_pinsOf 38 = .ok (.iload_n 3, 1) := by decide +kernel
theorem dX10_pinsOf_39 : decode cX10_pinsOf 39 = .ok (.ishl, 1) := by decide +kernel
theorem dX10_pinsOf_40 : decode cX10_pinsOf 40 = .ok (.goto 4, 3) := by decide +kernel
theorem dX10_pinsOf_43 : decode cX10_pinsOf 43 = .ok (.iconst 0, 1) := by decide +kernel
theorem dX10_pinsOf_44 : decode cX10_pinsOf 44 = .ok (.ior, 1) := by decide +kernel
theorem dX10_pinsOf_45 : decode cX10_pinsOf 45 = .ok (.istore_n 2, 1) := by decide +kernel
theorem dX10_pinsOf_46 : decode cX10_pinsOf 46 = .ok (.iinc 3 1, 3) := by decide +kernel
theorem dX10_pinsOf_49 : decode cX10_pinsOf 49 = .ok (.goto (-45), 3) := by decide +kernel
theorem dX10_pinsOf_52 : decode cX10_pinsOf 52 = .ok (.iload_n 2, 1) := by decide +kernel
theorem dX10_pinsOf_53 : decode cX10_pinsOf 53 = .ok (.ireturn, 1) := by decide +kernel
theorem dX10_pins_0 : decode cX10_pins 0 = .ok (.aload_n 0, 1) := by decide +kernel
theorem dX10_pins_1 : decode cX10_pins 1 = .ok (.iload_n 1, 1) := by decide +kernel
theorem dX10_pins_2 : decode cX10_pins 2 = .ok (.invokestatic 170, 3) := by decide +kernel
theorem dX10_pins_5 : decode cX10_pins 5 = .ok (.ifCond .eq 7, 3) := by decide +kernel
theorem dX10_pins_8 : decode cX10_pins 8 = .ok (.iconst 0, 1) := by decide +kernel
theorem dX10_pins_9 : decode cX10_pins 9 = .ok (.goto 4, 3) := by decide +kernel
theorem dX10_pins_12 : decode cX10_pins 12 = .ok (.iconst 1, 1) := by decide +kernel
theorem dX10_pins_13 : decode cX10_pins 13 = .ok (.putfield 82, 3) := by decide +kernel
theorem dX10_pins_16 : decode cX10_pins 16 = .ok (.aload_n 0, 1) := by decide +kernel
theorem dX10_pins_17 : decode cX10_pins 17 = .ok (.getfield 82, 3) := by decide +kernel
theorem dX10_pins_20 : decode cX10_pins 20 = .ok (.ifCond .le 7, 3) := by decide +kernel
theorem dX10_pins_23 : decode cX10_pins 23 = .ok (.iconst 0, 1) := by decide +kernel
theorem dX10_pins_24 : decode cX10_pins 24 = .ok (.goto 8, 3) := by decide +kernel
theorem dX10_pins_27 : decode cX10_pins 27 = .ok (.aload_n 0, 1) := by decide +kernel
theorem dX10_pins_28 : decode cX10_pins 28 = .ok (.iload_n 1, 1) := by decide +kernel
theorem dX10_pins_29 : decode cX10_pins 29 = .ok (.invokevirtual 218, 3) := by decide +kernel
theorem dX10_pins_32 : decode cX10_pins 32 = .ok (.ireturn, 1) := by decide +kernel
theorem dX10_mark_0 : decode cX10_mark 0 = .ok (.aload_n 0, 1) := by decide +kernel
theorem dX10_mark_1 : decode cX10_mark 1 = .ok (.iload_n 1, 1) := by decide +kernel
theorem dX10_mark_2 : decode cX10_mark 2 = .ok (.invokestatic 170, 3) := by decide +kernel
theorem dX10_mark_5 : decode cX10_mark 5 = .ok (.ifCond .ne 7, 3) := by decide +kernel
theorem dX10_mark_8 : decode cX10_mark 8 = .ok (.iconst 1, 1) := by decide +kernel
theorem dX10_mark_9 : decode cX10_mark 9 = .ok (.goto 30, 3) := by decide +kernel
theorem dX10_mark_12 : decode cX10_mark 12 = .ok (.aload_n 0, 1) := by decide +kernel
theorem dX10_mark_13 : decode cX10_mark 13 = .ok (.getfield 16, 3) := by decide +kernel
theorem dX10_mark_16 : decode cX10_mark 16 = .ok (.iload_n 1, 1) := by decide +kernel
theorem dX10_mark_17 : decode cX10_mark 17 = .ok (.iaload, 1) := by decide +kernel
theorem dX10_mark_18 : decode cX10_mark 18 = .ok (.iconst (-1), 1) := by decide +kernel
theorem dX10_mark_19 : decode cX10_mark 19 = .ok (.if_icmp .eq 15, 3) := by decide +kernel
theorem dX10_mark_22 : decode cX10_mark 22 = .ok (.iload_n 2, 1) := by decide +kernel
theorem dX10_mark_23 : decode cX10_mark 23 = .ok (.ifCond .eq 15, 3) := by decide +kernel
theorem dX10_mark_26 : decode cX10_mark 26 = .ok (.aload_n 0, 1) := by decide +kernel
theorem dX10_mark_27 : decode cX10_mark 27 = .ok (.iload_n 1, 1) := by decide +kernel
theorem dX10_mark_28 : decode cX10_mark 28 = .ok (.invokevirtual 218, 3) := by decide +kernel
theorem dX10_mark_31 : decode cX10_mark 31 = .ok (.ifCond .eq 7, 3) := by decide +kernel
theorem dX10_mark_34 : decode cX10_mark 34 = .ok (.iconst 2, 1) := by decide +kernel
theorem dX10_mark_35 : decode cX10_mark 35 = .ok (.goto 4, 3) := by decide +kernel
theorem dX10_mark_38 : decode cX10_mark 38 = .ok (.iconst 0, 1) := by decide +kernel
theorem dX10_mark_39 : decode cX10_mark 39 = .ok (.putfield 82, 3) := by decide +kernel
theorem dX10_mark_42 : decode cX10_mark 42 = .ok (.aload_n 0, 1) := by decide +kernel
theorem dX10_mark_43 : decode cX10_mark 43 = .ok (.getfield 82, 3) := by decide +kernel
theorem dX10_mark_46 : decode cX10_mark 46 = .ok (.ifCond .le 5, 3) := by decide +kernel
theorem dX10_mark_49 : decode cX10_mark 49 = .ok (.iconst 0, 1) := by decide +kernel
theorem dX10_mark_50 : decode cX10_mark 50 = .ok (.ireturn, 1) := by decide +kernel
theorem dX10_mark_51 : decode cX10_mark 51 = .ok (.aload_n 0, 1) := by decide +kernel
theorem dX10_mark_52 : decode cX10_mark 52 = .ok (.getfield 28, 3) := by decide +kernel
theorem dX10_mark_55 : decode cX10_mark 55 = .ok (.iload_n 1, 1) := by decide +kernel
theorem dX10_mark_56 : decode cX10_mark 56 = .ok (.baload, 1) := by decide +kernel
theorem dX10_mark_57 : decode cX10_mark 57 = .ok (.istore_n 3, 1) := by decide +kernel
theorem dX10_mark_58 : decode cX10_mark 58 = .ok (.aload_n 0, 1) := by decide +kernel
theorem dX10_mark_59 : decode cX10_mark 59 = .ok (.getfield 28, 3) := by decide +kernel
theorem dX10_mark_62 : decode cX10_mark 62 = .ok (.iload_n 1, 1) := by decide +kernel
theorem dX10_mark_63 : decode cX10_mark 63 = .ok (.iload_n 2, 1) := by decide +kernel
theorem dX10_mark_64 : decode cX10_mark 64 = .ok (.bastore, 1) := by decide +kernel
theorem dX10_mark_65 : decode cX10_mark 65 = .ok (.iload_n 3, 1) := by decide +kernel
theorem dX10_mark_66 : decode cX10_mark 66 = .ok (.ireturn, 1) := by decide +kernel
theorem dX10_marks_0 : decode cX10_marks 0 = .ok (.iconst 0, 1) := by decide +kernel
theorem dX10_marks_1 : decode cX10_marks 1 = .ok (.istore_n 1, 1) := by decide +kernel
theorem dX10_marks_2 : decode cX10_marks 2 = .ok (.iconst 0, 1) := by decide +kernel
theorem dX10_marks_3 : decode cX10_marks 3 = .ok (.istore_n 2, 1) := by decide +kernel
theorem dX10_marks_4 : decode cX10_marks 4 = .ok (.iload_n 2, 1) := by decide +kernel
theorem dX10_marks_5 : decode cX10_marks 5 = .ok (.bipush 64, 2) := by decide +kernel
theorem dX10_marks_7 : decode cX10_marks 7 = .ok (.if_icmp .ge 26, 3) := by decide +kernel
theorem dX10_marks_10 : decode cX10_marks 10 = .ok (.iload_n 1, 1) := by decide +kernel
theorem dX10_marks_11 : decode cX10_marks 11 = .ok (.aload_n 0, 1) := by decide +kernel
theorem dX10_marks_12 : decode cX10_marks 12 = .ok (.getfield 28, 3) := by decide +kernel
theorem dX10_marks_15 : decode cX10_marks 15 = .ok (.iload_n 2, 1) := by decide +kernel
theorem dX10_marks_16 : decode cX10_marks 16 = .ok (.baload, 1) := by decide +kernel
theorem dX10_marks_17 : decode cX10_marks 17 = .ok (.ifCond .eq 7, 3) := by decide +kernel
theorem dX10_marks_20 : decode cX10_marks 20 = .ok (.iconst 1, 1) := by decide +kernel
theorem dX10_marks_21 : decode cX10_marks 21 = .ok (.goto 4, 3) := by decide +kernel
theorem dX10_marks_24 : decode cX10_marks 24 = .ok (.iconst 0, 1) := by decide +kernel
theorem dX10_marks_25 : decode cX10_marks 25 = .ok (.iadd, 1) := by decide +kernel
theorem dX10_marks_26 : decode cX10_marks 26 = .ok (.istore_n 1, 1) := by decide +kernel
theorem dX10_marks_27 : decode cX10_marks 27 = .ok (.iinc 2 1, 3) := by decide +kernel
theorem dX10_marks_30 : decode cX10_marks 30 = .ok (.goto (-26), 3) := by decide +kernel
theorem dX10_marks_33 : decode cX10_marks 33 = .ok (.iload_n 1, 1) := by decide +kernel
theorem dX10_marks_34 : decode cX10_marks 34 = .ok (.ireturn, 1) := by decide +kernel
theorem dX10_markCount_0 : decode cX10_markCount 0 = .ok (.aload_n 0, 1) := by decide +kernel
theorem dX10_markCount_1 : decode cX10_markCount 1 = .ok (.iconst 0, 1) := by decide +kernel
theorem dX10_markCount_2 : decode cX10_markCount 2 = .ok (.putfield 82, 3) := by decide +kernel
theorem dX10_markCount_5 : decode cX10_markCount 5 = .ok (.aload_n 0, 1) := by decide +kernel
theorem dX10_markCount_6 : decode cX10_markCount 6 = .ok (.invokevirtual 232, 3) := by decide +kernel
theorem dX10_markCount_9 : decode cX10_markCount 9 = .ok (.ireturn, 1) := by decide +kernel
theorem dX10_hasChild_0 : decode cX10_hasChild 0 = .ok (.iconst 4, 1) := by decide +kernel
theorem dX10_hasChild_1 : decode cX10_hasChild 1 = .ok (.iload_n 1, 1) := by decide +kernel
theorem dX10_hasChild_2 : decode cX10_hasChild 2 = .ok (.imul, 1) := by decide +kernel
theorem dX10_hasChild_3 : decode cX10_hasChild 3 = .ok (.iconst 1, 1) := by decide +kernel
theorem dX10_hasChild_4 : decode cX10_hasChild 4 = .ok (.iadd, 1) := by decide +kernel
theorem dX10_hasChild_5 : decode cX10_hasChild 5 = .ok (.istore_n 2, 1) := by decide +kernel
theorem dX10_hasChild_6 : decode cX10_hasChild 6 = .ok (.iload_n 2, 1) := by decide +kernel
theorem dX10_hasChild_7 : decode cX10_hasChild 7 = .ok (.iconst 4, 1) := by decide +kernel
theorem dX10_hasChild_8 : decode cX10_hasChild 8 = .ok (.iload_n 1, 1) := by decide +kernel
theorem dX10_hasChild_9 : decode cX10_hasChild 9 = .ok (.imul, 1) := by decide +kernel
theorem dX10_hasChild_10 : decode cX10_hasChild 10 = .ok (.iconst 4, 1) := by decide +kernel
theorem dX10_hasChild_11 : decode cX10_hasChild 11 = .ok (.iadd, 1) := by decide +kernel
theorem dX10_hasChild_12 : decode cX10_hasChild 12 = .ok (.if_icmp .gt 20, 3) := by decide +kernel
theorem dX10_hasChild_15 : decode cX10_hasChild 15 = .ok (.aload_n 0, 1) := by decide +kernel
theorem dX10_hasChild_16 : decode cX10_hasChild 16 = .ok (.getfield 13, 3) := by decide +kernel
theorem dX10_hasChild_19 : decode cX10_hasChild 19 = .ok (.iload_n 2, 1) := by decide +kernel
theorem dX10_hasChild_20 : decode cX10_hasChild 20 = .ok (.iaload, 1) := by decide +kernel
theorem dX10_hasChild_21 : decode cX10_hasChild 21 = .ok (.ifCond .eq 5, 3) := by decide +kernel
theorem dX10_hasChild_24 : decode cX10_hasChild 24 = .ok (.iconst 1, 1) := by decide +kernel
theorem dX10_hasChild_25 : decode cX10_hasChild 25 = .ok (.ireturn, 1) := by decide +kernel
theorem dX10_hasChild_26 : decode cX10_hasChild 26 = .ok (.iinc 2 1, 3) := by decide +kernel
theorem dX10_hasChild_29 : decode cX10_hasChild 29 = .ok (.goto (-23), 3) := by decide +kernel
theorem dX10_hasChild_32 : decode cX10_hasChild 32 = .ok (.iconst 0, 1) := by decide +kernel
theorem dX10_hasChild_33 : decode cX10_hasChild 33 = .ok (.ireturn, 1) := by decide +kernel
theorem dX10_plans_0 : decode cX10_plans 0 = .ok (.aload_n 0, 1) := by decide +kernel
theorem dX10_plans_1 : decode cX10_plans 1 = .ok (.iconst 0, 1) := by decide +kernel
theorem dX10_plans_2 : decode cX10_plans 2 = .ok (.putfield 146, 3) := by decide +kernel
theorem dX10_plans_5 : decode cX10_plans 5 = .ok (.iconst 0, 1) := by decide +kernel
theorem dX10_plans_6 : decode cX10_plans 6 = .ok (.istore_n 1, 1) := by decide +kernel
theorem dX10_plans_7 : decode cX10_plans 7 = .ok (.iload_n 1, 1) := by decide +kernel
theorem dX10_plans_8 : decode cX10_plans 8 = .ok (.bipush 64, 2) := by decide +kernel
theorem dX10_plans_10 : decode cX10_plans 10 = .ok (.if_icmp .ge 28, 3) := by decide +kernel
theorem dX10_plans_13 : decode cX10_plans 13 = .ok (.aload_n 0, 1) := by decide +kernel
theorem dX10_plans_14 : decode cX10_plans 14 = .ok (.getfield 28, 3) := by decide +kernel
theorem dX10_plans_17 : decode cX10_plans 17 = .ok (.iload_n 1, 1) := by decide +kernel
theorem dX10_plans_18 : decode cX10_plans 18 = .ok (.baload, 1) := by decide +kernel
theorem dX10_plans_19 : decode cX10_plans 19 = .ok (.ifCond .eq 13, 3) := by decide +kernel
theorem dX10_plans_22 : decode cX10_plans 22 = .ok (.aload_n 0, 1) := by decide +kernel
theorem dX10_plans_23 : decode cX10_plans 23 = .ok (.aload_n 0, 1) := by decide +kernel
theorem dX10_plans_24 : decode cX10_plans 24 = .ok (.getfield 16, 3) := by decide +kernel
theorem dX10_plans_27 : decode cX10_plans 27 = .ok (.iload_n 1, 1) := by decide +kernel
theorem dX10_plans_28 : decode cX10_plans 28 = .ok (.iaload, 1) := by decide +kernel
theorem dX10_plans_29 : decode cX10_plans 29 = .ok (.invokevirtual 156, 3) := by decide +kernel
theorem dX10_plans_32 : decode cX10_plans 32 = .ok (.iinc 1 1, 3) := by decide +kernel
theorem dX10_plans_35 : decode cX10_plans 35 = .ok (.goto (-28), 3) := by decide +kernel
theorem dX10_plans_38 : decode cX10_plans 38 = .ok (.aload_n 0, 1) := by decide +kernel
theorem dX10_plans_39 : decode cX10_plans 39 = .ok (.iconst 1, 1) := by decide +kernel
theorem dX10_plans_40 : decode cX10_plans 40 = .ok (.invokevirtual 159, 3) := by decide +kernel
theorem dX10_plans_43 : decode cX10_plans 43 = .ok (.iconst 0, 1) := by decide +kernel
theorem dX10_plans_44 : decode cX10_plans 44 = .ok (.istore_n 1, 1) := by decide +kernel
theorem dX10_plans_45 : decode cX10_plans 45 = .ok (.iload_n 1, 1) := by decide +kernel
theorem dX10_plans_46 : decode cX10_plans 46 = .ok (.iconst 4, 1) := by decide +kernel
theorem dX10_plans_47 : decode cX10_plans 47 = .ok (.if_icmp .ge 42, 3) := by decide +kernel
theorem dX10_plans_50 : decode cX10_plans 50 = .ok (.aload_n 0, 1) := by decide +kernel
theorem dX10_plans_51 : decode cX10_plans 51 = .ok (.getfield 35, 3) := by decide +kernel
theorem dX10_plans_54 : decode cX10_plans 54 = .ok (.iload_n 1, 1) := by decide +kernel
theorem dX10_plans_55 : decode cX10_plans 55 = .ok (.aload_n 0, 1) := by decide +kernel
theorem dX10_plans_56 : decode cX10_plans 56 = .ok (.getfield 22, 3) := by decide +kernel
theorem dX10_plans_59 : decode cX10_plans 59 = .ok (.iload_n 1, 1) := by decide +kernel
theorem dX10_plans_60 : decode cX10_plans 60 = .ok (.iaload, 1) := by decide +kernel
theorem dX10_plans_61 : decode cX10_plans 61 = .ok (.ifCond .le 20, 3) := by decide +kernel
theorem dX10_plans_64 : decode cX10_plans 64 = .ok (.aload_n 0, 1) := by decide +kernel
theorem dX10_plans_65 : decode cX10_plans 65 = .ok (.aload_n 0, 1) := by decide +kernel
