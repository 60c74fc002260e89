theorem dX0_init_0 : decode cX0_init 0 = .ok (.aload_n 0, 1) := by decide +kernel
theorem dX0_init_1 : decode cX0_init 1 = .ok (.invokespecial 3, 3) := by decide +kernel
theorem dX0_init_4 : decode cX0_init 4 = .ok (.aload_n 0, 1) := by decide +kernel
theorem dX0_init_5 : decode cX0_init 5 = .ok (.new 9, 3) := by decide +kernel
theorem dX0_init_8 : decode cX0_init 8 = .ok (.dup, 1) := by decide +kernel
theorem dX0_init_9 : decode cX0_init 9 = .ok (.bipush 6, 2) := by decide +kernel
theorem dX0_init_11 : decode cX0_init 11 = .ok (.invokespecial 11, 3) := by decide +kernel
theorem dX0_init_14 : decode cX0_init 14 = .ok (.putfield 14, 3) := by decide +kernel
theorem dX0_init_17 : decode cX0_init 17 = .ok (.aload_n 0, 1) := by decide +kernel
theorem dX0_init_18 : decode cX0_init 18 = .ok (.new 9, 3) := by decide +kernel
theorem dX0_init_21 : decode cX0_init 21 = .ok (.dup, 1) := by decide +kernel
theorem dX0_init_22 : decode cX0_init 22 = .ok (.bipush 9, 2) := by decide +kernel
theorem dX0_init_24 : decode cX0_init 24 = .ok (.invokespecial 11, 3) := by decide +kernel
theorem dX0_init_27 : decode cX0_init 27 = .ok (.putfield 20, 3) := by decide +kernel
theorem dX0_init_30 : decode cX0_init 30 = .ok (.aload_n 0, 1) := by decide +kernel
theorem dX0_init_31 : decode cX0_init 31 = .ok (.new 9, 3) := by decide +kernel
theorem dX0_init_34 : decode cX0_init 34 = .ok (.dup, 1) := by decide +kernel
theorem dX0_init_35 : decode cX0_init 35 = .ok (.bipush 9, 2) := by decide +kernel
theorem dX0_init_37 : decode cX0_init 37 = .ok (.invokespecial 11, 3) := by decide +kernel
theorem dX0_init_40 : decode cX0_init 40 = .ok (.putfield 23, 3) := by decide +kernel
theorem dX0_init_43 : decode cX0_init 43 = .ok (.aload_n 0, 1) := by decide +kernel
theorem dX0_init_44 : decode cX0_init 44 = .ok (.new 9, 3) := by decide +kernel
theorem dX0_init_47 : decode cX0_init 47 = .ok (.dup, 1) := by decide +kernel
theorem dX0_init_48 : decode cX0_init 48 = .ok (.sipush 169, 3) := by decide +kernel
theorem dX0_init_51 : decode cX0_init 51 = .ok (.invokespecial 11, 3) := by decide +kernel
theorem dX0_init_54 : decode cX0_init 54 = .ok (.putfield 26, 3) := by decide +kernel
theorem dX0_init_57 : decode cX0_init 57 = .ok (.aload_n 0, 1) := by decide +kernel
theorem dX0_init_58 : decode cX0_init 58 = .ok (.bipush 20, 2) := by decide +kernel
theorem dX0_init_60 : decode cX0_init 60 = .ok (.putfield 29, 3) := by decide +kernel
theorem dX0_init_63 : decode cX0_init 63 = .ok (.return_, 1) := by decide +kernel
theorem dX0_clear_0 : decode cX0_clear 0 = .ok (.aload_n 0, 1) := by decide +kernel
theorem dX0_clear_1 : decode cX0_clear 1 = .ok (.iconst 0, 1) := by decide +kernel
theorem dX0_clear_2 : decode cX0_clear 2 = .ok (.putfield 33, 3) := by decide +kernel
theorem dX0_clear_5 : decode cX0_clear 5 = .ok (.aload_n 0, 1) := by decide +kernel
theorem dX0_clear_6 : decode cX0_clear 6 = .ok (.iconst 0, 1) := by decide +kernel
theorem dX0_clear_7 : decode cX0_clear 7 = .ok (.putfield 36, 3) := by decide +kernel
theorem dX0_clear_10 : decode cX0_clear 10 = .ok (.aload_n 0, 1) := by decide +kernel
theorem dX0_clear_11 : decode cX0_clear 11 = .ok (.bipush 20, 2) := by decide +kernel
theorem dX0_clear_13 : decode cX0_clear 13 = .ok (.putfield 29, 3) := by decide +kernel
theorem dX0_clear_16 : decode cX0_clear 16 = .ok (.aload_n 0, 1) := by decide +kernel
theorem dX0_clear_17 : decode cX0_clear 17 = .ok (.getfield 26, 3) := by decide +kernel
theorem dX0_clear_20 : decode cX0_clear 20 = .ok (.invokevirtual 39, 3) := by decide +kernel
theorem dX0_clear_23 : decode cX0_clear 23 = .ok (.return_, 1) := by decide +kernel
theorem dX0_takeAll_0 : decode cX0_takeAll 0 = .ok (.aload_n 0, 1) := by decide +kernel
theorem dX0_takeAll_1 : decode cX0_takeAll 1 = .ok (.aload_n 1, 1) := by decide +kernel
theorem dX0_takeAll_2 : decode cX0_takeAll 2 = .ok (.getfield 33, 3) := by decide +kernel
theorem dX0_takeAll_5 : decode cX0_takeAll 5 = .ok (.putfield 33, 3) := by decide +kernel
theorem dX0_takeAll_8 : decode cX0_takeAll 8 = .ok (.aload_n 0, 1) := by decide +kernel
theorem dX0_takeAll_9 : decode cX0_takeAll 9 = .ok (.aload_n 1, 1) := by decide +kernel
theorem dX0_takeAll_10 : decode cX0_takeAll 10 = .ok (.getfield 36, 3) := by decide +kernel
theorem dX0_takeAll_13 : decode cX0_takeAll 13 = .ok (.putfield 36, 3) := by decide +kernel
theorem dX0_takeAll_16 : decode cX0_takeAll 16 = .ok (.aload_n 0, 1) := by decide +kernel
theorem dX0_takeAll_17 : decode cX0_takeAll 17 = .ok (.aload_n 1, 1) := by decide +kernel
theorem dX0_takeAll_18 : decode cX0_takeAll 18 = .ok (.getfield 29, 3) := by decide +kernel
theorem dX0_takeAll_21 : decode cX0_takeAll 21 = .ok (.putfield 29, 3) := by decide +kernel
theorem dX0_takeAll_24 : decode cX0_takeAll 24 = .ok (.aload_n 0, 1) := by decide +kernel
theorem dX0_takeAll_25 : decode cX0_takeAll 25 = .ok (.getfield 14, 3) := by decide +kernel
theorem dX0_takeAll_28 : decode cX0_takeAll 28 = .ok (.aload_n 1, 1) := by decide +kernel
theorem dX0_takeAll_29 : decode cX0_takeAll 29 = .ok (.getfield 14, 3) := by decide +kernel
theorem dX0_takeAll_32 : decode cX0_takeAll 32 = .ok (.invokevirtual 42, 3) := by decide +kernel
theorem dX0_takeAll_35 : decode cX0_takeAll 35 = .ok (.aload_n 0, 1) := by decide +kernel
theorem dX0_takeAll_36 : decode cX0_takeAll 36 = .ok (.getfield 20, 3) := by decide +kernel
theorem dX0_takeAll_39 : decode cX0_takeAll 39 = .ok (.aload_n 1, 1) := by decide +kernel
theorem dX0_takeAll_40 : decode cX0_takeAll 40 = .ok (.getfield 20, 3) := by decide +kernel
theorem dX0_takeAll_43 : decode cX0_takeAll 43 = .ok (.invokevirtual 42, 3) := by decide +kernel
theorem dX0_takeAll_46 : decode cX0_takeAll 46 = .ok (.aload_n 0, 1) := by decide +kernel
theorem dX0_takeAll_47 : decode cX0_takeAll 47 = .ok (.getfield 23, 3) := by decide +kernel
theorem dX0_takeAll_50 : decode cX0_takeAll 50 = .ok (.aload_n 1, 1) := by decide +kernel
theorem dX0_takeAll_51 : decode cX0_takeAll 51 = .ok (.getfield 23, 3) := by decide +kernel
theorem dX0_takeAll_54 : decode cX0_takeAll 54 = .ok (.invokevirtual 42, 3) := by decide +kernel
theorem dX0_takeAll_57 : decode cX0_takeAll 57 = .ok (.aload_n 0, 1) := by decide +kernel
theorem dX0_takeAll_58 : decode cX0_takeAll 58 = .ok (.getfield 26, 3) := by decide +kernel
theorem dX0_takeAll_61 : decode cX0_takeAll 61 = .ok (.aload_n 1, 1) := by decide +kernel
theorem dX0_takeAll_62 : decode cX0_takeAll 62 = .ok (.getfield 26, 3) := by decide +kernel
theorem dX0_takeAll_65 : decode cX0_takeAll 65 = .ok (.invokevirtual 42, 3) := by decide +kernel
theorem dX0_takeAll_68 : decode cX0_takeAll 68 = .ok (.return_, 1) := by decide +kernel
theorem dX0_tellTop_0 : decode cX0_tellTop 0 = .ok (.iload_n 1, 1) := by decide +kernel
theorem dX0_tellTop_1 : decode cX0_tellTop 1 = .ok (.iconst 1, 1) := by decide +kernel
theorem dX0_tellTop_2 : decode cX0_tellTop 2 = .ok (.if_icmp .lt 9, 3) := by decide +kernel
theorem dX0_tellTop_5 : decode cX0_tellTop 5 = .ok (.iload_n 1, 1) := by decide +kernel
theorem dX0_tellTop_6 : decode cX0_tellTop 6 = .ok (.bipush 99, 2) := by decide +kernel
theorem dX0_tellTop_8 : decode cX0_tellTop 8 = .ok (.if_icmp .le 5, 3) := by decide +kernel
theorem dX0_tellTop_11 : decode cX0_tellTop 11 = .ok (.iconst 0, 1) := by decide +kernel
theorem dX0_tellTop_12 : decode cX0_tellTop 12 = .ok (.ireturn, 1) := by decide +kernel
theorem dX0_tellTop_13 : decode cX0_tellTop 13 = .ok (.aload_n 0, 1) := by decide +kernel
theorem dX0_tellTop_14 : decode cX0_tellTop 14 = .ok (.iload_n 1, 1) := by decide +kernel
theorem dX0_tellTop_15 : decode cX0_tellTop 15 = .ok (.putfield 29, 3) := by decide +kernel
theorem dX0_tellTop_18 : decode cX0_tellTop 18 = .ok (.iconst 1, 1) := by decide +kernel
theorem dX0_tellTop_19 : decode cX0_tellTop 19 = .ok (.ireturn, 1) := by decide +kernel
theorem dX0_addName_0 : decode cX0_addName 0 = .ok (.aload_n 0, 1) := by decide +kernel
theorem dX0_addName_1 : decode cX0_addName 1 = .ok (.getfield 33, 3) := by decide +kernel
theorem dX0_addName_4 : decode cX0_addName 4 = .ok (.bipush 6, 2) := by decide +kernel
theorem dX0_addName_6 : decode cX0_addName 6 = .ok (.if_icmp .ge 13, 3) := by decide +kernel
theorem dX0_addName_9 : decode cX0_addName 9 = .ok (.iload_n 1, 1) := by decide +kernel
theorem dX0_addName_10 : decode cX0_addName 10 = .ok (.iconst 2, 1) := by decide +kernel
theorem dX0_addName_11 : decode cX0_addName 11 = .ok (.if_icmp .lt 8, 3) := by decide +kernel
theorem dX0_addName_14 : decode cX0_addName 14 = .ok (.iload_n 1, 1) := by decide +kernel
theorem dX0_addName_15 : decode cX0_addName 15 = .ok (.iconst 4, 1) := by decide +kernel
theorem dX0_addName_16 : decode cX0_addName 16 = .ok (.if_icmp .le 5, 3) := by decide +kernel
theorem dX0_addName_19 : decode cX0_addName 19 = .ok (.iconst 0, 1) := by decide +kernel
theorem dX0_addName_20 : decode cX0_addName 20 = .ok (.ireturn, 1) := by decide +kernel
theorem dX0_addName_21 : decode cX0_addName 21 = .ok (.aload_n 0, 1) := by decide +kernel
theorem dX0_addName_22 : decode cX0_addName 22 = .ok (.getfield 14, 3) := by decide +kernel
theorem dX0_addName_25 : decode cX0_addName 25 = .ok (.aload_n 0, 1) := by decide +kernel
theorem dX0_addName_26 : decode cX0_addName 26 = .ok (.getfield 33, 3) := by decide +kernel
theorem dX0_addName_29 : decode cX0_addName 29 = .ok (.iload_n 1, 1) := by decide +kernel
theorem dX0_addName_30 : decode cX0_addName 30 = .ok (.invokevirtual 46, 3) := by decide +kernel
theorem dX0_addName_33 : decode cX0_addName 33 = .ok (.aload_n 0, 1) := by decide +kernel
theorem dX0_addName_34 : decode cX0_addName 34 = .ok (.dup, 1) := by decide +kernel
theorem dX0_addName_35 : decode cX0_addName 35 = .ok (.getfield 33, 3) := by decide +kernel
theorem dX0_addName_38 : decode cX0_addName 38 = .ok (.iconst 1, 1) := by decide +kernel
theorem dX0_addName_39 : decode cX0_addName 39 = .ok (.iadd, 1) := by decide +kernel
theorem dX0_addName_40 : decode cX0_addName 40 = .ok (.putfield 33, 3) := by decide +kernel
theorem dX0_addName_43 : decode cX0_addName 43 = .ok (.iconst 1, 1) := by decide +kernel
theorem dX0_addName_44 : decode cX0_addName 44 = .ok (.ireturn, 1) := by decide +kernel
theorem dX0_tellSingle_0 : decode cX0_tellSingle 0 = .ok (.aload_n 0, 1) := by decide +kernel
theorem dX0_tellSingle_1 : decode cX0_tellSingle 1 = .ok (.iload_n 1, 1) := by decide +kernel
theorem dX0_tellSingle_2 : decode cX0_tellSingle 2 = .ok (.iload_n 2, 1) := by decide +kernel
theorem dX0_tellSingle_3 : decode cX0_tellSingle 3 = .ok (.invokevirtual 50, 3) := by decide +kernel
theorem dX0_tellSingle_6 : decode cX0_tellSingle 6 = .ok (.ifCond .ne 5, 3) := by decide +kernel
theorem dX0_tellSingle_9 : decode cX0_tellSingle 9 = .ok (.iconst 0, 1) := by decide +kernel
theorem dX0_tellSingle_10 : decode cX0_tellSingle 10 = .ok (.ireturn, 1) := by decide +kernel
theorem dX0_tellSingle_11 : decode cX0_tellSingle 11 = .ok (.aload_n 0, 1) := by decide +kernel
theorem dX0_tellSingle_12 : decode cX0_tellSingle 12 = .ok (.iload_n 1, 1) := by decide +kernel
theorem dX0_tellSingle_13 : decode cX0_tellSingle 13 = .ok (.iload_n 2, 1) := by decide +kernel
theorem dX0_tellSingle_14 : decode cX0_tellSingle 14 = .ok (.iload_n 3, 1) := by decide +kernel
theorem dX0_tellSingle_15 : decode cX0_tellSingle 15 = .ok (.invokevirtual 54, 3) := by decide +kernel
theorem dX0_tellSingle_18 : decode cX0_tellSingle 18 = .ok (.iconst 1, 1) := by decide +kernel
theorem dX0_tellSingle_19 : decode cX0_tellSingle 19 = .ok (.ireturn, 1) := by decide +kernel
theorem dX0_addTable_0 : decode cX0_addTable 0 = .ok (.aload_n 0, 1) := by decide +kernel
theorem dX0_addTable_1 : decode cX0_addTable 1 = .ok (.getfield 36, 3) := by decide +kernel
theorem dX0_addTable_4 : decode cX0_addTable 4 = .ok (.bipush 9, 2) := by decide +kernel
theorem dX0_addTable_6 : decode cX0_addTable 6 = .ok (.if_icmp .ge 33, 3) := by decide +kernel
theorem dX0_addTable_9 : decode cX0_addTable 9 = .ok (.aload_n 0, 1) := by decide +kernel
theorem dX0_addTable_10 : decode cX0_addTable 10 = .ok (.iload_n 1, 1) := by decide +kernel
theorem dX0_addTable_11 : decode cX0_addTable 11 = .ok (.invokevirtual 58, 3) := by decide +kernel
theorem dX0_addTable_14 : decode cX0_addTable 14 = .ok (.ifCond .eq 25, 3) := by decide +kernel
theorem dX0_addTable_17 : decode cX0_addTable 17 = .ok (.aload_n 0, 1) := by decide +kernel
theorem dX0_addTable_18 : decode cX0_addTable 18 = .ok (.iload_n 2, 1) := by decide +kernel
theorem dX0_addTable_19 : decode cX0_addTable 19 = .ok (.invokevirtual 58, 3) := by decide +kernel
theorem dX0_addTable_22 : decode cX0_addTable 22 = .ok (.ifCond .eq 17, 3) := by decide +kernel
theorem dX0_addTable_25 : decode cX0_addTable 25 = .ok (.iload_n 1, 1) := by decide +kernel
theorem dX0_addTable_26 : decode cX0_addTable 26 = .ok (.iload_n 2, 1) := by decide +kernel
theorem dX0_addTable_27 : decode cX0_addTable 27 = .ok (.if_icmp .ge 12, 3) := by decide +kernel
theorem dX0_addTable_30 : decode cX0_addTable 30 = .ok (.aload_n 0, 1) := by decide +kernel
theorem dX0_addTable_31 : decode cX0_addTable 31 = .ok (.iload_n 1, 1) := by decide +kernel
theorem dX0_addTable_32 : decode cX0_addTable 32 = .ok (.iload_n 2, 1) := by decide +kernel
theorem dX0_addTable_33 : decode cX0_addTable 33 = .ok (.invokevirtual 62, 3) := by decide +kernel
theorem dX0_addTable_36 : decode cX0_addTable 36 = .ok (.ifCond .eq 5, 3) := by decide +kernel
theorem dX0_addTable_39 : decode cX0_addTable 39 = .ok (.iconst 0, 1) := by decide +kernel
theorem dX0_addTable_40 : decode cX0_addTable 40 = .ok (.ireturn, 1) := by decide +kernel
theorem dX0_addTable_41 : decode cX0_addTable 41 = .ok (.aload_n 0, 1) := by decide +kernel
theorem dX0_addTable_42 : decode cX0_addTable 42 = .ok (.getfield 36, 3) := by decide +kernel
theorem dX0_addTable_45 : decode cX0_addTable 45 = .ok (.istore 4, 2) := by decide +kernel
theorem dX0_addTable_47 : decode cX0_addTable 47 = .ok (.aload_n 0, 1) := by decide +kernel
theorem dX0_addTable_48 : decode cX0_addTable 48 = .ok (.getfield 20, 3) := by decide +kernel
theorem dX0_addTable_51 : decode cX0_addTable 51 = .ok (.iload 4, 2) := by decide +kernel
theorem dX0_addTable_53 : decode cX0_addTable 53 = .ok (.iload_n 1, 1) := by decide +kernel
theorem dX0_addTable_54 : decode cX0_addTable 54 = .ok (.invokevirtual 46, 3) := by decide +kernel
theorem dX0_addTable_57 : decode cX0_addTable 57 = .ok (.aload_n 0, 1) := by decide +kernel
theorem dX0_addTable_58 : decode cX0_addTable 58 = .ok (.getfield 23, 3) := by decide +kernel
theorem dX0_addTable_61 : decode cX0_addTable 61 = .ok (.iload 4, 2) := by decide +kernel
theorem dX0_addTable_63 : decode cX0_addTable 63 = .ok (.iload_n 2, 1) := by decide +kernel
theorem dX0_addTable_64 : decode cX0_addTable 64 = .ok (.invokevirtual 46, 3) := by decide +kernel
theorem dX0_addTable_67 : decode cX0_addTable 67 = .ok (.aload_n 0, 1) := by decide +kernel
theorem dX0_addTable_68 : decode cX0_addTable 68 = .ok (.dup, 1) := by decide +kernel
theorem dX0_addTable_69 : decode cX0_addTable 69 = .ok (.getfield 36, 3) := by decide +kernel
theorem dX0_addTable_72 : decode cX0_addTable 72 = .ok (.iconst 1, 1) := by decide +kernel
theorem dX0_addTable_73 : decode cX0_addTable 73 = .ok (.iadd, 1) := by decide +kernel
theorem dX0_addTable_74 : decode cX0_addTable 74 = .ok (.putfield 36, 3) := by decide +kernel
theorem dX0_addTable_77 : decode cX0_addTable 77 = .ok (.iconst 0, 1) := by decide +kernel
theorem dX0_addTable_78 : decode cX0_addTable 78 = .ok (.istore 5, 2) := by decide +kernel
theorem dX0_addTable_80 : decode cX0_addTable 80 = .ok (.iload 5, 2) := by decide +kernel
theorem dX0_addTable_82 : decode cX0_addTable 82 = .ok (.aload_n 0, 1) := by decide +kernel
theorem dX0_addTable_83 : decode cX0_addTable 83 = .ok (.iload_n 1, 1) := by decide +kernel
theorem dX0_addTable_84 : decode cX0_addTable 84 = .ok (.invokevirtual 65, 3) := by decide +kernel
theorem dX0_addTable_87 : decode cX0_addTable 87 = .ok (.aload_n 0, 1) := by decide +kernel
theorem dX0_addTable_88 : decode cX0_addTable 88 = .ok (.iload_n 2, 1) := by decide +kernel
theorem dX0_addTable_89 : decode cX0_addTable 89 = .ok (.invokevirtual 65, 3) := by decide +kernel
theorem dX0_addTable_92 : decode cX0_addTable 92 = .ok (.invokestatic 69, 3) := by decide +kernel
theorem dX0_addTable_95 : decode cX0_addTable 95 = .ok (.if_icmp .ge 20, 3) := by decide +kernel
theorem dX0_addTable_98 : decode cX0_addTable 98 = .ok (.aload_n 0, 1) := by decide +kernel
theorem dX0_addTable_99 : decode cX0_addTable 99 = .ok (.iload 4, 2) := by decide +kernel
theorem dX0_addTable_101 : decode cX0_addTable 101 = .ok (.iload 5, 2) := by decide +kernel
theorem dX0_addTable_103 : decode cX0_addTable 103 = .ok (.iload 5, 2) := by decide +kernel
theorem dX0_addTable_105 : decode cX0_addTable 105 = .ok (.iload_n 3, 1) := by decide +kernel
theorem dX0_addTable_106 : decode cX0_addTable 106 = .ok (.invokevirtual 75, 3) := by decide +kernel
theorem dX0_addTable_109 : decode cX0_addTable 109 = .ok (.iinc 5 1, 3) := by decide +kernel
theorem dX0_addTable_112 : decode cX0_addTable 112 = .ok (.goto (-32), 3) := by decide +kernel
theorem dX0_addTable_115 : decode cX0_addTable 115 = .ok (.iconst 1, 1) := by decide +kernel
theorem dX0_addTable_116 : decode cX0_addTable 116 = .ok (.ireturn, 1) := by decide +kernel
theorem dX0_isJoined_0 : decode cX0_isJoined 0 = .ok (.iconst 0, 1) := by decide +kernel
theorem dX0_isJoined_1 : decode cX0_isJoined 1 = .ok (.istore_n 3, 1) := by decide +kernel
theorem dX0_isJoined_2 : decode cX0_isJoined 2 = .ok (.iload_n 3, 1) := by decide +kernel
theorem dX0_isJoined_3 : decode cX0_isJoined 3 = .ok (.aload_n 0, 1) := by decide +kernel
theorem dX0_isJoined_4 : decode cX0_isJoined 4 = .ok (.getfield 36, 3) := by decide +kernel
theorem dX0_isJoined_7 : decode cX0_isJoined 7 = .ok (.if_icmp .ge 31, 3) := by decide +kernel
theorem dX0_isJoined_10 : decode cX0_isJoined 10 = .ok (.aload_n 0, 1) := by decide +kernel
theorem dX0_isJoined_11 : decode cX0_isJoined 11 = .ok (.iload_n 3, 1) := by decide +kernel
theorem dX0_isJoined_12 : decode cX0_isJoined 12 = .ok (.iconst 0, 1) := by decide +kernel
theorem dX0_isJoined_13 : decode cX0_isJoined 13 = .ok (.invokevirtual 79, 3) := by decide +kernel
theorem dX0_isJoined_16 : decode cX0_isJoined 16 = .ok (.iload_n 1, 1) := by decide +kernel
theorem dX0_isJoined_17 : decode cX0_isJoined 17 = .ok (.if_icmp .ne 15, 3) := by decide +kernel
theorem dX0_isJoined_20 : decode cX0_isJoined 20 = .ok (.aload_n 0, 1) := by decide +kernel
theorem dX0_isJoined_21 : decode cX0_isJoined 21 = .ok (.iload_n 3, 1) := by decide +kernel
theorem dX0_isJoined_22 : decode cX0_isJoined 22 = .ok (.iconst 1, 1) := by decide +kernel
theorem dX0_isJoined_23 : decode cX0_isJoined 23 = .ok (.invokevirtual 79, 3) := by decide +kernel
theorem dX0_isJoined_26 : decode cX0_isJoined 26 = .ok (.iload_n 2, 1) := by decide +kernel
theorem dX0_isJoined_27 : decode cX0_isJoined 27 = .ok (.if_icmp .ne 5, 3) := by decide +kernel
theorem dX0_isJoined_30 : decode cX0_isJoined 30 = .ok (.iconst 1, 1) := by decide +kernel
theorem dX0_isJoined_31 : decode cX0_isJoined 31 = .ok (.ireturn, 1) := by decide +kernel
theorem dX0_isJoined_32 : decode cX0_isJoined 32 = .ok (.iinc 3 1, 3) := by decide +kernel
theorem dX0_isJoined_35 : decode cX0_isJoined 35 = .ok (.goto (-33), 3) := by decide +kernel
theorem dX0_isJoined_38 : decode cX0_isJoined 38 = .ok (.iconst 0, 1) := by decide +kernel
theorem dX0_isJoined_39 : decode cX0_isJoined 39 = .ok (.ireturn, 1) := by decide +kernel
theorem dX0_tellPair_0 : decode cX0_tellPair 0 = .ok (.aload_n 0, 1) := by decide +kernel
theorem dX0_tellPair_1 : decode cX0_tellPair 1 = .ok (.iload_n 1, 1) := by decide +kernel
theorem dX0_tellPair_2 : decode cX0_tellPair 2 = .ok (.iload_n 2, 1) := by decide +kernel
theorem dX0_tellPair_3 : decode cX0_tellPair 3 = .ok (.iload_n 3, 1) := by decide +kernel
theorem dX0_tellPair_4 : decode cX0_tellPair 4 = .ok (.invokevirtual 82, 3) := by decide +kernel
theorem dX0_tellPair_7 : decode cX0_tellPair 7 = .ok (.ifCond .ne 5, 3) := by decide +kernel
theorem dX0_tellPair_10 : decode cX0_tellPair 10 = .ok (.iconst 0, 1) := by decide +kernel
theorem dX0_tellPair_11 : decode cX0_tellPair 11 = .ok (.ireturn, 1) := by decide +kernel
theorem dX0_tellPair_12 : decode cX0_tellPair 12 = .ok (.aload_n 0, 1) := by decide +kernel
theorem dX0_tellPair_13 : decode cX0_tellPair 13 = .ok (.iload_n 1, 1) := by decide +kernel
theorem dX0_tellPair_14 : decode cX0_tellPair 14 = .ok (.iload_n 2, 1) := by decide +kernel
theorem dX0_tellPair_15 : decode cX0_tellPair 15 = .ok (.iload_n 3, 1) := by decide +kernel
theorem dX0_tellPair_16 : decode cX0_tellPair 16 = .ok (.iload 4, 2) := by decide +kernel
theorem dX0_tellPair_18 : decode cX0_tellPair 18 = .ok (.invokevirtual 75, 3) := by decide +kernel
theorem dX0_tellPair_21 : decode cX0_tellPair 21 = .ok (.iconst 1, 1) := by decide +kernel
theorem dX0_tellPair_22 : decode cX0_tellPair 22 = .ok (.ireturn, 1) := by decide +kernel
theorem dX0_keepToTop_0 : decode cX0_keepToTop 0 = .ok (.iconst 0, 1) := by decide +kernel
theorem dX0_keepToTop_1 : decode cX0_keepToTop 1 = .ok (.istore_n 1, 1) := by decide +kernel
theorem dX0_keepToTop_2 : decode cX0_keepToTop 2 = .ok (.iload_n 1, 1) := by decide +kernel
theorem dX0_keepToTop_3 : decode cX0_keepToTop 3 = .ok (.sipush 169, 3) := by decide +kernel
theorem dX0_keepToTop_6 : decode cX0_keepToTop 6 = .ok (.if_icmp .ge 32, 3) := by decide +kernel
theorem dX0_keepToTop_9 : decode cX0_keepToTop 9 = .ok (.aload_n 0, 1) := by decide +kernel
theorem dX0_keepToTop_10 : decode cX0_keepToTop 10 = .ok (.getfield 26, 3) := by decide +kernel
theorem dX0_keepToTop_13 : decode cX0_keepToTop 13 = .ok (.iload_n 1, 1) := by decide +kernel
theorem dX0_keepToTop_14 : decode cX0_keepToTop 14 = .ok (.aload_n 0, 1) := by decide +kernel
theorem dX0_keepToTop_15 : decode cX0_keepToTop 15 = .ok (.getfield 29, 3) := by decide +kernel
theorem dX0_keepToTop_18 : decode cX0_keepToTop 18 = .ok (.aload_n 0, 1) := by decide +kernel
theorem dX0_keepToTop_19 : decode cX0_keepToTop 19 = .ok (.getfield 26, 3) := by decide +kernel
theorem dX0_keepToTop_22 : decode cX0_keepToTop 22 = .ok (.iload_n 1, 1) := by decide +kernel
theorem dX0_keepToTop_23 : decode cX0_keepToTop 23 = .ok (.invokevirtual 86, 3) := by decide +kernel
theorem dX0_keepToTop_26 : decode cX0_keepToTop 26 = .ok (.invokestatic 69, 3) := by decide +kernel
theorem dX0_keepToTop_29 : decode cX0_keepToTop 29 = .ok (.invokevirtual 46, 3) := by decide +kernel
theorem dX0_keepToTop_32 : decode cX0_keepToTop 32 = .ok (.iinc 1 1, 3) := by decide +kernel
theorem dX0_keepToTop_35 : decode cX0_keepToTop 35 = .ok (.goto (-33), 3) := by decide +kernel
theorem dX0_keepToTop_38 : decode cX0_keepToTop 38 = .ok (.return_, 1) := by decide +kernel
theorem dX0_names_0 : decode cX0_names 0 = .ok (.aload_n 0, 1) := by decide +kernel
theorem dX0_names_1 : decode cX0_names 1 = .ok (.getfield 33, 3) := by decide +kernel
theorem dX0_names_4 : decode cX0_names 4 = .ok (.ireturn, 1) := by decide +kernel
theorem dX0_tables_0 : decode cX0_tables 0 = .ok (.aload_n 0, 1) := by decide +kernel
theorem dX0_tables_1 : decode cX0_tables 1 = .ok (.getfield 36, 3) := by decide +kernel
theorem dX0_tables_4 : decode cX0_tables 4 = .ok (.ireturn, 1) := by decide +kernel
theorem dX0_top_0 : decode cX0_top 0 = .ok (.aload_n 0, 1) := by decide +kernel
theorem dX0_top_1 : decode cX0_top 1 = .ok (.getfield 29, 3) := by decide +kernel
theorem dX0_top_4 : decode cX0_top 4 = .ok (.ireturn, 1) := by decide +kernel
theorem dX0_hasName_0 : decode cX0_hasName 0 = .ok (.iload_n 1, 1) := by decide +kernel
theorem dX0_hasName_1 : decode cX0_hasName 1 = .ok (.ifCond .lt 15, 3) := by decide +kernel
theorem dX0_hasName_4 : decode cX0_hasName 4 = .ok (.iload_n 1, 1) := by decide +kernel
theorem dX0_hasName_5 : decode cX0_hasName 5 = .ok (.aload_n 0, 1) := by decide +kernel
theorem dX0_hasName_6 : decode cX0_hasName 6 = .ok (.getfield 33, 3) := by decide +kernel
theorem dX0_hasName_9 : decode cX0_hasName 9 = .ok (.if_icmp .ge 7, 3) := by decide +kernel
theorem dX0_hasName_12 : decode cX0_hasName 12 = .ok (.iconst 1, 1) := by decide +kernel
theorem dX0_hasName_13 : decode cX0_hasName 13 = .ok (.goto 4, 3) := by decide +kernel
theorem dX0_hasName_16 : decode cX0_hasName 16 = .ok (.iconst 0, 1) := by decide +kernel
theorem dX0_hasName_17 : decode cX0_hasName 17 = .ok (.ireturn, 1) := by decide +kernel
theorem dX0_hasValue_0 : decode cX0_hasValue 0 = .ok (.iload_n 1, 1) := by decide +kernel
theorem dX0_hasValue_1 : decode cX0_hasValue 1 = .ok (.ifCond .lt 31, 3) := by decide +kernel
theorem dX0_hasValue_4 : decode cX0_hasValue 4 = .ok (.iload_n 1, 1) := by decide +kernel
theorem dX0_hasValue_5 : decode cX0_hasValue 5 = .ok (.aload_n 0, 1) := by decide +kernel
theorem dX0_hasValue_6 : decode cX0_hasValue 6 = .ok (.getfield 33, 3) := by decide +kernel
theorem dX0_hasValue_9 : decode cX0_hasValue 9 = .ok (.if_icmp .ge 23, 3) := by decide +kernel
theorem dX0_hasValue_12 : decode cX0_hasValue 12 = .ok (.iload_n 2, 1) := by decide +kernel
theorem dX0_hasValue_13 : decode cX0_hasValue 13 = .ok (.ifCond .lt 19, 3) := by decide +kernel
theorem dX0_hasValue_16 : decode cX0_hasValue 16 = .ok (.iload_n 2, 1) := by decide +kernel
theorem dX0_hasValue_17 : decode cX0_hasValue 17 = .ok (.aload_n 0, 1) := by decide +kernel
theorem dX0_hasValue_18 : decode cX0_hasValue 18 = .ok (.getfield 14, 3) := by decide +kernel
theorem dX0_hasValue_21 : decode cX0_hasValue 21 = .ok (.iload_n 1, 1) := by decide +kernel
theorem dX0_hasValue_22 : decode cX0_hasValue 22 = .ok (.invokevirtual 86, 3) := by decide +kernel
theorem dX0_hasValue_25 : decode cX0_hasValue 25 = .ok (.if_icmp .ge 7, 3) := by decide +kernel
theorem dX0_hasValue_28 : decode cX0_hasValue 28 = .ok (.iconst 1, 1) := by decide +kernel
theorem dX0_hasValue_29 : decode cX0_hasValue 29 = .ok (.goto 4, 3) := by decide +kernel
theorem dX0_hasValue_32 : decode cX0_hasValue 32 = .ok (.iconst 0, 1) := by decide +kernel
theorem dX0_hasValue_33 : decode cX0_hasValue 33 = .ok (.ireturn, 1) := by decide +kernel
theorem dX0_hasTable_0 : decode cX0_hasTable 0 = .ok (.iload_n 1, 1) := by decide +kernel
theorem dX0_hasTable_1 : decode cX0_hasTable 1 = .ok (.ifCond .lt 15, 3) := by decide +kernel
theorem dX0_hasTable_4 : decode cX0_hasTable 4 = .ok (.iload_n 1, 1) := by decide +kernel
theorem dX0_hasTable_5 : decode cX0_hasTable 5 = .ok (.aload_n 0, 1) := by decide +kernel
theorem dX0_hasTable_6 : decode cX0_hasTable 6 = .ok (.getfield 36, 3) := by decide +kernel
theorem dX0_hasTable_9 : decode cX0_hasTable 9 = .ok (.if_icmp .ge 7, 3) := by decide +kernel
theorem dX0_hasTable_12 : decode cX0_hasTable 12 = .ok (.iconst 1, 1) := by decide +kernel
theorem dX0_hasTable_13 : decode cX0_hasTable 13 = .ok (.goto 4, 3) := by decide +kernel
theorem dX0_hasTable_16 : decode cX0_hasTable 16 = .ok (.iconst 0, 1) := by decide +kernel
theorem dX0_hasTable_17 : decode cX0_hasTable 17 = .ok (.ireturn, 1) := by decide +kernel
theorem dX0_hasValueOn_0 : decode cX0_hasValueOn 0 = .ok (.aload_n 0, 1) := by decide +kernel
theorem dX0_hasValueOn_1 : decode cX0_hasValueOn 1 = .ok (.iload_n 1, 1) := by decide +kernel
theorem dX0_hasValueOn_2 : decode cX0_hasValueOn 2 = .ok (.invokevirtual 89, 3) := by decide +kernel
theorem dX0_hasValueOn_5 : decode cX0_hasValueOn 5 = .ok (.ifCond .eq 30, 3) := by decide +kernel
theorem dX0_hasValueOn_8 : decode cX0_hasValueOn 8 = .ok (.iload_n 2, 1) := by decide +kernel
theorem dX0_hasValueOn_9 : decode cX0_hasValueOn 9 = .ok (.ifCond .eq 8, 3) := by decide +kernel
theorem dX0_hasValueOn_12 : decode cX0_hasValueOn 12 = .ok (.iload_n 2, 1) := by decide +kernel
theorem dX0_hasValueOn_13 : decode cX0_hasValueOn 13 = .ok (.iconst 1, 1) := by decide +kernel
theorem dX0_hasValueOn_14 : decode cX0_hasValueOn 14 = .ok (.if_icmp .ne 21, 3) := by decide +kernel
theorem dX0_hasValueOn_17 : decode cX0_hasValueOn 17 = .ok (.iload_n 3, 1) := by decide +kernel
theorem dX0_hasValueOn_18 : decode cX0_hasValueOn 18 = .ok (.ifCond .lt 17, 3) := by decide +kernel
theorem dX0_hasValueOn_21 : decode cX0_hasValueOn 21 = .ok (.iload_n 3, 1) := by decide +kernel
theorem dX0_hasValueOn_22 : decode cX0_hasValueOn 22 = .ok (.aload_n 0, 1) := by decide +kernel
theorem dX0_hasValueOn_23 : decode cX0_hasValueOn 23 = .ok (.iload_n 1, 1) := by decide +kernel
theorem dX0_hasValueOn_24 : decode cX0_hasValueOn 24 = .ok (.iload_n 2, 1) := by decide +kernel
theorem dX0_hasValueOn_25 : decode cX0_hasValueOn 25 = .ok (.invokevirtual 92, 3) := by decide +kernel
theorem dX0_hasValueOn_28 : decode cX0_hasValueOn 28 = .ok (.if_icmp .ge 7, 3) := by decide +kernel
theorem dX0_hasValueOn_31 : decode cX0_hasValueOn 31 = .ok (.iconst 1, 1) := by decide +kernel
theorem dX0_hasValueOn_32 : decode cX0_hasValueOn 32 = .ok (.goto 4, 3) := by decide +kernel
theorem dX0_hasValueOn_35 : decode cX0_hasValueOn 35 = .ok (.iconst 0, 1) := by decide +kernel
theorem dX0_hasValueOn_36 : decode cX0_hasValueOn 36 = .ok (.ireturn, 1) := by decide +kernel
theorem dX0_hasPair_0 : decode cX0_hasPair 0 = .ok (.aload_n 0, 1) := by decide +kernel
theorem dX0_hasPair_1 : decode cX0_hasPair 1 = .ok (.iload_n 1, 1) := by decide +kernel
theorem dX0_hasPair_2 : decode cX0_hasPair 2 = .ok (.invokevirtual 89, 3) := by decide +kernel
theorem dX0_hasPair_5 : decode cX0_hasPair 5 = .ok (.ifCond .eq 35, 3) := by decide +kernel
theorem dX0_hasPair_8 : decode cX0_hasPair 8 = .ok (.iload_n 2, 1) := by decide +kernel
theorem dX0_hasPair_9 : decode cX0_hasPair 9 = .ok (.ifCond .lt 31, 3) := by decide +kernel
theorem dX0_hasPair_12 : decode cX0_hasPair 12 = .ok (.iload_n 2, 1) := by decide +kernel
theorem dX0_hasPair_13 : decode cX0_hasPair 13 = .ok (.aload_n 0, 1) := by decide +kernel
theorem dX0_hasPair_14 : decode cX0_hasPair 14 = .ok (.iload_n 1, 1) := by decide +kernel
theorem dX0_hasPair_15 : decode cX0_hasPair 15 = .ok (.iconst 0, 1) := by decide +kernel
theorem dX0_hasPair_16 : decode cX0_hasPair 16 = .ok (.invokevirtual 92, 3) := by decide +kernel
theorem dX0_hasPair_19 : decode cX0_hasPair 19 = .ok (.if_icmp .ge 21, 3) := by decide +kernel
theorem dX0_hasPair_22 : decode cX0_hasPair 22 = .ok (.iload_n 3, 1) := by decide +kernel
theorem dX0_hasPair_23 : decode cX0_hasPair 23 = .ok (.ifCond .lt 17, 3) := by decide +kernel
theorem dX0_hasPair_26 : decode cX0_hasPair 26 = .ok (.iload_n 3, 1) := by decide +kernel
theorem dX0_hasPair_27 : decode cX0_hasPair 27 = .ok (.aload_n 0, 1) := by decide +kernel
theorem dX0_hasPair_28 : decode cX0_hasPair 28 = .ok (.iload_n 1, 1) := by decide +kernel
theorem dX0_hasPair_29 : decode cX0_hasPair 29 = .ok (.iconst 1, 1) := by decide +kernel
theorem dX0_hasPair_30 : decode cX0_hasPair 30 = .ok (.invokevirtual 92, 3) := by decide +kernel
theorem dX0_hasPair_33 : decode cX0_hasPair 33 = .ok (.if_icmp .ge 7, 3) := by decide +kernel
theorem dX0_hasPair_36 : decode cX0_hasPair 36 = .ok (.iconst 1, 1) := by decide +kernel
theorem dX0_hasPair_37 : decode cX0_hasPair 37 = .ok (.goto 4, 3) := by decide +kernel
theorem dX0_hasPair_40 : decode cX0_hasPair 40 = .ok (.iconst 0, 1) := by decide +kernel
theorem dX0_hasPair_41 : decode cX0_hasPair 41 = .ok (.ireturn, 1) := by decide +kernel
theorem dX0_valuesOf_0 : decode cX0_valuesOf 0 = .ok (.aload_n 0, 1) := by decide +kernel
theorem dX0_valuesOf_1 : decode cX0_valuesOf 1 = .ok (.getfield 14, 3) := by decide +kernel
theorem dX0_valuesOf_4 : decode cX0_valuesOf 4 = .ok (.iload_n 1, 1) := by decide +kernel
theorem dX0_valuesOf_5 : decode cX0_valuesOf 5 = .ok (.invokevirtual 86, 3) := by decide +kernel
theorem dX0_valuesOf_8 : decode cX0_valuesOf 8 = .ok (.ireturn, 1) := by decide +kernel
theorem dX0_nameOn_0 : decode cX0_nameOn 0 = .ok (.iload_n 2, 1) := by decide +kernel
theorem dX0_nameOn_1 : decode cX0_nameOn 1 = .ok (.ifCond .ne 14, 3) := by decide +kernel
theorem dX0_nameOn_4 : decode cX0_nameOn 4 = .ok (.aload_n 0, 1) := by decide +kernel
theorem dX0_nameOn_5 : decode cX0_nameOn 5 = .ok (.getfield 20, 3) := by decide +kernel
theorem dX0_nameOn_8 : decode cX0_nameOn 8 = .ok (.iload_n 1, 1) := by decide +kernel
theorem dX0_nameOn_9 : decode cX0_nameOn 9 = .ok (.invokevirtual 86, 3) := by decide +kernel
theorem dX0_nameOn_12 : decode cX0_nameOn 12 = .ok (.goto 11, 3) := by decide +kernel
theorem dX0_nameOn_15 : decode cX0_nameOn 15 = .ok (.aload_n 0, 1) := by decide +kernel
theorem dX0_nameOn_16 : decode cX0_nameOn 16 = .ok (.getfield 23, 3) := by decide +kernel
theorem dX0_nameOn_19 : decode cX0_nameOn 19 = .ok (.iload_n 1, 1) := by decide +kernel
theorem dX0_nameOn_20 : decode cX0_nameOn 20 = .ok (.invokevirtual 86, 3) := by decide +kernel
theorem dX0_nameOn_23 : decode cX0_nameOn 23 = .ok (.ireturn, 1) := by decide +kernel
theorem dX0_valuesOn_0 : decode cX0_valuesOn 0 = .ok (.aload_n 0, 1) := by decide +kernel
theorem dX0_valuesOn_1 : decode cX0_valuesOn 1 = .ok (.getfield 14, 3) := by decide +kernel
theorem dX0_valuesOn_4 : decode cX0_valuesOn 4 = .ok (.iload_n 2, 1) := by decide +kernel
theorem dX0_valuesOn_5 : decode cX0_valuesOn 5 = .ok (.ifCond .ne 14, 3) := by decide +kernel
theorem dX0_valuesOn_8 : decode cX0_valuesOn 8 = .ok (.aload_n 0, 1) := by decide +kernel
theorem dX0_valuesOn_9 : decode cX0_valuesOn 9 = .ok (.getfield 20, 3) := by decide +kernel
theorem dX0_valuesOn_12 : decode cX0_valuesOn 12 = .ok (.iload_n 1, 1) := by decide +kernel
theorem dX0_valuesOn_13 : decode cX0_valuesOn 13 = .ok (.invokevirtual 86, 3) := by decide +kernel
theorem dX0_valuesOn_16 : decode cX0_valuesOn 16 = .ok (.goto 11, 3) := by decide +kernel
theorem dX0_valuesOn_19 : decode cX0_valuesOn 19 = .ok (.aload_n 0, 1) := by decide +kernel
theorem dX0_valuesOn_20 : decode cX0_valuesOn 20 = .ok (.getfield 23, 3) := by decide +kernel
theorem dX0_valuesOn_23 : decode cX0_valuesOn 23 = .ok (.iload_n 1, 1) := by decide +kernel
theorem dX0_valuesOn_24 : decode cX0_valuesOn 24 = .ok (.invokevirtual 86, 3) := by decide +kernel
theorem dX0_valuesOn_27 : decode cX0_valuesOn 27 = .ok (.invokevirtual 86, 3) := by decide +kernel
theorem dX0_valuesOn_30 : decode cX0_valuesOn 30 = .ok (.ireturn, 1) := by decide +kernel
theorem dX0_tablesOf_0 : decode cX0_tablesOf 0 = .ok (.iconst 0, 1) := by decide +kernel
theorem dX0_tablesOf_1 : decode cX0_tablesOf 1 = .ok (.istore_n 2, 1) := by decide +kernel
theorem dX0_tablesOf_2 : decode cX0_tablesOf 2 = .ok (.iconst 0, 1) := by decide +kernel
theorem dX0_tablesOf_3 : decode cX0_tablesOf 3 = .ok (.istore_n 3, 1) := by decide +kernel
theorem dX0_tablesOf_4 : decode cX0_tablesOf 4 = .ok (.iload_n 3, 1) := by decide +kernel
theorem dX0_tablesOf_5 : decode cX0_tablesOf 5 = .ok (.aload_n 0, 1) := by decide +kernel
theorem dX0_tablesOf_6 : decode cX0_tablesOf 6 = .ok (.getfield 36, 3) := by decide +kernel
theorem dX0_tablesOf_9 : decode cX0_tablesOf 9 = .ok (.if_icmp .ge 35, 3) := by decide +kernel
theorem dX0_tablesOf_12 : decode cX0_tablesOf 12 = .ok (.aload_n 0, 1) := by decide +kernel
theorem dX0_tablesOf_13 : decode cX0_tablesOf 13 = .ok (.iload_n 3, 1) := by decide +kernel
theorem dX0_tablesOf_14 : decode cX0_tablesOf 14 = .ok (.iconst 0, 1) := by decide +kernel
theorem dX0_tablesOf_15 : decode cX0_tablesOf 15 = .ok (.invokevirtual 79, 3) := by decide +kernel
theorem dX0_tablesOf_18 : decode cX0_tablesOf 18 = .ok (.iload_n 1, 1) := by decide +kernel
theorem dX0_tablesOf_19 : decode cX0_tablesOf 19 = .ok (.if_icmp .eq 13, 3) := by decide +kernel
theorem dX0_tablesOf_22 : decode cX0_tablesOf 22 = .ok (.aload_n 0, 1) := by decide +kernel
theorem dX0_tablesOf_23 : decode cX0_tablesOf 23 = .ok (.iload_n 3, 1) := by decide +kernel
theorem dX0_tablesOf_24 : decode cX0_tablesOf 24 = .ok (.iconst 1, 1) := by decide +kernel
theorem dX0_tablesOf_25 : decode cX0_tablesOf 25 = .ok (.invokevirtual 79, 3) := by decide +kernel
theorem dX0_tablesOf_28 : decode cX0_tablesOf 28 = .ok (.iload_n 1, 1) := by decide +kernel
theorem dX0_tablesOf_29 : decode cX0_tablesOf 29 = .ok (.if_icmp .ne 9, 3) := by decide +kernel
theorem dX0_tablesOf_32 : decode cX0_tablesOf 32 = .ok (.iload_n 2, 1) := by decide +kernel
theorem dX0_tablesOf_33 : decode cX0_tablesOf 33 = .ok (.iconst 1, 1) := by decide +kernel
theorem dX0_tablesOf_34 : decode cX0_tablesOf 34 = .ok (.iload_n 3, 1) := by decide +kernel
theorem dX0_tablesOf_35 : decode cX0_tablesOf 35 = .ok (.ishl, 1) := by decide +kernel
theorem dX0_tablesOf_36 : decode cX0_tablesOf 36 = .ok (.ior, 1) := by decide +kernel
theorem dX0_tablesOf_37 : decode cX0_tablesOf 37 = .ok (.istore_n 2, 1) := by decide +kernel
theorem dX0_tablesOf_38 : decode cX0_tablesOf 38 = .ok (.iinc 3 1, 3) := by decide +kernel
theorem dX0_tablesOf_41 : decode cX0_tablesOf 41 = .ok (.goto (-37), 3) := by decide +kernel
theorem dX0_tablesOf_44 : decode cX0_tablesOf 44 = .ok (.iload_n 2, 1) := by decide +kernel
theorem dX0_tablesOf_45 : decode cX0_tablesOf 45 = .ok (.ireturn, 1) := by decide +kernel
theorem dX0_constant_0 : decode cX0_constant 0 = .ok (.aload_n 0, 1) := by decide +kernel
theorem dX0_constant_1 : decode cX0_constant 1 = .ok (.getfield 26, 3) := by decide +kernel
theorem dX0_constant_4 : decode cX0_constant 4 = .ok (.iconst 0, 1) := by decide +kernel
theorem dX0_constant_5 : decode cX0_constant 5 = .ok (.invokevirtual 86, 3) := by decide +kernel
theorem dX0_constant_8 : decode cX0_constant 8 = .ok (.ireturn, 1) := by decide +kernel
theorem dX0_singleCost_0 : decode cX0_singleCost 0 = .ok (.aload_n 0, 1) := by decide +kernel
theorem dX0_singleCost_1 : decode cX0_singleCost 1 = .ok (.getfield 26, 3) := by decide +kernel
theorem dX0_singleCost_4 : decode cX0_singleCost 4 = .ok (.iload_n 1, 1) := by decide +kernel
theorem dX0_singleCost_5 : decode cX0_singleCost 5 = .ok (.iload_n 2, 1) := by decide +kernel
theorem dX0_singleCost_6 : decode cX0_singleCost 6 = .ok (.invokestatic 95, 3) := by decide +kernel
theorem dX0_singleCost_9 : decode cX0_singleCost 9 = .ok (.invokevirtual 86, 3) := by decide +kernel
theorem dX0_singleCost_12 : decode cX0_singleCost 12 = .ok (.ireturn, 1) := by decide +kernel
theorem dX0_pairCost_0 : decode cX0_pairCost 0 = .ok (.aload_n 0, 1) := by decide +kernel
theorem dX0_pairCost_1 : decode cX0_pairCost 1 = .ok (.getfield 26, 3) := by decide +kernel
theorem dX0_pairCost_4 : decode cX0_pairCost 4 = .ok (.iload_n 1, 1) := by decide +kernel
theorem dX0_pairCost_5 : decode cX0_pairCost 5 = .ok (.iload_n 2, 1) := by decide +kernel
theorem dX0_pairCost_6 : decode cX0_pairCost 6 = .ok (.iload_n 3, 1) := by decide +kernel
theorem dX0_pairCost_7 : decode cX0_pairCost 7 = .ok (.invokestatic 98, 3) := by decide +kernel
theorem dX0_pairCost_10 : decode cX0_pairCost 10 = .ok (.invokevirtual 86, 3) := by decide +kernel
theorem dX0_pairCost_13 : decode cX0_pairCost 13 = .ok (.ireturn, 1) := by decide +kernel
theorem dX0_singleAt_0 : decode cX0_singleAt 0 = .ok (.iconst 1, 1) := by decide +kernel
theorem dX0_singleAt_1 : decode cX0_singleAt 1 = .ok (.iconst 4, 1) := by decide +kernel
theorem dX0_singleAt_2 : decode cX0_singleAt 2 = .ok (.iload_n 0, 1) := by decide +kernel
theorem dX0_singleAt_3 : decode cX0_singleAt 3 = .ok (.imul, 1) := by decide +kernel
theorem dX0_singleAt_4 : decode cX0_singleAt 4 = .ok (.iadd, 1) := by decide +kernel
theorem dX0_singleAt_5 : decode cX0_singleAt 5 = .ok (.iload_n 1, 1) := by decide +kernel
theorem dX0_singleAt_6 : decode cX0_singleAt 6 = .ok (.iadd, 1) := by decide +kernel
theorem dX0_singleAt_7 : decode cX0_singleAt 7 = .ok (.ireturn, 1) := by decide +kernel
theorem dX0_pairAt_0 : decode cX0_pairAt 0 = .ok (.bipush 25, 2) := by decide +kernel
theorem dX0_pairAt_2 : decode cX0_pairAt 2 = .ok (.bipush 16, 2) := by decide +kernel
theorem dX0_pairAt_4 : decode cX0_pairAt 4 = .ok (.iload_n 0, 1) := by decide +kernel
theorem dX0_pairAt_5 : decode cX0_pairAt 5 = .ok (.imul, 1) := by decide +kernel
theorem dX0_pairAt_6 : decode cX0_pairAt 6 = .ok (.iadd, 1) := by decide +kernel
theorem dX0_pairAt_7 : decode cX0_pairAt 7 = .ok (.iconst 4, 1) := by decide +kernel
theorem dX0_pairAt_8 : decode cX0_pairAt 8 = .ok (.iload_n 1, 1) := by decide +kernel
theorem dX0_pairAt_9 : decode cX0_pairAt 9 = .ok (.imul, 1) := by decide +kernel
theorem dX0_pairAt_10 : decode cX0_pairAt 10 = .ok (.iadd, 1) := by decide +kernel
theorem dX0_pairAt_11 : decode cX0_pairAt 11 = .ok (.iload_n 2, 1) := by decide +kernel
theorem dX0_pairAt_12 : decode cX0_pairAt 12 = .ok (.iadd, 1) := by decide +kernel
theorem dX0_pairAt_13 : decode cX0_pairAt 13 = .ok (.ireturn, 1) := by decide +kernel
theorem dX0_pairFrom_0 : decode cX0_pairFrom 0 = .ok (.iload_n 1, 1) := by decide +kernel
theorem dX0_pairFrom_1 : decode cX0_pairFrom 1 = .ok (.ifCond .ne 12, 3) := by decide +kernel
theorem dX0_pairFrom_4 : decode cX0_pairFrom 4 = .ok (.iload_n 0, 1) := by decide +kernel
theorem dX0_pairFrom_5 : decode cX0_pairFrom 5 = .ok (.iload_n 2, 1) := by decide +kernel
theorem dX0_pairFrom_6 : decode cX0_pairFrom 6 = .ok (.iload_n 3, 1) := by decide +kernel
theorem dX0_pairFrom_7 : decode cX0_pairFrom 7 = .ok (.invokestatic 98, 3) := by decide +kernel
theorem dX0_pairFrom_10 : decode cX0_pairFrom 10 = .ok (.goto 9, 3) := by decide +kernel
theorem dX0_pairFrom_13 : decode cX0_pairFrom 13 = .ok (.iload_n 0, 1) := by decide +kernel
theorem dX0_pairFrom_14 : decode cX0_pairFrom 14 = .ok (.iload_n 3, 1) := by decide +kernel
theorem dX0_pairFrom_15 : decode cX0_pairFrom 15 = .ok (.iload_n 2, 1) := by decide +kernel
theorem dX0_pairFrom_16 : decode cX0_pairFrom 16 = .ok (.invokestatic 98, 3) := by decide +kernel
theorem dX0_pairFrom_19 : decode cX0_pairFrom 19 = .ok (.ireturn, 1) := by decide +kernel
theorem dX0_acrossFrom_0 : decode cX0_acrossFrom 0 = .ok (.iload_n 0, 1) := by decide +kernel
theorem dX0_acrossFrom_1 : decode cX0_acrossFrom 1 = .ok (.ifCond .ne 7, 3) := by decide +kernel
theorem dX0_acrossFrom_4 : decode cX0_acrossFrom 4 = .ok (.iconst 1, 1) := by decide +kernel
theorem dX0_acrossFrom_5 : decode cX0_acrossFrom 5 = .ok (.goto 4, 3) := by decide +kernel
theorem dX0_acrossFrom_8 : decode cX0_acrossFrom 8 = .ok (.iconst 0, 1) := by decide +kernel
theorem dX0_acrossFrom_9 : decode cX0_acrossFrom 9 = .ok (.ireturn, 1) := by decide +kernel
theorem dX0_leastSingle_0 : decode cX0_leastSingle 0 = .ok (.aload_n 0, 1) := by decide +kernel
theorem dX0_leastSingle_1 : decode cX0_leastSingle 1 = .ok (.getfield 29, 3) := by decide +kernel
theorem dX0_leastSingle_4 : decode cX0_leastSingle 4 = .ok (.istore_n 2, 1) := by decide +kernel
theorem dX0_leastSingle_5 : decode cX0_leastSingle 5 = .ok (.iconst 0, 1) := by decide +kernel
theorem dX0_leastSingle_6 : decode cX0_leastSingle 6 = .ok (.istore_n 3, 1) := by decide +kernel
theorem dX0_leastSingle_7 : decode cX0_leastSingle 7 = .ok (.iload_n 3, 1) := by decide +kernel
theorem dX0_leastSingle_8 : decode cX0_leastSingle 8 = .ok (.aload_n 0, 1) := by decide +kernel
theorem dX0_leastSingle_9 : decode cX0_leastSingle 9 = .ok (.iload_n 1, 1) := by decide +kernel
theorem dX0_leastSingle_10 : decode cX0_leastSingle 10 = .ok (.invokevirtual 65, 3) := by decide +kernel
theorem dX0_leastSingle_13 : decode cX0_leastSingle 13 = .ok (.if_icmp .ge 20, 3) := by decide +kernel
theorem dX0_leastSingle_16 : decode cX0_leastSingle 16 = .ok (.iload_n 2, 1) := by decide +kernel
theorem dX0_leastSingle_17 : decode cX0_leastSingle 17 = .ok (.aload_n 0, 1) := by decide +kernel
theorem dX0_leastSingle_18 : decode cX0_leastSingle 18 = .ok (.iload_n 1, 1) := by decide +kernel
theorem dX0_leastSingle_19 : decode cX0_leastSingle 19 = .ok (.iload_n 3, 1) := by decide +kernel
theorem dX0_leastSingle_20 : decode cX0_leastSingle 20 = .ok (.invokevirtual 102, 3) := by decide +kernel
theorem dX0_leastSingle_23 : decode cX0_leastSingle 23 = .ok (.invokestatic 69, 3) := by decide +kernel
theorem dX0_leastSingle_26 : decode cX0_leastSingle 26 = .ok (.istore_n 2, 1) := by decide +kernel
theorem dX0_leastSingle_27 : decode cX0_leastSingle 27 = .ok (.iinc 3 1, 3) := by decide +kernel
theorem dX0_leastSingle_30 : decode cX0_leastSingle 30 = .ok (.goto (-23), 3) := by decide +kernel
theorem dX0_leastSingle_33 : decode cX0_leastSingle 33 = .ok (.iload_n 2, 1) := by decide +kernel
theorem dX0_leastSingle_34 : decode cX0_leastSingle 34 = .ok (.ireturn, 1) := by decide +kernel
theorem dX0_leastPairOf_0 : decode cX0_leastPairOf 0 = .ok (.aload_n 0, 1) := by decide +kernel
theorem dX0_leastPairOf_1 : decode cX0_leastPairOf 1 = .ok (.getfield 29, 3) := by decide +kernel
theorem dX0_leastPairOf_4 : decode cX0_leastPairOf 4 = .ok (.istore 4, 2) := by decide +kernel
theorem dX0_leastPairOf_6 : decode cX0_leastPairOf 6 = .ok (.aload_n 0, 1) := by decide +kernel
theorem dX0_leastPairOf_7 : decode cX0_leastPairOf 7 = .ok (.iload_n 1, 1) := by decide +kernel
theorem dX0_leastPairOf_8 : decode cX0_leastPairOf 8 = .ok (.iload_n 2, 1) := by decide +kernel
theorem dX0_leastPairOf_9 : decode cX0_leastPairOf 9 = .ok (.invokestatic 105, 3) := by decide +kernel
theorem dX0_leastPairOf_12 : decode cX0_leastPairOf 12 = .ok (.invokevirtual 92, 3) := by decide +kernel
theorem dX0_leastPairOf_15 : decode cX0_leastPairOf 15 = .ok (.istore 5, 2) := by decide +kernel
theorem dX0_leastPairOf_17 : decode cX0_leastPairOf 17 = .ok (.iconst 0, 1) := by decide +kernel
theorem dX0_leastPairOf_18 : decode cX0_leastPairOf 18 = .ok (.istore 6, 2) := by decide +kernel
theorem dX0_leastPairOf_20 : decode cX0_leastPairOf 20 = .ok (.iload 6, 2) := by decide +kernel
theorem dX0_leastPairOf_22 : decode cX0_leastPairOf 22 = .ok (.iload 5, 2) := by decide +kernel
theorem dX0_leastPairOf_24 : decode cX0_leastPairOf 24 = .ok (.if_icmp .ge 31, 3) := by decide +kernel
theorem dX0_leastPairOf_27 : decode cX0_leastPairOf 27 = .ok (.iload 4, 2) := by decide +kernel
theorem dX0_leastPairOf_29 : decode cX0_leastPairOf 29 = .ok (.aload_n 0, 1) := by decide +kernel
theorem dX0_leastPairOf_30 : decode cX0_leastPairOf 30 = .ok (.getfield 26, 3) := by decide +kernel
theorem dX0_leastPairOf_33 : decode cX0_leastPairOf 33 = .ok (.iload_n 1, 1) := by decide +kernel
theorem dX0_leastPairOf_34 : decode cX0_leastPairOf 34 = .ok (.iload_n 2, 1) := by decide +kernel
theorem dX0_leastPairOf_35 : decode cX0_leastPairOf 35 = .ok (.iload_n 3, 1) := by decide +kernel
theorem dX0_leastPairOf_36 : decode cX0_leastPairOf 36 = .ok (.iload 6, 2) := by decide +kernel
theorem dX0_leastPairOf_38 : decode cX0_leastPairOf 38 = .ok (.invokestatic 108, 3) := by decide +kernel
theorem dX0_leastPairOf_41 : decode cX0_leastPairOf 41 = .ok (.invokevirtual 86, 3) := by decide +kernel
theorem dX0_leastPairOf_44 : decode cX0_leastPairOf 44 = .ok (.invokestatic 69, 3) := by decide +kernel
theorem dX0_leastPairOf_47 : decode cX0_leastPairOf 47 = .ok (.istore 4, 2) := by decide +kernel
theorem dX0_leastPairOf_49 : decode cX0_leastPairOf 49 = .ok (.iinc 6 1, 3) := by decide +kernel
theorem dX0_leastPairOf_52 : decode cX0_leastPairOf 52 = .ok (.goto (-32), 3) := by decide +kernel
theorem dX0_leastPairOf_55 : decode cX0_leastPairOf 55 = .ok (.iload 4, 2) := by decide +kernel
theorem dX0_leastPairOf_57 : decode cX0_leastPairOf 57 = .ok (.ireturn, 1) := by decide +kernel
theorem dX0_leastOfTable_0 : decode cX0_leastOfTable 0 = .ok (.aload_n 0, 1) := by decide +kernel
theorem dX0_leastOfTable_1 : decode cX0_leastOfTable 1 = .ok (.getfield 29, 3) := by decide +kernel
theorem dX0_leastOfTable_4 : decode cX0_leastOfTable 4 = .ok (.istore_n 2, 1) := by decide +kernel
theorem dX0_leastOfTable_5 : decode cX0_leastOfTable 5 = .ok (.iconst 0, 1) := by decide +kernel
theorem dX0_leastOfTable_6 : decode cX0_leastOfTable 6 = .ok (.istore_n 3, 1) := by decide +kernel
theorem dX0_leastOfTable_7 : decode cX0_leastOfTable 7 = .ok (.iload_n 3, 1) := by decide +kernel
theorem dX0_leastOfTable_8 : decode cX0_leastOfTable 8 = .ok (.aload_n 0, 1) := by decide +kernel
theorem dX0_leastOfTable_9 : decode cX0_leastOfTable 9 = .ok (.iload_n 1, 1) := by decide +kernel
theorem dX0_leastOfTable_10 : decode cX0_leastOfTable 10 = .ok (.iconst 0, 1) := by decide +kernel
theorem dX0_leastOfTable_11 : decode cX0_leastOfTable 11 = .ok (.invokevirtual 92, 3) := by decide +kernel
theorem dX0_leastOfTable_14 : decode cX0_leastOfTable 14 = .ok (.if_icmp .ge 21, 3) := by decide +kernel
theorem dX0_leastOfTable_17 : decode cX0_leastOfTable 17 = .ok (.iload_n 2, 1) := by decide +kernel
theorem dX0_leastOfTable_18 : decode cX0_leastOfTable 18 = .ok (.aload_n 0, 1) := by decide +kernel
theorem dX0_leastOfTable_19 : decode cX0_leastOfTable 19 = .ok (.iload_n 1, 1) := by decide +kernel
theorem dX0_leastOfTable_20 : decode cX0_leastOfTable 20 = .ok (.iconst 0, 1) := by decide +kernel
theorem dX0_leastOfTable_21 : decode cX0_leastOfTable 21 = .ok (.iload_n 3, 1) := by decide +kernel
theorem dX0_leastOfTable_22 : decode cX0_leastOfTable 22 = .ok (.invokevirtual 112, 3) := by decide +kernel
theorem dX0_leastOfTable_25 : decode cX0_leastOfTable 25 = .ok (.invokestatic 69, 3) := by decide +kernel
theorem dX0_leastOfTable_28 : decode cX0_leastOfTable 28 = .ok (.istore_n 2, 1) := by decide +kernel
theorem dX0_leastOfTable_29 : decode cX0_leastOfTable 29 = .ok (.iinc 3 1, 3) := by decide +kernel
theorem dX0_leastOfTable_32 : decode cX0_leastOfTable 32 = .ok (.goto (-25), 3) := by decide +kernel
theorem dX0_leastOfTable_35 : decode cX0_leastOfTable 35 = .ok (.iload_n 2, 1) := by decide +kernel
theorem dX0_leastOfTable_36 : decode cX0_leastOfTable 36 = .ok (.ireturn, 1) := by decide +kernel
theorem dX0_greatestOfTable_0 : decode cX0_greatestOfTable 0 = .ok (.iconst 0, 1) := by decide +kernel
theorem dX0_greatestOfTable_1 : decode cX0_greatestOfTable 1 = .ok (.istore_n 2, 1) := by decide +kernel
theorem dX0_greatestOfTable_2 : decode cX0_greatestOfTable 2 = .ok (.iconst 0, 1) := by decide +kernel
theorem dX0_greatestOfTable_3 : decode cX0_greatestOfTable 3 = .ok (.istore_n 3, 1) := by decide +kernel
theorem dX0_greatestOfTable_4 : decode cX0_greatestOfTable 4 = .ok (.iload_n 3, 1) := by decide +kernel
theorem dX0_greatestOfTable_5 : decode cX0_greatestOfTable 5 = .ok (.aload_n 0, 1) := by decide +kernel
theorem dX0_greatestOfTable_6 : decode cX0_greatestOfTable 6 = .ok (.iload_n 1, 1) := by decide +kernel
theorem dX0_greatestOfTable_7 : decode cX0_greatestOfTable 7 = .ok (.iconst 0, 1) := by decide +kernel
theorem dX0_greatestOfTable_8 : decode cX0_greatestOfTable 8 = .ok (.invokevirtual 92, 3) := by decide +kernel
theorem dX0_greatestOfTable_11 : decode cX0_greatestOfTable 11 = .ok (.if_icmp .ge 42, 3) := by decide +kernel
theorem dX0_greatestOfTable_14 : decode cX0_greatestOfTable 14 = .ok (.iconst 0, 1) := by decide +kernel
theorem dX0_greatestOfTable_15 : decode cX0_greatestOfTable 15 = .ok (.istore 4, 2) := by decide +kernel
theorem dX0_greatestOfTable_17 : decode cX0_greatestOfTable 17 = .ok (.iload 4, 2) := by decide +kernel
theorem dX0_greatestOfTable_19 : decode cX0_greatestOfTable 19 = .ok (.aload_n 0, 1) := by decide +kernel
theorem dX0_greatestOfTable_20 : decode cX0_greatestOfTable 20 = .ok (.iload_n 1, 1) := by decide +kernel
theorem dX0_greatestOfTable_21 : decode cX0_greatestOfTable 21 = .ok (.iconst 1, 1) := by decide +kernel
theorem dX0_greatestOfTable_22 : decode cX0_greatestOfTable 22 = .ok (.invokevirtual 92, 3) := by decide +kernel
theorem dX0_greatestOfTable_25 : decode cX0_greatestOfTable 25 = .ok (.if_icmp .ge 22, 3) := by decide +kernel
theorem dX0_greatestOfTable_28 : decode cX0_greatestOfTable 28 = .ok (.iload_n 2, 1) := by decide +kernel
theorem dX0_greatestOfTable_29 : decode cX0_greatestOfTable 29 = .ok (.aload_n 0, 1) := by decide +kernel
theorem dX0_greatestOfTable_30 : decode cX0_greatestOfTable 30 = .ok (.iload_n 1, 1) := by decide +kernel
theorem dX0_greatestOfTable_31 : decode cX0_greatestOfTable 31 = .ok (.iload_n 3, 1) := by decide +kernel
theorem dX0_greatestOfTable_32 : decode cX0_greatestOfTable 32 = .ok (.iload 4, 2) := by decide +kernel
theorem dX0_greatestOfTable_34 : decode cX0_greatestOfTable 34 = .ok (.invokevirtual 115, 3) := by decide +kernel
theorem dX0_greatestOfTable_37 : decode cX0_greatestOfTable 37 = .ok (.invokestatic 118, 3) := by decide +kernel
theorem dX0_greatestOfTable_40 : decode cX0_greatestOfTable 40 = .ok (.istore_n 2, 1) := by decide +kernel
theorem dX0_greatestOfTable_41 : decode cX0_greatestOfTable 41 = .ok (.iinc 4 1, 3) := by decide +kernel
theorem dX0_greatestOfTable_44 : decode cX0_greatestOfTable 44 = .ok (.goto (-27), 3) := by decide +kernel
theorem dX0_greatestOfTable_47 : decode cX0_greatestOfTable 47 = .ok (.iinc 3 1, 3) := by decide +kernel
theorem dX0_greatestOfTable_50 : decode cX0_greatestOfTable 50 = .ok (.goto (-46), 3) := by decide +kernel
theorem dX0_greatestOfTable_53 : decode cX0_greatestOfTable 53 = .ok (.iload_n 2, 1) := by decide +kernel
theorem dX0_greatestOfTable_54 : decode cX0_greatestOfTable 54 = .ok (.ireturn, 1) := by decide +kernel
theorem dX0_isShut_0 : decode cX0_isShut 0 = .ok (.aload_n 0, 1) := by decide +kernel
theorem dX0_isShut_1 : decode cX0_isShut 1 = .ok (.aload_n 0, 1) := by decide +kernel
theorem dX0_isShut_2 : decode cX0_isShut 2 = .ok (.invokevirtual 121, 3) := by decide +kernel
theorem dX0_isShut_5 : decode cX0_isShut 5 = .ok (.aload_n 0, 1) := by decide +kernel
theorem dX0_isShut_6 : decode cX0_isShut 6 = .ok (.iload_n 1, 1) := by decide +kernel
theorem dX0_isShut_7 : decode cX0_isShut 7 = .ok (.iload_n 2, 1) := by decide +kernel
theorem dX0_isShut_8 : decode cX0_isShut 8 = .ok (.invokevirtual 102, 3) := by decide +kernel
theorem dX0_isShut_11 : decode cX0_isShut 11 = .ok (.invokevirtual 125, 3) := by decide +kernel
theorem dX0_isShut_14 : decode cX0_isShut 14 = .ok (.aload_n 0, 1) := by decide +kernel
theorem dX0_isShut_15 : decode cX0_isShut 15 = .ok (.getfield 29, 3) := by decide +kernel
theorem dX0_isShut_18 : decode cX0_isShut 18 = .ok (.if_icmp .ne 7, 3) := by decide +kernel
theorem dX0_isShut_21 : decode cX0_isShut 21 = .ok (.iconst 1, 1) := by decide +kernel
theorem dX0_isShut_22 : decode cX0_isShut 22 = .ok (.goto 4, 3) := by decide +kernel
theorem dX0_isShut_25 : decode cX0_isShut 25 = .ok (.iconst 0, 1) := by decide +kernel
theorem dX0_isShut_26 : decode cX0_isShut 26 = .ok (.ireturn, 1) := by decide +kernel
theorem dX0_shutOf_0 : decode cX0_shutOf 0 = .ok (.iconst 0, 1) := by decide +kernel
theorem dX0_shutOf_1 : decode cX0_shutOf 1 = .ok (.istore_n 2, 1) := by decide +kernel
theorem dX0_shutOf_2 : decode cX0_shutOf 2 = .ok (.iconst 0, 1) := by decide +kernel
theorem dX0_shutOf_3 : decode cX0_shutOf 3 = .ok (.istore_n 3, 1) := by decide +kernel
theorem dX0_shutOf_4 : decode cX0_shutOf 4 = .ok (.iload_n 3, 1) := by decide +kernel
theorem dX0_shutOf_5 : decode cX0_shutOf 5 = .ok (.aload_n 0, 1) := by decide +kernel
theorem dX0_shutOf_6 : decode cX0_shutOf 6 = .ok (.iload_n 1, 1) := by decide +kernel
theorem dX0_shutOf_7 : decode cX0_shutOf 7 = .ok (.invokevirtual 65, 3) := by decide +kernel
theorem dX0_shutOf_10 : decode cX0_shutOf 10 = .ok (.if_icmp .ge 24, 3) := by decide +kernel
theorem dX0_shutOf_13 : decode cX0_shutOf 13 = .ok (.aload_n 0, 1) := by decide +kernel
theorem dX0_shutOf_14 : decode cX0_shutOf 14 = .ok (.iload_n 1, 1) := by decide +kernel
theorem dX0_shutOf_15 : decode cX0_shutOf 15 = .ok (.iload_n 3, 1) := by decide +kernel
theorem dX0_shutOf_16 : decode cX0_shutOf 16 = .ok (.invokevirtual 128, 3) := by decide +kernel
theorem dX0_shutOf_19 : decode cX0_shutOf 19 = .ok (.ifCond .eq 9, 3) := by decide +kernel
theorem dX0_shutOf_22 : decode cX0_shutOf 22 = .ok (.iload_n 2, 1) := by decide +kernel
theorem dX0_shutOf_23 : decode cX0_shutOf 23 = .ok (.iconst 1, 1) := by decide +kernel
theorem dX0_shutOf_24 : decode cX0_shutOf 24 = .ok (.iload_n 3, 1) := by decide +kernel
theorem dX0_shutOf_25 : decode cX0_shutOf 25 = .ok (.ishl, 1) := by decide +kernel
theorem dX0_shutOf_26 : decode cX0_shutOf 26 = .ok (.ior, 1) := by decide +kernel
theorem dX0_shutOf_27 : decode cX0_shutOf 27 = .ok (.istore_n 2, 1) := by decide +kernel
theorem dX0_shutOf_28 : decode cX0_shutOf 28 = .ok (.iinc 3 1, 3) := by decide +kernel
theorem dX0_shutOf_31 : decode cX0_shutOf 31 = .ok (.goto (-27), 3) := by decide +kernel
theorem dX0_shutOf_34 : decode cX0_shutOf 34 = .ok (.iload_n 2, 1) := by decide +kernel
theorem dX0_shutOf_35 : decode cX0_shutOf 35 = .ok (.ireturn, 1) := by decide +kernel
theorem dX0_shutInAll_0 : decode cX0_shutInAll 0 = .ok (.iconst 0, 1) := by decide +kernel
theorem dX0_shutInAll_1 : decode cX0_shutInAll 1 = .ok (.istore_n 1, 1) := by decide +kernel
theorem dX0_shutInAll_2 : decode cX0_shutInAll 2 = .ok (.iconst 0, 1) := by decide +kernel
theorem dX0_shutInAll_3 : decode cX0_shutInAll 3 = .ok (.istore_n 2, 1) := by decide +kernel
theorem dX0_shutInAll_4 : decode cX0_shutInAll 4 = .ok (.iload_n 2, 1) := by decide +kernel
theorem dX0_shutInAll_5 : decode cX0_shutInAll 5 = .ok (.aload_n 0, 1) := by decide +kernel
theorem dX0_shutInAll_6 : decode cX0_shutInAll 6 = .ok (.getfield 33, 3) := by decide +kernel
theorem dX0_shutInAll_9 : decode cX0_shutInAll 9 = .ok (.if_icmp .ge 20, 3) := by decide +kernel
theorem dX0_shutInAll_12 : decode cX0_shutInAll 12 = .ok (.iload_n 1, 1) := by decide +kernel
theorem dX0_shutInAll_13 : decode cX0_shutInAll 13 = .ok (.aload_n 0, 1) := by decide +kernel
theorem dX0_shutInAll_14 : decode cX0_shutInAll 14 = .ok (.iload_n 2, 1) := by decide +kernel
theorem dX0_shutInAll_15 : decode cX0_shutInAll 15 = .ok (.invokevirtual 131, 3) := by decide +kernel
theorem dX0_shutInAll_18 : decode cX0_shutInAll 18 = .ok (.invokestatic 134, 3) := by decide +kernel
theorem dX0_shutInAll_21 : decode cX0_shutInAll 21 = .ok (.iadd, 1) := by decide +kernel
theorem dX0_shutInAll_22 : decode cX0_shutInAll 22 = .ok (.istore_n 1, 1) := by decide +kernel
theorem dX0_shutInAll_23 : decode cX0_shutInAll 23 = .ok (.iinc 2 1, 3) := by decide +kernel
theorem dX0_shutInAll_26 : decode cX0_shutInAll 26 = .ok (.goto (-22), 3) := by decide +kernel
theorem dX0_shutInAll_29 : decode cX0_shutInAll 29 = .ok (.iload_n 1, 1) := by decide +kernel
theorem dX0_shutInAll_30 : decode cX0_shutInAll 30 = .ok (.ireturn, 1) := by decide +kernel
theorem dX0_sum_0 : decode cX0_sum 0 = .ok (.iload_n 1, 1) := by decide +kernel
theorem dX0_sum_1 : decode cX0_sum 1 = .ok (.iload_n 2, 1) := by decide +kernel
theorem dX0_sum_2 : decode cX0_sum 2 = .ok (.iadd, 1) := by decide +kernel
theorem dX0_sum_3 : decode cX0_sum 3 = .ok (.istore_n 3, 1) := by decide +kernel
theorem dX0_sum_4 : decode cX0_sum 4 = .ok (.iload_n 3, 1) := by decide +kernel
theorem dX0_sum_5 : decode cX0_sum 5 = .ok (.aload_n 0, 1) := by decide +kernel
theorem dX0_sum_6 : decode cX0_sum 6 = .ok (.getfield 29, 3) := by decide +kernel
theorem dX0_sum_9 : decode cX0_sum 9 = .ok (.if_icmp .ge 7, 3) := by decide +kernel
theorem dX0_sum_12 : decode cX0_sum 12 = .ok (.iload_n 3, 1) := by decide +kernel
theorem dX0_sum_13 : decode cX0_sum 13 = .ok (.goto 7, 3) := by decide +kernel
theorem dX0_sum_16 : decode cX0_sum 16 = .ok (.aload_n 0, 1) := by decide +kernel
theorem dX0_sum_17 : decode cX0_sum 17 = .ok (.getfield 29, 3) := by decide +kernel
theorem dX0_sum_20 : decode cX0_sum 20 = .ok (.ireturn, 1) := by decide +kernel
theorem dX0_costBeside_0 : decode cX0_costBeside 0 = .ok (.aload_n 0, 1) := by decide +kernel
theorem dX0_costBeside_1 : decode cX0_costBeside 1 = .ok (.getfield 26, 3) := by decide +kernel
theorem dX0_costBeside_4 : decode cX0_costBeside 4 = .ok (.iload_n 3, 1) := by decide +kernel
theorem dX0_costBeside_5 : decode cX0_costBeside 5 = .ok (.iload 4, 2) := by decide +kernel
theorem dX0_costBeside_7 : decode cX0_costBeside 7 = .ok (.invokestatic 95, 3) := by decide +kernel
theorem dX0_costBeside_10 : decode cX0_costBeside 10 = .ok (.invokevirtual 86, 3) := by decide +kernel
theorem dX0_costBeside_13 : decode cX0_costBeside 13 = .ok (.istore 6, 2) := by decide +kernel
theorem dX0_costBeside_15 : decode cX0_costBeside 15 = .ok (.iconst 0, 1) := by decide +kernel
theorem dX0_costBeside_16 : decode cX0_costBeside 16 = .ok (.istore 7, 2) := by decide +kernel
theorem dX0_costBeside_18 : decode cX0_costBeside 18 = .ok (.iload 7, 2) := by decide +kernel
theorem dX0_costBeside_20 : decode cX0_costBeside 20 = .ok (.aload_n 0, 1) := by decide +kernel
theorem dX0_costBeside_21 : decode cX0_costBeside 21 = .ok (.getfield 36, 3) := by decide +kernel
theorem dX0_costBeside_24 : decode cX0_costBeside 24 = .ok (.if_icmp .ge 74, 3) := by decide +kernel
theorem dX0_costBeside_27 : decode cX0_costBeside 27 = .ok (.aload_n 0, 1) := by decide +kernel
theorem dX0_costBeside_28 : decode cX0_costBeside 28 = .ok (.getfield 20, 3) := by decide +kernel
theorem dX0_costBeside_31 : decode cX0_costBeside 31 = .ok (.iload 7, 2) := by decide +kernel
theorem dX0_costBeside_33 : decode cX0_costBeside 33 = .ok (.invokevirtual 86, 3) := by decide +kernel
theorem dX0_costBeside_36 : decode cX0_costBeside 36 = .ok (.istore 8, 2) := by decide +kernel
theorem dX0_costBeside_38 : decode cX0_costBeside 38 = .ok (.aload_n 0, 1) := by decide +kernel
theorem dX0_costBeside_39 : decode cX0_costBeside 39 = .ok (.getfield 23, 3) := by decide +kernel
theorem dX0_costBeside_42 : decode cX0_costBeside 42 = .ok (.iload 7, 2) := by decide +kernel
theorem dX0_costBeside_44 : decode cX0_costBeside 44 = .ok (.invokevirtual 86, 3) := by decide +kernel
theorem dX0_costBeside_47 : decode cX0_costBeside 47 = .ok (.iload_n 3, 1) := by decide +kernel
theorem dX0_costBeside_48 : decode cX0_costBeside 48 = .ok (.if_icmp .ne 44, 3) := by decide +kernel
theorem dX0_costBeside_51 : decode cX0_costBeside 51 = .ok (.iload 8, 2) := by decide +kernel
theorem dX0_costBeside_53 : decode cX0_costBeside 53 = .ok (.iload_n 2, 1) := by decide +kernel
theorem dX0_costBeside_54 : decode cX0_costBeside 54 = .ok (.if_icmp .ge 38, 3) := by decide +kernel
theorem dX0_costBeside_57 : decode cX0_costBeside 57 = .ok (.iload 7, 2) := by decide +kernel
theorem dX0_costBeside_59 : decode cX0_costBeside 59 = .ok (.iload 5, 2) := by decide +kernel
theorem dX0_costBeside_61 : decode cX0_costBeside 61 = .ok (.if_icmp .eq 31, 3) := by decide +kernel
theorem dX0_costBeside_64 : decode cX0_costBeside 64 = .ok (.aload_n 0, 1) := by decide +kernel
theorem dX0_costBeside_65 : decode cX0_costBeside 65 = .ok (.iload 6, 2) := by decide +kernel
theorem dX0_costBeside_67 : decode cX0_costBeside 67 = .ok (.aload_n 0, 1) := by decide +kernel
theorem dX0_costBeside_68 : decode cX0_costBeside 68 = .ok (.getfield 26, 3) := by decide +kernel
theorem dX0_costBeside_71 : decode cX0_costBeside 71 = .ok (.iload 7, 2) := by decide +kernel
theorem dX0_costBeside_73 : decode cX0_costBeside 73 = .ok (.aload_n 1, 1) := by decide +kernel
theorem dX0_costBeside_74 : decode cX0_costBeside 74 = .ok (.iload 8, 2) := by decide +kernel
theorem dX0_costBeside_76 : decode cX0_costBeside 76 = .ok (.invokevirtual 86, 3) := by decide +kernel
theorem dX0_costBeside_79 : decode cX0_costBeside 79 = .ok (.iload 4, 2) := by decide +kernel
theorem dX0_costBeside_81 : decode cX0_costBeside 81 = .ok (.invokestatic 98, 3) := by decide +kernel
theorem dX0_costBeside_84 : decode cX0_costBeside 84 = .ok (.invokevirtual 86, 3) := by decide +kernel
theorem dX0_costBeside_87 : decode cX0_costBeside 87 = .ok (.invokevirtual 125, 3) := by decide +kernel
theorem dX0_costBeside_90 : decode cX0_costBeside 90 = .ok (.istore 6, 2) := by decide +kernel
theorem dX0_costBeside_92 : decode cX0_costBeside 92 = .ok (.iinc 7 1, 3) := by decide +kernel
theorem dX0_costBeside_95 : decode cX0_costBeside 95 = .ok (.goto (-77), 3) := by decide +kernel
theorem dX0_costBeside_98 : decode cX0_costBeside 98 = .ok (.iload 6, 2) := by decide +kernel
theorem dX0_costBeside_100 : decode cX0_costBeside 100 = .ok (.ireturn, 1) := by decide +kernel
theorem dX0_totalOf_0 : decode cX0_totalOf 0 = .ok (.aload_n 0, 1) := by decide +kernel
theorem dX0_totalOf_1 : decode cX0_totalOf 1 = .ok (.invokevirtual 121, 3) := by decide +kernel
theorem dX0_totalOf_4 : decode cX0_totalOf 4 = .ok (.istore_n 2, 1) := by decide +kernel
theorem dX0_totalOf_5 : decode cX0_totalOf 5 = .ok (.iconst 0, 1) := by decide +kernel
theorem dX0_totalOf_6 : decode cX0_totalOf 6 = .ok (.istore_n 3, 1) := by decide +kernel
theorem dX0_totalOf_7 : decode cX0_totalOf 7 = .ok (.iload_n 3, 1) := by decide +kernel
theorem dX0_totalOf_8 : decode cX0_totalOf 8 = .ok (.aload_n 0, 1) := by decide +kernel
theorem dX0_totalOf_9 : decode cX0_totalOf 9 = .ok (.getfield 33, 3) := by decide +kernel
theorem dX0_totalOf_12 : decode cX0_totalOf 12 = .ok (.if_icmp .ge 28, 3) := by decide +kernel
theorem dX0_totalOf_15 : decode cX0_totalOf 15 = .ok (.aload_n 0, 1) := by decide +kernel
theorem dX0_totalOf_16 : decode cX0_totalOf 16 = .ok (.iload_n 2, 1) := by decide +kernel
theorem dX0_totalOf_17 : decode cX0_totalOf 17 = .ok (.aload_n 0, 1) := by decide +kernel
theorem dX0_totalOf_18 : decode cX0_totalOf 18 = .ok (.aload_n 1, 1) := by decide +kernel
theorem dX0_totalOf_19 : decode cX0_totalOf 19 = .ok (.iload_n 3, 1) := by decide +kernel
theorem dX0_totalOf_20 : decode cX0_totalOf 20 = .ok (.iload_n 3, 1) := by decide +kernel
theorem dX0_totalOf_21 : decode cX0_totalOf 21 = .ok (.aload_n 1, 1) := by decide +kernel
theorem dX0_totalOf_22 : decode cX0_totalOf 22 = .ok (.iload_n 3, 1) := by decide +kernel
theorem dX0_totalOf_23 : decode cX0_totalOf 23 = .ok (.invokevirtual 86, 3) := by decide +kernel
theorem dX0_totalOf_26 : decode cX0_totalOf 26 = .ok (.iconst (-1), 1) := by decide +kernel
theorem dX0_totalOf_27 : decode cX0_totalOf 27 = .ok (.invokevirtual 139, 3) := by decide +kernel
theorem dX0_totalOf_30 : decode cX0_totalOf 30 = .ok (.invokevirtual 125, 3) := by decide +kernel
theorem dX0_totalOf_33 : decode cX0_totalOf 33 = .ok (.istore_n 2, 1) := by decide +kernel
theorem dX0_totalOf_34 : decode cX0_totalOf 34 = .ok (.iinc 3 1, 3) := by decide +kernel
theorem dX0_totalOf_37 : decode cX0_totalOf 37 = .ok (.goto (-30), 3) := by decide +kernel
theorem dX0_totalOf_40 : decode cX0_totalOf 40 = .ok (.iload_n 2, 1) := by decide +kernel
theorem dX0_totalOf_41 : decode cX0_totalOf 41 = .ok (.ireturn, 1) := by decide +kernel
theorem dX0_copyTo_0 : decode cX0_copyTo 0 = .ok (.aload_n 1, 1) := by decide +kernel
theorem dX0_copyTo_1 : decode cX0_copyTo 1 = .ok (.aload_n 0, 1) := by decide +kernel
theorem dX0_copyTo_2 : decode cX0_copyTo 2 = .ok (.getfield 26, 3) := by decide +kernel
theorem dX0_copyTo_5 : decode cX0_copyTo 5 = .ok (.invokevirtual 42, 3) := by decide +kernel
theorem dX0_copyTo_8 : decode cX0_copyTo 8 = .ok (.return_, 1) := by decide +kernel
theorem dX0_copyFrom_0 : decode cX0_copyFrom 0 = .ok (.aload_n 0, 1) := by decide +kernel
theorem dX0_copyFrom_1 : decode cX0_copyFrom 1 = .ok (.getfield 26, 3) := by decide +kernel
theorem dX0_copyFrom_4 : decode cX0_copyFrom 4 = .ok (.aload_n 1, 1) := by decide +kernel
theorem dX0_copyFrom_5 : decode cX0_copyFrom 5 = .ok (.invokevirtual 42, 3) := by decide +kernel
theorem dX0_copyFrom_8 : decode cX0_copyFrom 8 = .ok (.return_, 1) := by decide +kernel
theorem dX0_areAs_0 : decode cX0_areAs 0 = .ok (.aload_n 0, 1) := by decide +kernel
theorem dX0_areAs_1 : decode cX0_areAs 1 = .ok (.getfield 26, 3) := by decide +kernel
theorem dX0_areAs_4 : decode cX0_areAs 4 = .ok (.aload_n 1, 1) := by decide +kernel
theorem dX0_areAs_5 : decode cX0_areAs 5 = .ok (.invokevirtual 143, 3) := by decide +kernel
theorem dX0_areAs_8 : decode cX0_areAs 8 = .ok (.ireturn, 1) := by decide +kernel
theorem dX0_setSingle_0 : decode cX0_setSingle 0 = .ok (.aload_n 0, 1) := by decide +kernel
theorem dX0_setSingle_1 : decode cX0_setSingle 1 = .ok (.getfield 26, 3) := by decide +kernel
theorem dX0_setSingle_4 : decode cX0_setSingle 4 = .ok (.iload_n 1, 1) := by decide +kernel
theorem dX0_setSingle_5 : decode cX0_setSingle 5 = .ok (.iload_n 2, 1) := by decide +kernel
theorem dX0_setSingle_6 : decode cX0_setSingle 6 = .ok (.invokestatic 95, 3) := by decide +kernel
theorem dX0_setSingle_9 : decode cX0_setSingle 9 = .ok (.iload_n 3, 1) := by decide +kernel
theorem dX0_setSingle_10 : decode cX0_setSingle 10 = .ok (.invokevirtual 46, 3) := by decide +kernel
theorem dX0_setSingle_13 : decode cX0_setSingle 13 = .ok (.return_, 1) := by decide +kernel
theorem dX0_setPair_0 : decode cX0_setPair 0 = .ok (.aload_n 0, 1) := by decide +kernel
theorem dX0_setPair_1 : decode cX0_setPair 1 = .ok (.getfield 26, 3) := by decide +kernel
theorem dX0_setPair_4 : decode cX0_setPair 4 = .ok (.iload_n 1, 1) := by decide +kernel
theorem dX0_setPair_5 : decode cX0_setPair 5 = .ok (.iload_n 2, 1) := by decide +kernel
theorem dX0_setPair_6 : decode cX0_setPair 6 = .ok (.iload_n 3, 1) := by decide +kernel
theorem dX0_setPair_7 : decode cX0_setPair 7 = .ok (.invokestatic 98, 3) := by decide +kernel
theorem dX0_setPair_10 : decode cX0_setPair 10 = .ok (.iload 4, 2) := by decide +kernel
theorem dX0_setPair_12 : decode cX0_setPair 12 = .ok (.invokevirtual 46, 3) := by decide +kernel
theorem dX0_setPair_15 : decode cX0_setPair 15 = .ok (.return_, 1) := by decide +kernel
theorem dX0_lessen_0 : decode cX0_lessen 0 = .ok (.aload_n 0, 1) := by decide +kernel
theorem dX0_lessen_1 : decode cX0_lessen 1 = .ok (.getfield 26, 3) := by decide +kernel
theorem dX0_lessen_4 : decode cX0_lessen 4 = .ok (.iload_n 1, 1) := by decide +kernel
theorem dX0_lessen_5 : decode cX0_lessen 5 = .ok (.invokevirtual 86, 3) := by decide +kernel
theorem dX0_lessen_8 : decode cX0_lessen 8 = .ok (.istore_n 3, 1) := by decide +kernel
theorem dX0_lessen_9 : decode cX0_lessen 9 = .ok (.aload_n 0, 1) := by decide +kernel
theorem dX0_lessen_10 : decode cX0_lessen 10 = .ok (.getfield 26, 3) := by decide +kernel
theorem dX0_lessen_13 : decode cX0_lessen 13 = .ok (.iload_n 1, 1) := by decide +kernel
theorem dX0_lessen_14 : decode cX0_lessen 14 = .ok (.iload_n 3, 1) := by decide +kernel
theorem dX0_lessen_15 : decode cX0_lessen 15 = .ok (.aload_n 0, 1) := by decide +kernel
theorem dX0_lessen_16 : decode cX0_lessen 16 = .ok (.getfield 29, 3) := by decide +kernel
theorem dX0_lessen_19 : decode cX0_lessen 19 = .ok (.if_icmp .ne 7, 3) := by decide +kernel
theorem dX0_lessen_22 : decode cX0_lessen 22 = .ok (.iload_n 3, 1) := by decide +kernel
theorem dX0_lessen_23 : decode cX0_lessen 23 = .ok (.goto 6, 3) := by decide +kernel
theorem dX0_lessen_26 : decode cX0_lessen 26 = .ok (.iload_n 3, 1) := by decide +kernel
theorem dX0_lessen_27 : decode cX0_lessen 27 = .ok (.iload_n 2, 1) := by decide +kernel
theorem dX0_lessen_28 : decode cX0_lessen 28 = .ok (.isub, 1) := by decide +kernel
theorem dX0_lessen_29 : decode cX0_lessen 29 = .ok (.invokevirtual 46, 3) := by decide +kernel
theorem dX0_lessen_32 : decode cX0_lessen 32 = .ok (.return_, 1) := by decide +kernel
theorem dX0_enlarge_0 : decode cX0_enlarge 0 = .ok (.aload_n 0, 1) := by decide +kernel
theorem dX0_enlarge_1 : decode cX0_enlarge 1 = .ok (.getfield 26, 3) := by decide +kernel
theorem dX0_enlarge_4 : decode cX0_enlarge 4 = .ok (.iload_n 1, 1) := by decide +kernel
theorem dX0_enlarge_5 : decode cX0_enlarge 5 = .ok (.aload_n 0, 1) := by decide +kernel
theorem dX0_enlarge_6 : decode cX0_enlarge 6 = .ok (.aload_n 0, 1) := by decide +kernel
theorem dX0_enlarge_7 : decode cX0_enlarge 7 = .ok (.getfield 26, 3) := by decide +kernel
theorem dX0_enlarge_10 : decode cX0_enlarge 10 = .ok (.iload_n 1, 1) := by decide +kernel
theorem dX0_enlarge_11 : decode cX0_enlarge 11 = .ok (.invokevirtual 86, 3) := by decide +kernel
theorem dX0_enlarge_14 : decode cX0_enlarge 14 = .ok (.iload_n 2, 1) := by decide +kernel
theorem dX0_enlarge_15 : decode cX0_enlarge 15 = .ok (.invokevirtual 125, 3) := by decide +kernel
theorem dX0_enlarge_18 : decode cX0_enlarge 18 = .ok (.invokevirtual 46, 3) := by decide +kernel
theorem dX0_enlarge_21 : decode cX0_enlarge 21 = .ok (.return_, 1) := by decide +kernel
theorem dX0_growSingle_0 : decode cX0_growSingle 0 = .ok (.aload_n 0, 1) := by decide +kernel
theorem dX0_growSingle_1 : decode cX0_growSingle 1 = .ok (.iload_n 1, 1) := by decide +kernel
theorem dX0_growSingle_2 : decode cX0_growSingle 2 = .ok (.iload_n 2, 1) := by decide +kernel
theorem dX0_growSingle_3 : decode cX0_growSingle 3 = .ok (.invokestatic 95, 3) := by decide +kernel
theorem dX0_growSingle_6 : decode cX0_growSingle 6 = .ok (.iload_n 3, 1) := by decide +kernel
theorem dX0_growSingle_7 : decode cX0_growSingle 7 = .ok (.invokevirtual 147, 3) := by decide +kernel
theorem dX0_growSingle_10 : decode cX0_growSingle 10 = .ok (.return_, 1) := by decide +kernel
theorem dX0_moveToValue_0 : decode cX0_moveToValue 0 = .ok (.aload_n 0, 1) := by decide +kernel
theorem dX0_moveToValue_1 : decode cX0_moveToValue 1 = .ok (.iload_n 1, 1) := by decide +kernel
theorem dX0_moveToValue_2 : decode cX0_moveToValue 2 = .ok (.iload_n 2, 1) := by decide +kernel
theorem dX0_moveToValue_3 : decode cX0_moveToValue 3 = .ok (.invokestatic 105, 3) := by decide +kernel
theorem dX0_moveToValue_6 : decode cX0_moveToValue 6 = .ok (.invokevirtual 92, 3) := by decide +kernel
theorem dX0_moveToValue_9 : decode cX0_moveToValue 9 = .ok (.istore 5, 2) := by decide +kernel
theorem dX0_moveToValue_11 : decode cX0_moveToValue 11 = .ok (.iconst 0, 1) := by decide +kernel
theorem dX0_moveToValue_12 : decode cX0_moveToValue 12 = .ok (.istore 6, 2) := by decide +kernel
theorem dX0_moveToValue_14 : decode cX0_moveToValue 14 = .ok (.iload 6, 2) := by decide +kernel
theorem dX0_moveToValue_16 : decode cX0_moveToValue 16 = .ok (.iload 5, 2) := by decide +kernel
theorem dX0_moveToValue_18 : decode cX0_moveToValue 18 = .ok (.if_icmp .ge 23, 3) := by decide +kernel
theorem dX0_moveToValue_21 : decode cX0_moveToValue 21 = .ok (.aload_n 0, 1) := by decide +kernel
theorem dX0_moveToValue_22 : decode cX0_moveToValue 22 = .ok (.iload_n 1, 1) := by decide +kernel
theorem dX0_moveToValue_23 : decode cX0_moveToValue 23 = .ok (.iload_n 2, 1) := by decide +kernel
theorem dX0_moveToValue_24 : decode cX0_moveToValue 24 = .ok (.iload_n 3, 1) := by decide +kernel
theorem dX0_moveToValue_25 : decode cX0_moveToValue 25 = .ok (.iload 6, 2) := by decide +kernel
theorem dX0_moveToValue_27 : decode cX0_moveToValue 27 = .ok (.invokestatic 108, 3) := by decide +kernel
theorem dX0_moveToValue_30 : decode cX0_moveToValue 30 = .ok (.iload 4, 2) := by decide +kernel
theorem dX0_moveToValue_32 : decode cX0_moveToValue 32 = .ok (.invokevirtual 150, 3) := by decide +kernel
theorem dX0_moveToValue_35 : decode cX0_moveToValue 35 = .ok (.iinc 6 1, 3) := by decide +kernel
theorem dX0_moveToValue_38 : decode cX0_moveToValue 38 = .ok (.goto (-24), 3) := by decide +kernel
theorem dX0_moveToValue_41 : decode cX0_moveToValue 41 = .ok (.aload_n 0, 1) := by decide +kernel
theorem dX0_moveToValue_42 : decode cX0_moveToValue 42 = .ok (.aload_n 0, 1) := by decide +kernel
theorem dX0_moveToValue_43 : decode cX0_moveToValue 43 = .ok (.iload_n 1, 1) := by decide +kernel
theorem dX0_moveToValue_44 : decode cX0_moveToValue 44 = .ok (.iload_n 2, 1) := by decide +kernel
theorem dX0_moveToValue_45 : decode cX0_moveToValue 45 = .ok (.invokevirtual 79, 3) := by decide +kernel
theorem dX0_moveToValue_48 : decode cX0_moveToValue 48 = .ok (.iload_n 3, 1) := by decide +kernel
theorem dX0_moveToValue_49 : decode cX0_moveToValue 49 = .ok (.invokestatic 95, 3) := by decide +kernel
theorem dX0_moveToValue_52 : decode cX0_moveToValue 52 = .ok (.iload 4, 2) := by decide +kernel
theorem dX0_moveToValue_54 : decode cX0_moveToValue 54 = .ok (.invokevirtual 147, 3) := by decide +kernel
theorem dX0_moveToValue_57 : decode cX0_moveToValue 57 = .ok (.return_, 1) := by decide +kernel
theorem dX0_moveToTable_0 : decode cX0_moveToTable 0 = .ok (.aload_n 0, 1) := by decide +kernel
theorem dX0_moveToTable_1 : decode cX0_moveToTable 1 = .ok (.aload_n 0, 1) := by decide +kernel
theorem dX0_moveToTable_2 : decode cX0_moveToTable 2 = .ok (.iload_n 1, 1) := by decide +kernel
theorem dX0_moveToTable_3 : decode cX0_moveToTable 3 = .ok (.iload_n 2, 1) := by decide +kernel
theorem dX0_moveToTable_4 : decode cX0_moveToTable 4 = .ok (.invokevirtual 79, 3) := by decide +kernel
theorem dX0_moveToTable_7 : decode cX0_moveToTable 7 = .ok (.iload_n 3, 1) := by decide +kernel
theorem dX0_moveToTable_8 : decode cX0_moveToTable 8 = .ok (.invokestatic 95, 3) := by decide +kernel
theorem dX0_moveToTable_11 : decode cX0_moveToTable 11 = .ok (.iload 4, 2) := by decide +kernel
theorem dX0_moveToTable_13 : decode cX0_moveToTable 13 = .ok (.invokevirtual 150, 3) := by decide +kernel
theorem dX0_moveToTable_16 : decode cX0_moveToTable 16 = .ok (.aload_n 0, 1) := by decide +kernel
theorem dX0_moveToTable_17 : decode cX0_moveToTable 17 = .ok (.iload_n 1, 1) := by decide +kernel
theorem dX0_moveToTable_18 : decode cX0_moveToTable 18 = .ok (.iload_n 2, 1) := by decide +kernel
theorem dX0_moveToTable_19 : decode cX0_moveToTable 19 = .ok (.invokestatic 105, 3) := by decide +kernel
theorem dX0_moveToTable_22 : decode cX0_moveToTable 22 = .ok (.invokevirtual 92, 3) := by decide +kernel
theorem dX0_moveToTable_25 : decode cX0_moveToTable 25 = .ok (.istore 5, 2) := by decide +kernel
theorem dX0_moveToTable_27 : decode cX0_moveToTable 27 = .ok (.iconst 0, 1) := by decide +kernel
theorem dX0_moveToTable_28 : decode cX0_moveToTable 28 = .ok (.istore 6, 2) := by decide +kernel
theorem dX0_moveToTable_30 : decode cX0_moveToTable 30 = .ok (.iload 6, 2) := by decide +kernel
theorem dX0_moveToTable_32 : decode cX0_moveToTable 32 = .ok (.iload 5, 2) := by decide +kernel
theorem dX0_moveToTable_34 : decode cX0_moveToTable 34 = .ok (.if_icmp .ge 23, 3) := by decide +kernel
theorem dX0_moveToTable_37 : decode cX0_moveToTable 37 = .ok (.aload_n 0, 1) := by decide +kernel
theorem dX0_moveToTable_38 : decode cX0_moveToTable 38 = .ok (.iload_n 1, 1) := by decide +kernel
theorem dX0_moveToTable_39 : decode cX0_moveToTable 39 = .ok (.iload_n 2, 1) := by decide +kernel
theorem dX0_moveToTable_40 : decode cX0_moveToTable 40 = .ok (.iload_n 3, 1) := by decide +kernel
theorem dX0_moveToTable_41 : decode cX0_moveToTable 41 = .ok (.iload 6, 2) := by decide +kernel
theorem dX0_moveToTable_43 : decode cX0_moveToTable 43 = .ok (.invokestatic 108, 3) := by decide +kernel
theorem dX0_moveToTable_46 : decode cX0_moveToTable 46 = .ok (.iload 4, 2) := by decide +kernel
theorem dX0_moveToTable_48 : decode cX0_moveToTable 48 = .ok (.invokevirtual 147, 3) := by decide +kernel
theorem dX0_moveToTable_51 : decode cX0_moveToTable 51 = .ok (.iinc 6 1, 3) := by decide +kernel
theorem dX0_moveToTable_54 : decode cX0_moveToTable 54 = .ok (.goto (-24), 3) := by decide +kernel
theorem dX0_moveToTable_57 : decode cX0_moveToTable 57 = .ok (.return_, 1) := by decide +kernel
theorem dX0_moveToConstant_0 : decode cX0_moveToConstant 0 = .ok (.iconst 0, 1) := by decide +kernel
theorem dX0_moveToConstant_1 : decode cX0_moveToConstant 1 = .ok (.istore_n 3, 1) := by decide +kernel
theorem dX0_moveToConstant_2 : decode cX0_moveToConstant 2 = .ok (.iload_n 3, 1) := by decide +kernel
theorem dX0_moveToConstant_3 : decode cX0_moveToConstant 3 = .ok (.aload_n 0, 1) := by decide +kernel
theorem dX0_moveToConstant_4 : decode cX0_moveToConstant 4 = .ok (.iload_n 1, 1) := by decide +kernel
theorem dX0_moveToConstant_5 : decode cX0_moveToConstant 5 = .ok (.invokevirtual 65, 3) := by decide +kernel
theorem dX0_moveToConstant_8 : decode cX0_moveToConstant 8 = .ok (.if_icmp .ge 19, 3) := by decide +kernel
theorem dX0_moveToConstant_11 : decode cX0_moveToConstant 11 = .ok (.aload_n 0, 1) := by decide +kernel
theorem dX0_moveToConstant_12 : decode cX0_moveToConstant 12 = .ok (.iload_n 1, 1) := by decide +kernel
theorem dX0_moveToConstant_13 : decode cX0_moveToConstant 13 = .ok (.iload_n 3, 1) := by decide +kernel
theorem dX0_moveToConstant_14 : decode cX0_moveToConstant 14 = .ok (.invokestatic 95, 3) := by decide +kernel
theorem dX0_moveToConstant_17 : decode cX0_moveToConstant 17 = .ok (.iload_n 2, 1) := by decide +kernel
theorem dX0_moveToConstant_18 : decode cX0_moveToConstant 18 = .ok (.invokevirtual 150, 3) := by decide +kernel
theorem dX0_moveToConstant_21 : decode cX0_moveToConstant 21 = .ok (.iinc 3 1, 3) := by decide +kernel
theorem dX0_moveToConstant_24 : decode cX0_moveToConstant 24 = .ok (.goto (-22), 3) := by decide +kernel
theorem dX0_moveToConstant_27 : decode cX0_moveToConstant 27 = .ok (.aload_n 0, 1) := by decide +kernel
theorem dX0_moveToConstant_28 : decode cX0_moveToConstant 28 = .ok (.iconst 0, 1) := by decide +kernel
theorem dX0_moveToConstant_29 : decode cX0_moveToConstant 29 = .ok (.iload_n 2, 1) := by decide +kernel
theorem dX0_moveToConstant_30 : decode cX0_moveToConstant 30 = .ok (.invokevirtual 147, 3) := by decide +kernel
theorem dX0_moveToConstant_33 : decode cX0_moveToConstant 33 = .ok (.return_, 1) := by decide +kernel
theorem dX0_topShutSingles_0 : decode cX0_topShutSingles 0 = .ok (.iconst 0, 1) := by decide +kernel
theorem dX0_topShutSingles_1 : decode cX0_topShutSingles 1 = .ok (.istore_n 2, 1) := by decide +kernel
theorem dX0_topShutSingles_2 : decode cX0_topShutSingles 2 = .ok (.iload_n 2, 1) := by decide +kernel
theorem dX0_topShutSingles_3 : decode cX0_topShutSingles 3 = .ok (.aload_n 0, 1) := by decide +kernel
theorem dX0_topShutSingles_4 : decode cX0_topShutSingles 4 = .ok (.iload_n 1, 1) := by decide +kernel
theorem dX0_topShutSingles_5 : decode cX0_topShutSingles 5 = .ok (.invokevirtual 65, 3) := by decide +kernel
theorem dX0_topShutSingles_8 : decode cX0_topShutSingles 8 = .ok (.if_icmp .ge 28, 3) := by decide +kernel
theorem dX0_topShutSingles_11 : decode cX0_topShutSingles 11 = .ok (.aload_n 0, 1) := by decide +kernel
theorem dX0_topShutSingles_12 : decode cX0_topShutSingles 12 = .ok (.iload_n 1, 1) := by decide +kernel
theorem dX0_topShutSingles_13 : decode cX0_topShutSingles 13 = .ok (.iload_n 2, 1) := by decide +kernel
theorem dX0_topShutSingles_14 : decode cX0_topShutSingles 14 = .ok (.invokevirtual 128, 3) := by decide +kernel
theorem dX0_topShutSingles_17 : decode cX0_topShutSingles 17 = .ok (.ifCond .eq 13, 3) := by decide +kernel
theorem dX0_topShutSingles_20 : decode cX0_topShutSingles 20 = .ok (.aload_n 0, 1) := by decide +kernel
theorem dX0_topShutSingles_21 : decode cX0_topShutSingles 21 = .ok (.iload_n 1, 1) := by decide +kernel
theorem dX0_topShutSingles_22 : decode cX0_topShutSingles 22 = .ok (.iload_n 2, 1) := by decide +kernel
theorem dX0_topShutSingles_23 : decode cX0_topShutSingles 23 = .ok (.aload_n 0, 1) := by decide +kernel
theorem dX0_topShutSingles_24 : decode cX0_topShutSingles 24 = .ok (.getfield 29, 3) := by decide +kernel
theorem dX0_topShutSingles_27 : decode cX0_topShutSingles 27 = .ok (.invokevirtual 54, 3) := by decide +kernel
theorem dX0_topShutSingles_30 : decode cX0_topShutSingles 30 = .ok (.iinc 2 1, 3) := by decide +kernel
theorem dX0_topShutSingles_33 : decode cX0_topShutSingles 33 = .ok (.goto (-31), 3) := by decide +kernel
theorem dX0_topShutSingles_36 : decode cX0_topShutSingles 36 = .ok (.return_, 1) := by decide +kernel
theorem dX0_topPairsOfTopSingles_0 : decode cX0_topPairsOfTopSingles 0 = .ok (.aload_n 0, 1) := by decide +kernel
theorem dX0_topPairsOfTopSingles_1 : decode cX0_topPairsOfTopSingles 1 = .ok (.iload_n 1, 1) := by decide +kernel
theorem dX0_topPairsOfTopSingles_2 : decode cX0_topPairsOfTopSingles 2 = .ok (.iconst 0, 1) := by decide +kernel
theorem dX0_topPairsOfTopSingles_3 : decode cX0_topPairsOfTopSingles 3 = .ok (.invokevirtual 79, 3) := by decide +kernel
theorem dX0_topPairsOfTopSingles_6 : decode cX0_topPairsOfTopSingles 6 = .ok (.istore_n 2, 1) := by decide +kernel
theorem dX0_topPairsOfTopSingles_7 : decode cX0_topPairsOfTopSingles 7 = .ok (.aload_n 0, 1) := by decide +kernel
theorem dX0_topPairsOfTopSingles_8 : decode cX0_topPairsOfTopSingles 8 = .ok (.iload_n 1, 1) := by decide +kernel
theorem dX0_topPairsOfTopSingles_9 : decode cX0_topPairsOfTopSingles 9 = .ok (.iconst 1, 1) := by decide +kernel
theorem dX0_topPairsOfTopSingles_10 : decode cX0_topPairsOfTopSingles 10 = .ok (.invokevirtual 79, 3) := by decide +kernel
theorem dX0_topPairsOfTopSingles_13 : decode cX0_topPairsOfTopSingles 13 = .ok (.istore_n 3, 1) := by decide +kernel
theorem dX0_topPairsOfTopSingles_14 : decode cX0_topPairsOfTopSingles 14 = .ok (.iconst 0, 1) := by decide +kernel
theorem dX0_topPairsOfTopSingles_15 : decode cX0_topPairsOfTopSingles 15 = .ok (.istore 4, 2) := by decide +kernel
theorem dX0_topPairsOfTopSingles_17 : decode cX0_topPairsOfTopSingles 17 = .ok (.iload 4, 2) := by decide +kernel
theorem dX0_topPairsOfTopSingles_19 : decode cX0_topPairsOfTopSingles 19 = .ok (.aload_n 0, 1) := by decide +kernel
theorem dX0_topPairsOfTopSingles_20 : decode cX0_topPairsOfTopSingles 20 = .ok (.iload_n 2, 1) := by decide +kernel
theorem dX0_topPairsOfTopSingles_21 : decode cX0_topPairsOfTopSingles 21 = .ok (.invokevirtual 65, 3) := by decide +kernel
theorem dX0_topPairsOfTopSingles_24 : decode cX0_topPairsOfTopSingles 24 = .ok (.if_icmp .ge 69, 3) := by decide +kernel
theorem dX0_topPairsOfTopSingles_27 : decode cX0_topPairsOfTopSingles 27 = .ok (.iconst 0, 1) := by decide +kernel
theorem dX0_topPairsOfTopSingles_28 : decode cX0_topPairsOfTopSingles 28 = .ok (.istore 5, 2) := by decide +kernel
theorem dX0_topPairsOfTopSingles_30 : decode cX0_topPairsOfTopSingles 30 = .ok (.iload 5, 2) := by decide +kernel
theorem dX0_topPairsOfTopSingles_32 : decode cX0_topPairsOfTopSingles 32 = .ok (.aload_n 0, 1) := by decide +kernel
theorem dX0_topPairsOfTopSingles_33 : decode cX0_topPairsOfTopSingles 33 = .ok (.iload_n 3, 1) := by decide +kernel
theorem dX0_topPairsOfTopSingles_34 : decode cX0_topPairsOfTopSingles 34 = .ok (.invokevirtual 65, 3) := by decide +kernel
theorem dX0_topPairsOfTopSingles_37 : decode cX0_topPairsOfTopSingles 37 = .ok (.if_icmp .ge 50, 3) := by decide +kernel
theorem dX0_topPairsOfTopSingles_40 : decode cX0_topPairsOfTopSingles 40 = .ok (.aload_n 0, 1) := by decide +kernel
theorem dX0_topPairsOfTopSingles_41 : decode cX0_topPairsOfTopSingles 41 = .ok (.iload_n 2, 1) := by decide +kernel
theorem dX0_topPairsOfTopSingles_42 : decode cX0_topPairsOfTopSingles 42 = .ok (.iload 4, 2) := by decide +kernel
theorem dX0_topPairsOfTopSingles_44 : decode cX0_topPairsOfTopSingles 44 = .ok (.invokevirtual 102, 3) := by decide +kernel
theorem dX0_topPairsOfTopSingles_47 : decode cX0_topPairsOfTopSingles 47 = .ok (.aload_n 0, 1) := by decide +kernel
theorem dX0_topPairsOfTopSingles_48 : decode cX0_topPairsOfTopSingles 48 = .ok (.getfield 29, 3) := by decide +kernel
theorem dX0_topPairsOfTopSingles_51 : decode cX0_topPairsOfTopSingles 51 = .ok (.if_icmp .eq 17, 3) := by decide +kernel
theorem dX0_topPairsOfTopSingles_54 : decode cX0_topPairsOfTopSingles 54 = .ok (.aload_n 0, 1) := by decide +kernel
theorem dX0_topPairsOfTopSingles_55 : decode cX0_topPairsOfTopSingles 55 = .ok (.iload_n 3, 1) := by decide +kernel
theorem dX0_topPairsOfTopSingles_56 : decode cX0_topPairsOfTopSingles 56 = .ok (.iload 5, 2) := by decide +kernel
theorem dX0_topPairsOfTopSingles_58 : decode cX0_topPairsOfTopSingles 58 = .ok (.invokevirtual 102, 3) := by decide +kernel
theorem dX0_topPairsOfTopSingles_61 : decode cX0_topPairsOfTopSingles 61 = .ok (.aload_n 0, 1) := by decide +kernel
theorem dX0_topPairsOfTopSingles_62 : decode cX0_topPairsOfTopSingles 62 = .ok (.getfield 29, 3) := by decide +kernel
theorem dX0_topPairsOfTopSingles_65 : decode cX0_topPairsOfTopSingles 65 = .ok (.if_icmp .ne 16, 3) := by decide +kernel
theorem dX0_topPairsOfTopSingles_68 : decode cX0_topPairsOfTopSingles 68 = .ok (.aload_n 0, 1) := by decide +kernel
theorem dX0_topPairsOfTopSingles_69 : decode cX0_topPairsOfTopSingles 69 = .ok (.iload_n 1, 1) := by decide +kernel
theorem dX0_topPairsOfTopSingles_70 : decode cX0_topPairsOfTopSingles 70 = .ok (.iload 4, 2) := by decide +kernel
theorem dX0_topPairsOfTopSingles_72 : decode cX0_topPairsOfTopSingles 72 = .ok (.iload 5, 2) := by decide +kernel
theorem dX0_topPairsOfTopSingles_74 : decode cX0_topPairsOfTopSingles 74 = .ok (.aload_n 0, 1) := by decide +kernel
theorem dX0_topPairsOfTopSingles_75 : decode cX0_topPairsOfTopSingles 75 = .ok (.getfield 29, 3) := by decide +kernel
theorem dX0_topPairsOfTopSingles_78 : decode cX0_topPairsOfTopSingles 78 = .ok (.invokevirtual 75, 3) := by decide +kernel
theorem dX0_topPairsOfTopSingles_81 : decode cX0_topPairsOfTopSingles 81 = .ok (.iinc 5 1, 3) := by decide +kernel
theorem dX0_topPairsOfTopSingles_84 : decode cX0_topPairsOfTopSingles 84 = .ok (.goto (-54), 3) := by decide +kernel
theorem dX0_topPairsOfTopSingles_87 : decode cX0_topPairsOfTopSingles 87 = .ok (.iinc 4 1, 3) := by decide +kernel
theorem dX0_topPairsOfTopSingles_90 : decode cX0_topPairsOfTopSingles 90 = .ok (.goto (-73), 3) := by decide +kernel
theorem dX0_topPairsOfTopSingles_93 : decode cX0_topPairsOfTopSingles 93 = .ok (.return_, 1) := by decide +kernel
theorem dX1_init_0 : decode cX1_init 0 = .ok (.aload_n 0, 1) := by decide +kernel
theorem dX1_init_1 : decode cX1_init 1 = .ok (.invokespecial 3, 3) := by decide +kernel
theorem dX1_init_4 : decode cX1_init 4 = .ok (.aload_n 0, 1) := by decide +kernel
theorem dX1_init_5 : decode cX1_init 5 = .ok (.bipush 6, 2) := by decide +kernel
theorem dX1_init_7 : decode cX1_init 7 = .ok (.anewarray 9, 3) := by decide +kernel
theorem dX1_init_10 : decode cX1_init 10 = .ok (.putfield 11, 3) := by decide +kernel
theorem dX1_init_13 : decode cX1_init 13 = .ok (.iconst 0, 1) := by decide +kernel
theorem dX1_init_14 : decode cX1_init 14 = .ok (.istore_n 1, 1) := by decide +kernel
theorem dX1_init_15 : decode cX1_init 15 = .ok (.iload_n 1, 1) := by decide +kernel
theorem dX1_init_16 : decode cX1_init 16 = .ok (.aload_n 0, 1) := by decide +kernel
theorem dX1_init_17 : decode cX1_init 17 = .ok (.getfield 11, 3) := by decide +kernel
theorem dX1_init_20 : decode cX1_init 20 = .ok (.arraylength, 1) := by decide +kernel
theorem dX1_init_21 : decode cX1_init 21 = .ok (.if_icmp .ge 25, 3) := by decide +kernel
theorem dX1_init_24 : decode cX1_init 24 = .ok (.aload_n 0, 1) := by decide +kernel
theorem dX1_init_25 : decode cX1_init 25 = .ok (.getfield 11, 3) := by decide +kernel
theorem dX1_init_28 : decode cX1_init 28 = .ok (.iload_n 1, 1) := by decide +kernel
theorem dX1_init_29 : decode cX1_init 29 = .ok (.new 9, 3) := by decide +kernel
theorem dX1_init_32 : decode cX1_init 32 = .ok (.dup, 1) := by decide +kernel
theorem dX1_init_33 : decode cX1_init 33 = .ok (.sipush 169, 3) := by decide +kernel
theorem dX1_init_36 : decode cX1_init 36 = .ok (.invokespecial 17, 3) := by decide +kernel
theorem dX1_init_39 : decode cX1_init 39 = .ok (.aastore, 1) := by decide +kernel
theorem dX1_init_40 : decode cX1_init 40 = .ok (.iinc 1 1, 3) := by decide +kernel
theorem dX1_init_43 : decode cX1_init 43 = .ok (.goto (-28), 3) := by decide +kernel
theorem dX1_init_46 : decode cX1_init 46 = .ok (.return_, 1) := by decide +kernel
theorem dX1_size_0 : decode cX1_size 0 = .ok (.aload_n 0, 1) := by decide +kernel
theorem dX1_size_1 : decode cX1_size 1 = .ok (.getfield 20, 3) := by decide +kernel
theorem dX1_size_4 : decode cX1_size 4 = .ok (.ireturn, 1) := by decide +kernel
theorem dX1_clear_0 : decode cX1_clear 0 = .ok (.aload_n 0, 1) := by decide +kernel
theorem dX1_clear_1 : decode cX1_clear 1 = .ok (.iconst 0, 1) := by decide +kernel
theorem dX1_clear_2 : decode cX1_clear 2 = .ok (.putfield 20, 3) := by decide +kernel
theorem dX1_clear_5 : decode cX1_clear 5 = .ok (.return_, 1) := by decide +kernel
theorem dX1_keep_0 : decode cX1_keep 0 = .ok (.aload_n 0, 1) := by decide +kernel
theorem dX1_keep_1 : decode cX1_keep 1 = .ok (.getfield 24, 3) := by decide +kernel
theorem dX1_keep_4 : decode cX1_keep 4 = .ok (.ifCond .lt 27, 3) := by decide +kernel
theorem dX1_keep_7 : decode cX1_keep 7 = .ok (.aload_n 0, 1) := by decide +kernel
theorem dX1_keep_8 : decode cX1_keep 8 = .ok (.getfield 24, 3) := by decide +kernel
theorem dX1_keep_11 : decode cX1_keep 11 = .ok (.aload_n 0, 1) := by decide +kernel
theorem dX1_keep_12 : decode cX1_keep 12 = .ok (.getfield 11, 3) := by decide +kernel
theorem dX1_keep_15 : decode cX1_keep 15 = .ok (.arraylength, 1) := by decide +kernel
theorem dX1_keep_16 : decode cX1_keep 16 = .ok (.if_icmp .ge 15, 3) := by decide +kernel
theorem dX1_keep_19 : decode cX1_keep 19 = .ok (.aload_n 0, 1) := by decide +kernel
theorem dX1_keep_20 : decode cX1_keep 20 = .ok (.getfield 11, 3) := by decide +kernel
theorem dX1_keep_23 : decode cX1_keep 23 = .ok (.aload_n 0, 1) := by decide +kernel
theorem dX1_keep_24 : decode cX1_keep 24 = .ok (.getfield 24, 3) := by decide +kernel
theorem dX1_keep_27 : decode cX1_keep 27 = .ok (.aaload, 1) := by decide +kernel
theorem dX1_keep_28 : decode cX1_keep 28 = .ok (.ifnonnull 4, 3) := by decide +kernel
theorem dX1_keep_31 : decode cX1_keep 31 = .ok (.return_, 1) := by decide +kernel
theorem dX1_keep_32 : decode cX1_keep 32 = .ok (.aload_n 1, 1) := by decide +kernel
theorem dX1_keep_33 : decode cX1_keep 33 = .ok (.aload_n 0, 1) := by decide +kernel
theorem dX1_keep_34 : decode cX1_keep 34 = .ok (.getfield 11, 3) := by decide +kernel
theorem dX1_keep_37 : decode cX1_keep 37 = .ok (.aload_n 0, 1) := by decide +kernel
theorem dX1_keep_38 : decode cX1_keep 38 = .ok (.getfield 24, 3) := by decide +kernel
theorem dX1_keep_41 : decode cX1_keep 41 = .ok (.aaload, 1) := by decide +kernel
theorem dX1_keep_42 : decode cX1_keep 42 = .ok (.invokevirtual 27, 3) := by decide +kernel
theorem dX1_keep_45 : decode cX1_keep 45 = .ok (.aload_n 0, 1) := by decide +kernel
theorem dX1_keep_46 : decode cX1_keep 46 = .ok (.aload_n 0, 1) := by decide +kernel
theorem dX1_keep_47 : decode cX1_keep 47 = .ok (.getfield 24, 3) := by decide +kernel
theorem dX1_keep_50 : decode cX1_keep 50 = .ok (.iconst 1, 1) := by decide +kernel
theorem dX1_keep_51 : decode cX1_keep 51 = .ok (.iadd, 1) := by decide +kernel
theorem dX1_keep_52 : decode cX1_keep 52 = .ok (.aload_n 0, 1) := by decide +kernel
theorem dX1_keep_53 : decode cX1_keep 53 = .ok (.getfield 11, 3) := by decide +kernel
theorem dX1_keep_56 : decode cX1_keep 56 = .ok (.arraylength, 1) := by decide +kernel
theorem dX1_keep_57 : decode cX1_keep 57 = .ok (.if_icmp .ge 12, 3) := by decide +kernel
theorem dX1_keep_60 : decode cX1_keep 60 = .ok (.aload_n 0, 1) := by decide +kernel
theorem dX1_keep_61 : decode cX1_keep 61 = .ok (.getfield 24, 3) := by decide +kernel
theorem dX1_keep_64 : decode cX1_keep 64 = .ok (.iconst 1, 1) := by decide +kernel
theorem dX1_keep_65 : decode cX1_keep 65 = .ok (.iadd, 1) := by decide +kernel
theorem dX1_keep_66 : decode cX1_keep 66 = .ok (.goto 4, 3) := by decide +kernel
theorem dX1_keep_69 : decode cX1_keep 69 = .ok (.iconst 0, 1) := by decide +kernel
theorem dX1_keep_70 : decode cX1_keep 70 = .ok (.putfield 24, 3) := by decide +kernel
theorem dX1_keep_73 : decode cX1_keep 73 = .ok (.aload_n 0, 1) := by decide +kernel
theorem dX1_keep_74 : decode cX1_keep 74 = .ok (.aload_n 0, 1) := by decide +kernel
theorem dX1_keep_75 : decode cX1_keep 75 = .ok (.getfield 11, 3) := by decide +kernel
theorem dX1_keep_78 : decode cX1_keep 78 = .ok (.arraylength, 1) := by decide +kernel
theorem dX1_keep_79 : decode cX1_keep 79 = .ok (.aload_n 0, 1) := by decide +kernel
theorem dX1_keep_80 : decode cX1_keep 80 = .ok (.getfield 20, 3) := by decide +kernel
theorem dX1_keep_83 : decode cX1_keep 83 = .ok (.iconst 1, 1) := by decide +kernel
theorem dX1_keep_84 : decode cX1_keep 84 = .ok (.iadd, 1) := by decide +kernel
theorem dX1_keep_85 : decode cX1_keep 85 = .ok (.invokestatic 33, 3) := by decide +kernel
theorem dX1_keep_88 : decode cX1_keep 88 = .ok (.putfield 20, 3) := by decide +kernel
theorem dX1_keep_91 : decode cX1_keep 91 = .ok (.return_, 1) := by decide +kernel
theorem dX1_giveBack_0 : decode cX1_giveBack 0 = .ok (.aload_n 0, 1) := by decide +kernel
theorem dX1_giveBack_1 : decode cX1_giveBack 1 = .ok (.getfield 24, 3) := by decide +kernel
theorem dX1_giveBack_4 : decode cX1_giveBack 4 = .ok (.ifCond .le 12, 3) := by decide +kernel
theorem dX1_giveBack_7 : decode cX1_giveBack 7 = .ok (.aload_n 0, 1) := by decide +kernel
theorem dX1_giveBack_8 : decode cX1_giveBack 8 = .ok (.getfield 24, 3) := by decide +kernel
theorem dX1_giveBack_11 : decode cX1_giveBack 11 = .ok (.iconst 1, 1) := by decide +kernel
theorem dX1_giveBack_12 : decode cX1_giveBack 12 = .ok (.isub, 1) := by decide +kernel
theorem dX1_giveBack_13 : decode cX1_giveBack 13 = .ok (.goto 10, 3) := by decide +kernel
theorem dX1_giveBack_16 : decode cX1_giveBack 16 = .ok (.aload_n 0, 1) := by decide +kernel
theorem dX1_giveBack_17 : decode cX1_giveBack 17 = .ok (.getfield 11, 3) := by decide +kernel
theorem dX1_giveBack_20 : decode cX1_giveBack 20 = .ok (.arraylength, 1) := by decide +kernel
theorem dX1_giveBack_21 : decode cX1_giveBack 21 = .ok (.iconst 1, 1) := by decide +kernel
theorem dX1_giveBack_22 : decode cX1_giveBack 22 = .ok (.isub, 1) := by decide +kernel
theorem dX1_giveBack_23 : decode cX1_giveBack 23 = .ok (.istore_n 2, 1) := by decide +kernel
theorem dX1_giveBack_24 : decode cX1_giveBack 24 = .ok (.aload_n 0, 1) := by decide +kernel
theorem dX1_giveBack_25 : decode cX1_giveBack 25 = .ok (.getfield 20, 3) := by decide +kernel
theorem dX1_giveBack_28 : decode cX1_giveBack 28 = .ok (.ifCond .eq 25, 3) := by decide +kernel
theorem dX1_giveBack_31 : decode cX1_giveBack 31 = .ok (.iload_n 2, 1) := by decide +kernel
theorem dX1_giveBack_32 : decode cX1_giveBack 32 = .ok (.ifCond .lt 21, 3) := by decide +kernel
theorem dX1_giveBack_35 : decode cX1_giveBack 35 = .ok (.iload_n 2, 1) := by decide +kernel
theorem dX1_giveBack_36 : decode cX1_giveBack 36 = .ok (.aload_n 0, 1) := by decide +kernel
theorem dX1_giveBack_37 : decode cX1_giveBack 37 = .ok (.getfield 11, 3) := by decide +kernel
theorem dX1_giveBack_40 : decode cX1_giveBack 40 = .ok (.arraylength, 1) := by decide +kernel
theorem dX1_giveBack_41 : decode cX1_giveBack 41 = .ok (.if_icmp .ge 12, 3) := by decide +kernel
theorem dX1_giveBack_44 : decode cX1_giveBack 44 = .ok (.aload_n 0, 1) := by decide +kernel
theorem dX1_giveBack_45 : decode cX1_giveBack 45 = .ok (.getfield 11, 3) := by decide +kernel
theorem dX1_giveBack_48 : decode cX1_giveBack 48 = .ok (.iload_n 2, 1) := by decide +kernel
theorem dX1_giveBack_49 : decode cX1_giveBack 49 = .ok (.aaload, 1) := by decide +kernel
theorem dX1_giveBack_50 : decode cX1_giveBack 50 = .ok (.ifnonnull 5, 3) := by decide +kernel
theorem dX1_giveBack_53 : decode cX1_giveBack 53 = .ok (.iconst 0, 1) := by decide +kernel
theorem dX1_giveBack_54 : decode cX1_giveBack 54 = .ok (.ireturn, 1) := by decide +kernel
theorem dX1_giveBack_55 : decode cX1_giveBack 55 = .ok (.aload_n 1, 1) := by decide +kernel
theorem dX1_giveBack_56 : decode cX1_giveBack 56 = .ok (.aload_n 0, 1) := by decide +kernel
theorem dX1_giveBack_57 : decode cX1_giveBack 57 = .ok (.getfield 11, 3) := by decide +kernel
theorem dX1_giveBack_60 : decode cX1_giveBack 60 = .ok (.iload_n 2, 1) := by decide +kernel
theorem dX1_giveBack_61 : decode cX1_giveBack 61 = .ok (.aaload, 1) := by decide +kernel
theorem dX1_giveBack_62 : decode cX1_giveBack 62 = .ok (.invokevirtual 39, 3) := by decide +kernel
theorem dX1_giveBack_65 : decode cX1_giveBack 65 = .ok (.aload_n 0, 1) := by decide +kernel
theorem dX1_giveBack_66 : decode cX1_giveBack 66 = .ok (.iload_n 2, 1) := by decide +kernel
theorem dX1_giveBack_67 : decode cX1_giveBack 67 = .ok (.putfield 24, 3) := by decide +kernel
theorem dX1_giveBack_70 : decode cX1_giveBack 70 = .ok (.aload_n 0, 1) := by decide +kernel
theorem dX1_giveBack_71 : decode cX1_giveBack 71 = .ok (.dup, 1) := by decide +kernel
theorem dX1_giveBack_72 : decode cX1_giveBack 72 = .ok (.getfield 20, 3) := by decide +kernel
theorem dX1_giveBack_75 : decode cX1_giveBack 75 = .ok (.iconst 1, 1) := by decide +kernel
theorem dX1_giveBack_76 : decode cX1_giveBack 76 = .ok (.isub, 1) := by decide +kernel
theorem dX1_giveBack_77 : decode cX1_giveBack 77 = .ok (.putfield 20, 3) := by decide +kernel
theorem dX1_giveBack_80 : decode cX1_giveBack 80 = .ok (.iconst 1, 1) := by decide +kernel
theorem dX1_giveBack_81 : decode cX1_giveBack 81 = .ok (.ireturn, 1) := by decide +kernel
theorem dX2_init_0 : decode cX2_init 0 = .ok (.aload_n 0, 1) := by decide +kernel
theorem dX2_init_1 : decode cX2_init 1 = .ok (.invokespecial 3, 3) := by decide +kernel
theorem dX2_init_4 : decode cX2_init 4 = .ok (.aload_n 0, 1) := by decide +kernel
theorem dX2_init_5 : decode cX2_init 5 = .ok (.new 9, 3) := by decide +kernel
theorem dX2_init_8 : decode cX2_init 8 = .ok (.dup, 1) := by decide +kernel
theorem dX2_init_9 : decode cX2_init 9 = .ok (.iconst 4, 1) := by decide +kernel
theorem dX2_init_10 : decode cX2_init 10 = .ok (.invokespecial 13, 3) := by decide +kernel
theorem dX2_init_13 : decode cX2_init 13 = .ok (.putfield 16, 3) := by decide +kernel
theorem dX2_init_16 : decode cX2_init 16 = .ok (.return_, 1) := by decide +kernel
theorem dX2_readAll_0 : decode cX2_readAll 0 = .ok (.aload_n 2, 1) := by decide +kernel
theorem dX2_readAll_1 : decode cX2_readAll 1 = .ok (.invokevirtual 20, 3) := by decide +kernel
theorem dX2_readAll_4 : decode cX2_readAll 4 = .ok (.aload_n 0, 1) := by decide +kernel
theorem dX2_readAll_5 : decode cX2_readAll 5 = .ok (.iconst 0, 1) := by decide +kernel
theorem dX2_readAll_6 : decode cX2_readAll 6 = .ok (.putfield 25, 3) := by decide +kernel
theorem dX2_readAll_9 : decode cX2_readAll 9 = .ok (.iconst 0, 1) := by decide +kernel
theorem dX2_readAll_10 : decode cX2_readAll 10 = .ok (.istore_n 3, 1) := by decide +kernel
theorem dX2_readAll_11 : decode cX2_readAll 11 = .ok (.iload_n 3, 1) := by decide +kernel
theorem dX2_readAll_12 : decode cX2_readAll 12 = .ok (.sipush 200, 3) := by decide +kernel
theorem dX2_readAll_15 : decode cX2_readAll 15 = .ok (.if_icmp .ge 38, 3) := by decide +kernel
theorem dX2_readAll_18 : decode cX2_readAll 18 = .ok (.aload_n 0, 1) := by decide +kernel
theorem dX2_readAll_19 : decode cX2_readAll 19 = .ok (.getfield 25, 3) := by decide +kernel
theorem dX2_readAll_22 : decode cX2_readAll 22 = .ok (.aload_n 1, 1) := by decide +kernel
theorem dX2_readAll_23 : decode cX2_readAll 23 = .ok (.invokevirtual 29, 3) := by decide +kernel
theorem dX2_readAll_26 : decode cX2_readAll 26 = .ok (.if_icmp .ge 27, 3) := by decide +kernel
theorem dX2_readAll_29 : decode cX2_readAll 29 = .ok (.aload_n 0, 1) := by decide +kernel
theorem dX2_readAll_30 : decode cX2_readAll 30 = .ok (.getfield 25, 3) := by decide +kernel
theorem dX2_readAll_33 : decode cX2_readAll 33 = .ok (.istore 4, 2) := by decide +kernel
theorem dX2_readAll_35 : decode cX2_readAll 35 = .ok (.aload_n 0, 1) := by decide +kernel
theorem dX2_readAll_36 : decode cX2_readAll 36 = .ok (.aload_n 1, 1) := by decide +kernel
theorem dX2_readAll_37 : decode cX2_readAll 37 = .ok (.aload_n 2, 1) := by decide +kernel
theorem dX2_readAll_38 : decode cX2_readAll 38 = .ok (.invokevirtual 35, 3) := by decide +kernel
theorem dX2_readAll_41 : decode cX2_readAll 41 = .ok (.ifCond .ne 6, 3) := by decide +kernel
theorem dX2_readAll_44 : decode cX2_readAll 44 = .ok (.iload 4, 2) := by decide +kernel
theorem dX2_readAll_46 : decode cX2_readAll 46 = .ok (.ireturn, 1) := by decide +kernel
theorem dX2_readAll_47 : decode cX2_readAll 47 = .ok (.iinc 3 1, 3) := by decide +kernel
theorem dX2_readAll_50 : decode cX2_readAll 50 = .ok (.goto (-39), 3) := by decide +kernel
theorem dX2_readAll_53 : decode cX2_readAll 53 = .ok (.aload_n 2, 1) := by decide +kernel
theorem dX2_readAll_54 : decode cX2_readAll 54 = .ok (.invokevirtual 39, 3) := by decide +kernel
theorem dX2_readAll_57 : decode cX2_readAll 57 = .ok (.bipush (-4), 2) := by decide +kernel
theorem dX2_readAll_59 : decode cX2_readAll 59 = .ok (.ireturn, 1) := by decide +kernel
theorem dX2_readItem_0 : decode cX2_readItem 0 = .ok (.aload_n 1, 1) := by decide +kernel
theorem dX2_readItem_1 : decode cX2_readItem 1 = .ok (.aload_n 0, 1) := by decide +kernel
theorem dX2_readItem_2 : decode cX2_readItem 2 = .ok (.getfield 25, 3) := by decide +kernel
theorem dX2_readItem_5 : decode cX2_readItem 5 = .ok (.invokevirtual 42, 3) := by decide +kernel
theorem dX2_readItem_8 : decode cX2_readItem 8 = .ok (.istore_n 3, 1) := by decide +kernel
theorem dX2_readItem_9 : decode cX2_readItem 9 = .ok (.aload_n 0, 1) := by decide +kernel
theorem dX2_readItem_10 : decode cX2_readItem 10 = .ok (.dup, 1) := by decide +kernel
theorem dX2_readItem_11 : decode cX2_readItem 11 = .ok (.getfield 25, 3) := by decide +kernel
theorem dX2_readItem_14 : decode cX2_readItem 14 = .ok (.iconst 1, 1) := by decide +kernel
theorem dX2_readItem_15 : decode cX2_readItem 15 = .ok (.iadd, 1) := by decide +kernel
theorem dX2_readItem_16 : decode cX2_readItem 16 = .ok (.putfield 25, 3) := by decide +kernel
theorem dX2_readItem_19 : decode cX2_readItem 19 = .ok (.iload_n 3, 1) := by decide +kernel
theorem dX2_readItem_20 : decode cX2_readItem 20 = .ok (.invokestatic 46, 3) := by decide +kernel
theorem dX2_readItem_23 : decode cX2_readItem 23 = .ok (.istore 4, 2) := by decide +kernel
theorem dX2_readItem_25 : decode cX2_readItem 25 = .ok (.iload 4, 2) := by decide +kernel
theorem dX2_readItem_27 : decode cX2_readItem 27 = .ok (.ifCond .le 26, 3) := by decide +kernel
theorem dX2_readItem_30 : decode cX2_readItem 30 = .ok (.aload_n 0, 1) := by decide +kernel
theorem dX2_readItem_31 : decode cX2_readItem 31 = .ok (.aload_n 1, 1) := by decide +kernel
theorem dX2_readItem_32 : decode cX2_readItem 32 = .ok (.iload 4, 2) := by decide +kernel
theorem dX2_readItem_34 : decode cX2_readItem 34 = .ok (.invokevirtual 49, 3) := by decide +kernel
theorem dX2_readItem_37 : decode cX2_readItem 37 = .ok (.ifCond .eq 16, 3) := by decide +kernel
theorem dX2_readItem_40 : decode cX2_readItem 40 = .ok (.aload_n 0, 1) := by decide +kernel
theorem dX2_readItem_41 : decode cX2_readItem 41 = .ok (.iload_n 3, 1) := by decide +kernel
theorem dX2_readItem_42 : decode cX2_readItem 42 = .ok (.aload_n 2, 1) := by decide +kernel
theorem dX2_readItem_43 : decode cX2_readItem 43 = .ok (.invokevirtual 53, 3) := by decide +kernel
theorem dX2_readItem_46 : decode cX2_readItem 46 = .ok (.ifCond .eq 7, 3) := by decide +kernel
theorem dX2_readItem_49 : decode cX2_readItem 49 = .ok (.iconst 1, 1) := by decide +kernel
theorem dX2_readItem_50 : decode cX2_readItem 50 = .ok (.goto 4, 3) := by decide +kernel
theorem dX2_readItem_53 : decode cX2_readItem 53 = .ok (.iconst 0, 1) := by decide +kernel
theorem dX2_readItem_54 : decode cX2_readItem 54 = .ok (.ireturn, 1) := by decide +kernel
theorem dX2_numbersOf_0 : decode cX2_numbersOf 0 = .ok (.iload_n 0, 1) := by decide +kernel
theorem dX2_numbersOf_1 : decode cX2_numbersOf 1 = .ok (.lookupswitch 61 #[(98, 57), (99, 59), (116, 51), (117, 55), (118, 53)], 51) := by decide +kernel
theorem dX2_numbersOf_52 : decode cX2_numbersOf 52 = .ok (.iconst 1, 1) := by decide +kernel
theorem dX2_numbersOf_53 : decode cX2_numbersOf 53 = .ok (.ireturn, 1) := by decide +kernel
theorem dX2_numbersOf_54 : decode cX2_numbersOf 54 = .ok (.iconst 1, 1) := by decide +kernel
theorem dX2_numbersOf_55 : decode cX2_numbersOf 55 = .ok (.ireturn, 1) := by decide +kernel
theorem dX2_numbersOf_56 : decode cX2_numbersOf 56 = .ok (.iconst 3, 1) := by decide +kernel
theorem dX2_numbersOf_57 : decode cX2_numbersOf 57 = .ok (.ireturn, 1) := by decide +kernel
theorem dX2_numbersOf_58 : decode cX2_numbersOf 58 = .ok (.iconst 3, 1) := by decide +kernel
theorem dX2_numbersOf_59 : decode cX2_numbersOf 59 = .ok (.ireturn, 1) := by decide +kernel
theorem dX2_numbersOf_60 : decode cX2_numbersOf 60 = .ok (.iconst 4, 1) := by decide +kernel
theorem dX2_numbersOf_61 : decode cX2_numbersOf 61 = .ok (.ireturn, 1) := by decide +kernel
theorem dX2_numbersOf_62 : decode cX2_numbersOf 62 = .ok (.iconst 0, 1) := by decide +kernel
theorem dX2_numbersOf_63 : decode cX2_numbersOf 63 = .ok (.ireturn, 1) := by decide +kernel
theorem dX2_readNumbers_0 : decode cX2_readNumbers 0 = .ok (.iconst 0, 1) := by decide +kernel
theorem dX2_readNumbers_1 : decode cX2_readNumbers 1 = .ok (.istore_n 3, 1) := by decide +kernel
theorem dX2_readNumbers_2 : decode cX2_readNumbers 2 = .ok (.iload_n 3, 1) := by decide +kernel
theorem dX2_readNumbers_3 : decode cX2_readNumbers 3 = .ok (.iload_n 2, 1) := by decide +kernel
theorem dX2_readNumbers_4 : decode cX2_readNumbers 4 = .ok (.if_icmp .ge 59, 3) := by decide +kernel
theorem dX2_readNumbers_7 : decode cX2_readNumbers 7 = .ok (.iload_n 3, 1) := by decide +kernel
theorem dX2_readNumbers_8 : decode cX2_readNumbers 8 = .ok (.iload_n 2, 1) := by decide +kernel
theorem dX2_readNumbers_9 : decode cX2_readNumbers 9 = .ok (.iconst 1, 1) := by decide +kernel
theorem dX2_readNumbers_10 : decode cX2_readNumbers 10 = .ok (.isub, 1) := by decide +kernel
theorem dX2_readNumbers_11 : decode cX2_readNumbers 11 = .ok (.if_icmp .ne 8, 3) := by decide +kernel
theorem dX2_readNumbers_14 : decode cX2_readNumbers 14 = .ok (.bipush 59, 2) := by decide +kernel
theorem dX2_readNumbers_16 : decode cX2_readNumbers 16 = .ok (.goto 5, 3) := by decide +kernel
theorem dX2_readNumbers_19 : decode cX2_readNumbers 19 = .ok (.bipush 44, 2) := by decide +kernel
theorem dX2_readNumbers_21 : decode cX2_readNumbers 21 = .ok (.istore 4, 2) := by decide +kernel
theorem dX2_readNumbers_23 : decode cX2_readNumbers 23 = .ok (.aload_n 0, 1) := by decide +kernel
theorem dX2_readNumbers_24 : decode cX2_readNumbers 24 = .ok (.aload_n 1, 1) := by decide +kernel
theorem dX2_readNumbers_25 : decode cX2_readNumbers 25 = .ok (.iload_n 3, 1) := by decide +kernel
theorem dX2_readNumbers_26 : decode cX2_readNumbers 26 = .ok (.invokevirtual 57, 3) := by decide +kernel
theorem dX2_readNumbers_29 : decode cX2_readNumbers 29 = .ok (.ifCond .eq 16, 3) := by decide +kernel
theorem dX2_readNumbers_32 : decode cX2_readNumbers 32 = .ok (.aload_n 1, 1) := by decide +kernel
theorem dX2_readNumbers_33 : decode cX2_readNumbers 33 = .ok (.aload_n 0, 1) := by decide +kernel
theorem dX2_readNumbers_34 : decode cX2_readNumbers 34 = .ok (.getfield 25, 3) := by decide +kernel
theorem dX2_readNumbers_37 : decode cX2_readNumbers 37 = .ok (.invokevirtual 42, 3) := by decide +kernel
theorem dX2_readNumbers_40 : decode cX2_readNumbers 40 = .ok (.iload 4, 2) := by decide +kernel
theorem dX2_readNumbers_42 : decode cX2_readNumbers 42 = .ok (.if_icmp .eq 5, 3) := by decide +kernel
theorem dX2_readNumbers_45 : decode cX2_readNumbers 45 = .ok (.iconst 0, 1) := by decide +kernel
theorem dX2_readNumbers_46 : decode cX2_readNumbers 46 = .ok (.ireturn, 1) := by decide +kernel
theorem dX2_readNumbers_47 : decode cX2_readNumbers 47 = .ok (.aload_n 0, 1) := by decide +kernel
theorem dX2_readNumbers_48 : decode cX2_readNumbers 48 = .ok (.dup, 1) := by decide +kernel
theorem dX2_readNumbers_49 : decode cX2_readNumbers 49 = .ok (.getfield 25, 3) := by decide +kernel
theorem dX2_readNumbers_52 : decode cX2_readNumbers 52 = .ok (.iconst 1, 1) := by decide +kernel
theorem dX2_readNumbers_53 : decode cX2_readNumbers 53 = .ok (.iadd, 1) := by decide +kernel
theorem dX2_readNumbers_54 : decode cX2_readNumbers 54 = .ok (.putfield 25, 3) := by decide +kernel
theorem dX2_readNumbers_57 : decode cX2_readNumbers 57 = .ok (.iinc 3 1, 3) := by decide +kernel
theorem dX2_readNumbers_60 : decode cX2_readNumbers 60 = .ok (.goto (-58), 3) := by decide +kernel
theorem dX2_readNumbers_63 : decode cX2_readNumbers 63 = .ok (.iconst 1, 1) := by decide +kernel
theorem dX2_readNumbers_64 : decode cX2_readNumbers 64 = .ok (.ireturn, 1) := by decide +kernel
theorem dX2_readNumber_0 : decode cX2_readNumber 0 = .ok (.aload_n 1, 1) := by decide +kernel
theorem dX2_readNumber_1 : decode cX2_readNumber 1 = .ok (.aload_n 0, 1) := by decide +kernel
theorem dX2_readNumber_2 : decode cX2_readNumber 2 = .ok (.getfield 25, 3) := by decide +kernel
theorem dX2_readNumber_5 : decode cX2_readNumber 5 = .ok (.invokevirtual 42, 3) := by decide +kernel
theorem dX2_readNumber_8 : decode cX2_readNumber 8 = .ok (.invokestatic 60, 3) := by decide +kernel
theorem dX2_readNumber_11 : decode cX2_readNumber 11 = .ok (.ifCond .ne 5, 3) := by decide +kernel
theorem dX2_readNumber_14 : decode cX2_readNumber 14 = .ok (.iconst 0, 1) := by decide +kernel
theorem dX2_readNumber_15 : decode cX2_readNumber 15 = .ok (.ireturn, 1) := by decide +kernel
theorem dX2_readNumber_16 : decode cX2_readNumber 16 = .ok (.aload_n 1, 1) := by decide +kernel
theorem dX2_readNumber_17 : decode cX2_readNumber 17 = .ok (.aload_n 0, 1) := by decide +kernel
theorem dX2_readNumber_18 : decode cX2_readNumber 18 = .ok (.getfield 25, 3) := by decide +kernel
theorem dX2_readNumber_21 : decode cX2_readNumber 21 = .ok (.invokevirtual 42, 3) := by decide +kernel
theorem dX2_readNumber_24 : decode cX2_readNumber 24 = .ok (.bipush 48, 2) := by decide +kernel
theorem dX2_readNumber_26 : decode cX2_readNumber 26 = .ok (.isub, 1) := by decide +kernel
theorem dX2_readNumber_27 : decode cX2_readNumber 27 = .ok (.istore_n 3, 1) := by decide +kernel
theorem dX2_readNumber_28 : decode cX2_readNumber 28 = .ok (.aload_n 0, 1) := by decide +kernel
theorem dX2_readNumber_29 : decode cX2_readNumber 29 = .ok (.dup, 1) := by decide +kernel
theorem dX2_readNumber_30 : decode cX2_readNumber 30 = .ok (.getfield 25, 3) := by decide +kernel
theorem dX2_readNumber_33 : decode cX2_readNumber 33 = .ok (.iconst 1, 1) := by decide +kernel
theorem dX2_readNumber_34 : decode cX2_readNumber 34 = .ok (.iadd, 1) := by decide +kernel
theorem dX2_readNumber_35 : decode cX2_readNumber 35 = .ok (.putfield 25, 3) := by decide +kernel
theorem dX2_readNumber_38 : decode cX2_readNumber 38 = .ok (.aload_n 1, 1) := by decide +kernel
theorem dX2_readNumber_39 : decode cX2_readNumber 39 = .ok (.aload_n 0, 1) := by decide +kernel
theorem dX2_readNumber_40 : decode cX2_readNumber 40 = .ok (.getfield 25, 3) := by decide +kernel
theorem dX2_readNumber_43 : decode cX2_readNumber 43 = .ok (.invokevirtual 42, 3) := by decide +kernel
theorem dX2_readNumber_46 : decode cX2_readNumber 46 = .ok (.invokestatic 60, 3) := by decide +kernel
theorem dX2_readNumber_49 : decode cX2_readNumber 49 = .ok (.ifCond .eq 30, 3) := by decide +kernel
theorem dX2_readNumber_52 : decode cX2_readNumber 52 = .ok (.bipush 10, 2) := by decide +kernel
theorem dX2_readNumber_54 : decode cX2_readNumber 54 = .ok (.iload_n 3, 1) := by decide +kernel
theorem dX2_readNumber_55 : decode cX2_readNumber 55 = .ok (.imul, 1) := by decide +kernel
theorem dX2_readNumber_56 : decode cX2_readNumber 56 = .ok (.aload_n 1, 1) := by decide +kernel
theorem dX2_readNumber_57 : decode cX2_readNumber 57 = .ok (.aload_n 0, 1) := by decide +kernel
theorem dX2_readNumber_58 : decode cX2_readNumber 58 = .ok (.getfield 25, 3) := by decide +kernel
theorem dX2_readNumber_61 : decode cX2_readNumber 61 = .ok (.invokevirtual 42, 3) := by decide +kernel
theorem dX2_readNumber_64 : decode cX2_readNumber 64 = .ok (.iadd, 1) := by decide +kernel
theorem dX2_readNumber_65 : decode cX2_readNumber 65 = .ok (.bipush 48, 2) := by decide +kernel
theorem dX2_readNumber_67 : decode cX2_readNumber 67 = .ok (.isub, 1) := by decide +kernel
theorem dX2_readNumber_68 : decode cX2_readNumber 68 = .ok (.istore_n 3, 1) := by decide +kernel
theorem dX2_readNumber_69 : decode cX2_readNumber 69 = .ok (.aload_n 0, 1) := by decide +kernel
theorem dX2_readNumber_70 : decode cX2_readNumber 70 = .ok (.dup, 1) := by decide +kernel
theorem dX2_readNumber_71 : decode cX2_readNumber 71 = .ok (.getfield 25, 3) := by decide +kernel
theorem dX2_readNumber_74 : decode cX2_readNumber 74 = .ok (.iconst 1, 1) := by decide +kernel
theorem dX2_readNumber_75 : decode cX2_readNumber 75 = .ok (.iadd, 1) := by decide +kernel
theorem dX2_readNumber_76 : decode cX2_readNumber 76 = .ok (.putfield 25, 3) := by decide +kernel
theorem dX2_readNumber_79 : decode cX2_readNumber 79 = .ok (.aload_n 0, 1) := by decide +kernel
theorem dX2_readNumber_80 : decode cX2_readNumber 80 = .ok (.getfield 16, 3) := by decide +kernel
theorem dX2_readNumber_83 : decode cX2_readNumber 83 = .ok (.iload_n 2, 1) := by decide +kernel
theorem dX2_readNumber_84 : decode cX2_readNumber 84 = .ok (.iload_n 3, 1) := by decide +kernel
theorem dX2_readNumber_85 : decode cX2_readNumber 85 = .ok (.invokevirtual 64, 3) := by decide +kernel
theorem dX2_readNumber_88 : decode cX2_readNumber 88 = .ok (.iconst 1, 1) := by decide +kernel
theorem dX2_readNumber_89 : decode cX2_readNumber 89 = .ok (.ireturn, 1) := by decide +kernel
theorem dX2_isFigure_0 : decode cX2_isFigure 0 = .ok (.iload_n 0, 1) := by decide +kernel
theorem dX2_isFigure_1 : decode cX2_isFigure 1 = .ok (.bipush 48, 2) := by decide +kernel
theorem dX2_isFigure_3 : decode cX2_isFigure 3 = .ok (.if_icmp .lt 13, 3) := by decide +kernel
theorem dX2_isFigure_6 : decode cX2_isFigure 6 = .ok (.iload_n 0, 1) := by decide +kernel
theorem dX2_isFigure_7 : decode cX2_isFigure 7 = .ok (.bipush 57, 2) := by decide +kernel
theorem dX2_isFigure_9 : decode cX2_isFigure 9 = .ok (.if_icmp .gt 7, 3) := by decide +kernel
theorem dX2_isFigure_12 : decode cX2_isFigure 12 = .ok (.iconst 1, 1) := by decide +kernel
theorem dX2_isFigure_13 : decode cX2_isFigure 13 = .ok (.goto 4, 3) := by decide +kernel
theorem dX2_isFigure_16 : decode cX2_isFigure 16 = .ok (.iconst 0, 1) := by decide +kernel
theorem dX2_isFigure_17 : decode cX2_isFigure 17 = .ok (.ireturn, 1) := by decide +kernel
theorem dX2_tell_0 : decode cX2_tell 0 = .ok (.aload_n 0, 1) := by decide +kernel
theorem dX2_tell_1 : decode cX2_tell 1 = .ok (.getfield 16, 3) := by decide +kernel
theorem dX2_tell_4 : decode cX2_tell 4 = .ok (.iconst 0, 1) := by decide +kernel
theorem dX2_tell_5 : decode cX2_tell 5 = .ok (.invokevirtual 68, 3) := by decide +kernel
theorem dX2_tell_8 : decode cX2_tell 8 = .ok (.istore_n 3, 1) := by decide +kernel
theorem dX2_tell_9 : decode cX2_tell 9 = .ok (.aload_n 0, 1) := by decide +kernel
theorem dX2_tell_10 : decode cX2_tell 10 = .ok (.getfield 16, 3) := by decide +kernel
theorem dX2_tell_13 : decode cX2_tell 13 = .ok (.iconst 1, 1) := by decide +kernel
theorem dX2_tell_14 : decode cX2_tell 14 = .ok (.invokevirtual 68, 3) := by decide +kernel
theorem dX2_tell_17 : decode cX2_tell 17 = .ok (.istore 4, 2) := by decide +kernel
theorem dX2_tell_19 : decode cX2_tell 19 = .ok (.aload_n 0, 1) := by decide +kernel
theorem dX2_tell_20 : decode cX2_tell 20 = .ok (.getfield 16, 3) := by decide +kernel
theorem dX2_tell_23 : decode cX2_tell 23 = .ok (.iconst 2, 1) := by decide +kernel
theorem dX2_tell_24 : decode cX2_tell 24 = .ok (.invokevirtual 68, 3) := by decide +kernel
theorem dX2_tell_27 : decode cX2_tell 27 = .ok (.istore 5, 2) := by decide +kernel
theorem dX2_tell_29 : decode cX2_tell 29 = .ok (.iload_n 1, 1) := by decide +kernel
theorem dX2_tell_30 : decode cX2_tell 30 = .ok (.lookupswitch 100 #[(98, 72), (99, 82), (116, 50), (117, 62), (118, 56)], 50) := by decide +kernel
theorem dX2_tell_80 : decode cX2_tell 80 = .ok (.aload_n 2, 1) := by decide +kernel
theorem dX2_tell_81 : decode cX2_tell 81 = .ok (.iload_n 3, 1) := by decide +kernel
theorem dX2_tell_82 : decode cX2_tell 82 = .ok (.invokevirtual 71, 3) := by decide +kernel
theorem dX2_tell_85 : decode cX2_tell 85 = .ok (.ireturn, 1) := by decide +kernel
theorem dX2_tell_86 : decode cX2_tell 86 = .ok (.aload_n 2, 1) := by decide +kernel
theorem dX2_tell_87 : decode cX2_tell 87 = .ok (.iload_n 3, 1) := by decide +kernel
theorem dX2_tell_88 : decode cX2_tell 88 = .ok (.invokevirtual 74, 3) := by decide +kernel
theorem dX2_tell_91 : decode cX2_tell 91 = .ok (.ireturn, 1) := by decide +kernel
theorem dX2_tell_92 : decode cX2_tell 92 = .ok (.aload_n 2, 1) := by decide +kernel
theorem dX2_tell_93 : decode cX2_tell 93 = .ok (.iload_n 3, 1) := by decide +kernel
theorem dX2_tell_94 : decode cX2_tell 94 = .ok (.iload 4, 2) := by decide +kernel
theorem dX2_tell_96 : decode cX2_tell 96 = .ok (.iload 5, 2) := by decide +kernel
theorem dX2_tell_98 : decode cX2_tell 98 = .ok (.invokevirtual 77, 3) := by decide +kernel
theorem dX2_tell_101 : decode cX2_tell 101 = .ok (.ireturn, 1) := by decide +kernel
theorem dX2_tell_102 : decode cX2_tell 102 = .ok (.aload_n 2, 1) := by decide +kernel
theorem dX2_tell_103 : decode cX2_tell 103 = .ok (.iload_n 3, 1) := by decide +kernel
theorem dX2_tell_104 : decode cX2_tell 104 = .ok (.iload 4, 2) := by decide +kernel
theorem dX2_tell_106 : decode cX2_tell 106 = .ok (.iload 5, 2) := by decide +kernel
theorem dX2_tell_108 : decode cX2_tell 108 = .ok (.invokevirtual 81, 3) := by decide +kernel
theorem dX2_tell_111 : decode cX2_tell 111 = .ok (.ireturn, 1) := by decide +kernel
theorem dX2_tell_112 : decode cX2_tell 112 = .ok (.aload_n 2, 1) := by decide +kernel
theorem dX2_tell_113 : decode cX2_tell 113 = .ok (.iload_n 3, 1) := by decide +kernel
theorem dX2_tell_114 : decode cX2_tell 114 = .ok (.iload 4, 2) := by decide +kernel
theorem dX2_tell_116 : decode cX2_tell 116 = .ok (.iload 5, 2) := by decide +kernel
theorem dX2_tell_118 : decode cX2_tell 118 = .ok (.aload_n 0, 1) := by decide +kernel
theorem dX2_tell_119 : decode cX2_tell 119 = .ok (.getfield 16, 3) := by decide +kernel
theorem dX2_tell_122 : decode cX2_tell 122 = .ok (.iconst 3, 1) := by decide +kernel
theorem dX2_tell_123 : decode cX2_tell 123 = .ok (.invokevirtual 68, 3) := by decide +kernel
theorem dX2_tell_126 : decode cX2_tell 126 = .ok (.invokevirtual 84, 3) := by decide +kernel
theorem dX2_tell_129 : decode cX2_tell 129 = .ok (.ireturn, 1) := by decide +kernel
theorem dX2_tell_130 : decode cX2_tell 130 = .ok (.iconst 0, 1) := by decide +kernel
theorem dX2_tell_131 : decode cX2_tell 131 = .ok (.ireturn, 1) := by decide +kernel
theorem dX3_init_0 : decode cX3_init 0 = .ok (.aload_n 0, 1) := by decide +kernel
theorem dX3_init_1 : decode cX3_init 1 = .ok (.invokespecial 1, 3) := by decide +kernel
theorem dX3_init_4 : decode cX3_init 4 = .ok (.aload_n 0, 1) := by decide +kernel
theorem dX3_init_5 : decode cX3_init 5 = .ok (.iconst 0, 1) := by decide +kernel
theorem dX3_init_6 : decode cX3_init 6 = .ok (.iload_n 1, 1) := by decide +kernel
theorem dX3_init_7 : decode cX3_init 7 = .ok (.invokestatic 7, 3) := by decide +kernel
theorem dX3_init_10 : decode cX3_init 10 = .ok (.newarray .int, 2) := by decide +kernel
theorem dX3_init_12 : decode cX3_init 12 = .ok (.putfield 13, 3) := by decide +kernel
theorem dX3_init_15 : decode cX3_init 15 = .ok (.return_, 1) := by decide +kernel
theorem dX3_get_0 : decode cX3_get 0 = .ok (.iload_n 1, 1) := by decide +kernel
theorem dX3_get_1 : decode cX3_get 1 = .ok (.ifCond .lt 21, 3) := by decide +kernel
theorem dX3_get_4 : decode cX3_get 4 = .ok (.iload_n 1, 1) := by decide +kernel
theorem dX3_get_5 : decode cX3_get 5 = .ok (.aload_n 0, 1) := by decide +kernel
theorem dX3_get_6 : decode cX3_get 6 = .ok (.getfield 13, 3) := by decide +kernel
theorem dX3_get_9 : decode cX3_get 9 = .ok (.arraylength, 1) := by decide +kernel
theorem dX3_get_10 : decode cX3_get 10 = .ok (.if_icmp .ge 12, 3) := by decide +kernel
theorem dX3_get_13 : decode cX3_get 13 = .ok (.aload_n 0, 1) := by decide +kernel
theorem dX3_get_14 : decode cX3_get 14 = .ok (.getfield 13, 3) := by decide +kernel
theorem dX3_get_17 : decode cX3_get 17 = .ok (.iload_n 1, 1) := by decide +kernel
theorem dX3_get_18 : decode cX3_get 18 = .ok (.iaload, 1) := by decide +kernel
theorem dX3_get_19 : decode cX3_get 19 = .ok (.goto 4, 3) := by decide +kernel
theorem dX3_get_22 : decode cX3_get 22 = .ok (.iconst 0, 1) := by decide +kernel
theorem dX3_get_23 : decode cX3_get 23 = .ok (.ireturn, 1) := by decide +kernel
theorem dX3_set_0 : decode cX3_set 0 = .ok (.iload_n 1, 1) := by decide +kernel
theorem dX3_set_1 : decode cX3_set 1 = .ok (.ifCond .lt 19, 3) := by decide +kernel
theorem dX3_set_4 : decode cX3_set 4 = .ok (.iload_n 1, 1) := by decide +kernel
theorem dX3_set_5 : decode cX3_set 5 = .ok (.aload_n 0, 1) := by decide +kernel
theorem dX3_set_6 : decode cX3_set 6 = .ok (.getfield 13, 3) := by decide +kernel
theorem dX3_set_9 : decode cX3_set 9 = .ok (.arraylength, 1) := by decide +kernel
theorem dX3_set_10 : decode cX3_set 10 = .ok (.if_icmp .ge 10, 3) := by decide +kernel
theorem dX3_set_13 : decode cX3_set 13 = .ok (.aload_n 0, 1) := by decide +kernel
theorem dX3_set_14 : decode cX3_set 14 = .ok (.getfield 13, 3) := by decide +kernel
theorem dX3_set_17 : decode cX3_set 17 = .ok (.iload_n 1, 1) := by decide +kernel
theorem dX3_set_18 : decode cX3_set 18 = .ok (.iload_n 2, 1) := by decide +kernel
theorem dX3_set_19 : decode cX3_set 19 = .ok (.iastore, 1) := by decide +kernel
theorem dX3_set_20 : decode cX3_set 20 = .ok (.return_, 1) := by decide +kernel
theorem dX3_clear_0 : decode cX3_clear 0 = .ok (.iconst 0, 1) := by decide +kernel
theorem dX3_clear_1 : decode cX3_clear 1 = .ok (.istore_n 1, 1) := by decide +kernel
theorem dX3_clear_2 : decode cX3_clear 2 = .ok (.iload_n 1, 1) := by decide +kernel
theorem dX3_clear_3 : decode cX3_clear 3 = .ok (.aload_n 0, 1) := by decide +kernel
theorem dX3_clear_4 : decode cX3_clear 4 = .ok (.getfield 13, 3) := by decide +kernel
theorem dX3_clear_7 : decode cX3_clear 7 = .ok (.arraylength, 1) := by decide +kernel
theorem dX3_clear_8 : decode cX3_clear 8 = .ok (.if_icmp .ge 16, 3) := by decide +kernel
theorem dX3_clear_11 : decode cX3_clear 11 = .ok (.aload_n 0, 1) := by decide +kernel
theorem dX3_clear_12 : decode cX3_clear 12 = .ok (.getfield 13, 3) := by decide +kernel
theorem dX3_clear_15 : decode cX3_clear 15 = .ok (.iload_n 1, 1) := by decide +kernel
theorem dX3_clear_16 : decode cX3_clear 16 = .ok (.iconst 0, 1) := by decide +kernel
theorem dX3_clear_17 : decode cX3_clear 17 = .ok (.iastore, 1) := by decide +kernel
theorem dX3_clear_18 : decode cX3_clear 18 = .ok (.iinc 1 1, 3) := by decide +kernel
theorem dX3_clear_21 : decode cX3_clear 21 = .ok (.goto (-19), 3) := by decide +kernel
theorem dX3_clear_24 : decode cX3_clear 24 = .ok (.return_, 1) := by decide +kernel
theorem dX3_takeFrom_0 : decode cX3_takeFrom 0 = .ok (.iconst 0, 1) := by decide +kernel
theorem dX3_takeFrom_1 : decode cX3_takeFrom 1 = .ok (.istore_n 2, 1) := by decide +kernel
theorem dX3_takeFrom_2 : decode cX3_takeFrom 2 = .ok (.iload_n 2, 1) := by decide +kernel
theorem dX3_takeFrom_3 : decode cX3_takeFrom 3 = .ok (.aload_n 0, 1) := by decide +kernel
theorem dX3_takeFrom_4 : decode cX3_takeFrom 4 = .ok (.getfield 13, 3) := by decide +kernel
theorem dX3_takeFrom_7 : decode cX3_takeFrom 7 = .ok (.arraylength, 1) := by decide +kernel
theorem dX3_takeFrom_8 : decode cX3_takeFrom 8 = .ok (.if_icmp .ge 20, 3) := by decide +kernel
theorem dX3_takeFrom_11 : decode cX3_takeFrom 11 = .ok (.aload_n 0, 1) := by decide +kernel
theorem dX3_takeFrom_12 : decode cX3_takeFrom 12 = .ok (.getfield 13, 3) := by decide +kernel
theorem dX3_takeFrom_15 : decode cX3_takeFrom 15 = .ok (.iload_n 2, 1) := by decide +kernel
theorem dX3_takeFrom_16 : decode cX3_takeFrom 16 = .ok (.aload_n 1, 1) := by decide +kernel
theorem dX3_takeFrom_17 : decode cX3_takeFrom 17 = .ok (.iload_n 2, 1) := by decide +kernel
theorem dX3_takeFrom_18 : decode cX3_takeFrom 18 = .ok (.invokevirtual 19, 3) := by decide +kernel
theorem dX3_takeFrom_21 : decode cX3_takeFrom 21 = .ok (.iastore, 1) := by decide +kernel
theorem dX3_takeFrom_22 : decode cX3_takeFrom 22 = .ok (.iinc 2 1, 3) := by decide +kernel
theorem dX3_takeFrom_25 : decode cX3_takeFrom 25 = .ok (.goto (-23), 3) := by decide +kernel
theorem dX3_takeFrom_28 : decode cX3_takeFrom 28 = .ok (.return_, 1) := by decide +kernel
theorem dX3_isLike_0 : decode cX3_isLike 0 = .ok (.iconst 0, 1) := by decide +kernel
theorem dX3_isLike_1 : decode cX3_isLike 1 = .ok (.istore_n 2, 1) := by decide +kernel
theorem dX3_isLike_2 : decode cX3_isLike 2 = .ok (.iload_n 2, 1) := by decide +kernel
theorem dX3_isLike_3 : decode cX3_isLike 3 = .ok (.aload_n 0, 1) := by decide +kernel
theorem dX3_isLike_4 : decode cX3_isLike 4 = .ok (.getfield 13, 3) := by decide +kernel
theorem dX3_isLike_7 : decode cX3_isLike 7 = .ok (.arraylength, 1) := by decide +kernel
theorem dX3_isLike_8 : decode cX3_isLike 8 = .ok (.if_icmp .ge 25, 3) := by decide +kernel
theorem dX3_isLike_11 : decode cX3_isLike 11 = .ok (.aload_n 0, 1) := by decide +kernel
theorem dX3_isLike_12 : decode cX3_isLike 12 = .ok (.getfield 13, 3) := by decide +kernel
theorem dX3_isLike_15 : decode cX3_isLike 15 = .ok (.iload_n 2, 1) := by decide +kernel
theorem dX3_isLike_16 : decode cX3_isLike 16 = .ok (.iaload, 1) := by decide +kernel
theorem dX3_isLike_17 : decode cX3_isLike 17 = .ok (.aload_n 1, 1) := by decide +kernel
theorem dX3_isLike_18 : decode cX3_isLike 18 = .ok (.iload_n 2, 1) := by decide +kernel
theorem dX3_isLike_19 : decode cX3_isLike 19 = .ok (.invokevirtual 19, 3) := by decide +kernel
theorem dX3_isLike_22 : decode cX3_isLike 22 = .ok (.if_icmp .eq 5, 3) := by decide +kernel
theorem dX3_isLike_25 : decode cX3_isLike 25 = .ok (.iconst 0, 1) := by decide +kernel
theorem dX3_isLike_26 : decode cX3_isLike 26 = .ok (.ireturn, 1) := by decide +kernel
theorem dX3_isLike_27 : decode cX3_isLike 27 = .ok (.iinc 2 1, 3) := by decide +kernel
theorem dX3_isLike_30 : decode cX3_isLike 30 = .ok (.goto (-28), 3) := by decide +kernel
theorem dX3_isLike_33 : decode cX3_isLike 33 = .ok (.iconst 1, 1) := by decide +kernel
theorem dX3_isLike_34 : decode cX3_isLike 34 = .ok (.ireturn, 1) := by decide +kernel
theorem dX4_init_0 : decode cX4_init 0 = .ok (.aload_n 0, 1) := by decide +kernel
theorem dX4_init_1 : decode cX4_init 1 = .ok (.invokespecial 3, 3) := by decide +kernel
theorem dX4_init_4 : decode cX4_init 4 = .ok (.aload_n 0, 1) := by decide +kernel
theorem dX4_init_5 : decode cX4_init 5 = .ok (.new 9, 3) := by decide +kernel
theorem dX4_init_8 : decode cX4_init 8 = .ok (.dup, 1) := by decide +kernel
theorem dX4_init_9 : decode cX4_init 9 = .ok (.bipush 6, 2) := by decide +kernel
theorem dX4_init_11 : decode cX4_init 11 = .ok (.invokespecial 11, 3) := by decide +kernel
theorem dX4_init_14 : decode cX4_init 14 = .ok (.putfield 14, 3) := by decide +kernel
theorem dX4_init_17 : decode cX4_init 17 = .ok (.aload_n 0, 1) := by decide +kernel
theorem dX4_init_18 : decode cX4_init 18 = .ok (.new 9, 3) := by decide +kernel
theorem dX4_init_21 : decode cX4_init 21 = .ok (.dup, 1) := by decide +kernel
theorem dX4_init_22 : decode cX4_init 22 = .ok (.bipush 6, 2) := by decide +kernel
theorem dX4_init_24 : decode cX4_init 24 = .ok (.invokespecial 11, 3) := by decide +kernel
theorem dX4_init_27 : decode cX4_init 27 = .ok (.putfield 20, 3) := by decide +kernel
theorem dX4_init_30 : decode cX4_init 30 = .ok (.return_, 1) := by decide +kernel
theorem dX4_goThrough_0 : decode cX4_goThrough 0 = .ok (.aload_n 0, 1) := by decide +kernel
theorem dX4_goThrough_1 : decode cX4_goThrough 1 = .ok (.iload_n 2, 1) := by decide +kernel
theorem dX4_goThrough_2 : decode cX4_goThrough 2 = .ok (.putfield 23, 3) := by decide +kernel
theorem dX4_goThrough_5 : decode cX4_goThrough 5 = .ok (.aload_n 0, 1) := by decide +kernel
theorem dX4_goThrough_6 : decode cX4_goThrough 6 = .ok (.iload_n 3, 1) := by decide +kernel
theorem dX4_goThrough_7 : decode cX4_goThrough 7 = .ok (.putfield 27, 3) := by decide +kernel
theorem dX4_goThrough_10 : decode cX4_goThrough 10 = .ok (.aload_n 0, 1) := by decide +kernel
theorem dX4_goThrough_11 : decode cX4_goThrough 11 = .ok (.iload 4, 2) := by decide +kernel
theorem dX4_goThrough_13 : decode cX4_goThrough 13 = .ok (.putfield 30, 3) := by decide +kernel
theorem dX4_goThrough_16 : decode cX4_goThrough 16 = .ok (.aload_n 0, 1) := by decide +kernel
theorem dX4_goThrough_17 : decode cX4_goThrough 17 = .ok (.aload_n 1, 1) := by decide +kernel
theorem dX4_goThrough_18 : decode cX4_goThrough 18 = .ok (.invokevirtual 33, 3) := by decide +kernel
theorem dX4_goThrough_21 : decode cX4_goThrough 21 = .ok (.putfield 39, 3) := by decide +kernel
theorem dX4_goThrough_24 : decode cX4_goThrough 24 = .ok (.aload_n 0, 1) := by decide +kernel
theorem dX4_goThrough_25 : decode cX4_goThrough 25 = .ok (.aload_n 0, 1) := by decide +kernel
theorem dX4_goThrough_26 : decode cX4_goThrough 26 = .ok (.getfield 39, 3) := by decide +kernel
theorem dX4_goThrough_29 : decode cX4_goThrough 29 = .ok (.putfield 42, 3) := by decide +kernel
theorem dX4_goThrough_32 : decode cX4_goThrough 32 = .ok (.aload_n 0, 1) := by decide +kernel
theorem dX4_goThrough_33 : decode cX4_goThrough 33 = .ok (.aload_n 0, 1) := by decide +kernel
theorem dX4_goThrough_34 : decode cX4_goThrough 34 = .ok (.getfield 39, 3) := by decide +kernel
theorem dX4_goThrough_37 : decode cX4_goThrough 37 = .ok (.putfield 45, 3) := by decide +kernel
theorem dX4_goThrough_40 : decode cX4_goThrough 40 = .ok (.aload_n 0, 1) := by decide +kernel
theorem dX4_goThrough_41 : decode cX4_goThrough 41 = .ok (.iconst 0, 1) := by decide +kernel
theorem dX4_goThrough_42 : decode cX4_goThrough 42 = .ok (.putfield 48, 3) := by decide +kernel
theorem dX4_goThrough_45 : decode cX4_goThrough 45 = .ok (.aload_n 0, 1) := by decide +kernel
theorem dX4_goThrough_46 : decode cX4_goThrough 46 = .ok (.iconst 0, 1) := by decide +kernel
theorem dX4_goThrough_47 : decode cX4_goThrough 47 = .ok (.putfield 51, 3) := by decide +kernel
theorem dX4_goThrough_50 : decode cX4_goThrough 50 = .ok (.aload_n 0, 1) := by decide +kernel
theorem dX4_goThrough_51 : decode cX4_goThrough 51 = .ok (.iconst 0, 1) := by decide +kernel
theorem dX4_goThrough_52 : decode cX4_goThrough 52 = .ok (.putfield 54, 3) := by decide +kernel
theorem dX4_goThrough_55 : decode cX4_goThrough 55 = .ok (.aload_n 0, 1) := by decide +kernel
theorem dX4_goThrough_56 : decode cX4_goThrough 56 = .ok (.aload_n 1, 1) := by decide +kernel
theorem dX4_goThrough_57 : decode cX4_goThrough 57 = .ok (.iconst 0, 1) := by decide +kernel
theorem dX4_goThrough_58 : decode cX4_goThrough 58 = .ok (.aload_n 1, 1) := by decide +kernel
theorem dX4_goThrough_59 : decode cX4_goThrough 59 = .ok (.invokevirtual 57, 3) := by decide +kernel
theorem dX4_goThrough_62 : decode cX4_goThrough 62 = .ok (.invokevirtual 60, 3) := by decide +kernel
theorem dX4_goThrough_65 : decode cX4_goThrough 65 = .ok (.return_, 1) := by decide +kernel
theorem dX4_goOn_0 : decode cX4_goOn 0 = .ok (.iload_n 3, 1) := by decide +kernel
theorem dX4_goOn_1 : decode cX4_goOn 1 = .ok (.aload_n 0, 1) := by decide +kernel
theorem dX4_goOn_2 : decode cX4_goOn 2 = .ok (.getfield 39, 3) := by decide +kernel
theorem dX4_goOn_5 : decode cX4_goOn 5 = .ok (.if_icmp .ge 9, 3) := by decide +kernel
theorem dX4_goOn_8 : decode cX4_goOn 8 = .ok (.iload_n 2, 1) := by decide +kernel
theorem dX4_goOn_9 : decode cX4_goOn 9 = .ok (.bipush 6, 2) := by decide +kernel
theorem dX4_goOn_11 : decode cX4_goOn 11 = .ok (.if_icmp .le 4, 3) := by decide +kernel
theorem dX4_goOn_14 : decode cX4_goOn 14 = .ok (.return_, 1) := by decide +kernel
theorem dX4_goOn_15 : decode cX4_goOn 15 = .ok (.iload_n 2, 1) := by decide +kernel
theorem dX4_goOn_16 : decode cX4_goOn 16 = .ok (.aload_n 1, 1) := by decide +kernel
theorem dX4_goOn_17 : decode cX4_goOn 17 = .ok (.invokevirtual 64, 3) := by decide +kernel
theorem dX4_goOn_20 : decode cX4_goOn 20 = .ok (.if_icmp .lt 10, 3) := by decide +kernel
theorem dX4_goOn_23 : decode cX4_goOn 23 = .ok (.aload_n 0, 1) := by decide +kernel
theorem dX4_goOn_24 : decode cX4_goOn 24 = .ok (.aload_n 1, 1) := by decide +kernel
theorem dX4_goOn_25 : decode cX4_goOn 25 = .ok (.iload_n 3, 1) := by decide +kernel
theorem dX4_goOn_26 : decode cX4_goOn 26 = .ok (.invokevirtual 67, 3) := by decide +kernel
theorem dX4_goOn_29 : decode cX4_goOn 29 = .ok (.return_, 1) := by decide +kernel
theorem dX4_goOn_30 : decode cX4_goOn 30 = .ok (.iconst 0, 1) := by decide +kernel
theorem dX4_goOn_31 : decode cX4_goOn 31 = .ok (.istore 4, 2) := by decide +kernel
theorem dX4_goOn_33 : decode cX4_goOn 33 = .ok (.iload 4, 2) := by decide +kernel
theorem dX4_goOn_35 : decode cX4_goOn 35 = .ok (.aload_n 1, 1) := by decide +kernel
theorem dX4_goOn_36 : decode cX4_goOn 36 = .ok (.iload_n 2, 1) := by decide +kernel
theorem dX4_goOn_37 : decode cX4_goOn 37 = .ok (.invokevirtual 71, 3) := by decide +kernel
theorem dX4_goOn_40 : decode cX4_goOn 40 = .ok (.if_icmp .ge 35, 3) := by decide +kernel
theorem dX4_goOn_43 : decode cX4_goOn 43 = .ok (.iload_n 2, 1) := by decide +kernel
theorem dX4_goOn_44 : decode cX4_goOn 44 = .ok (.aload_n 0, 1) := by decide +kernel
theorem dX4_goOn_45 : decode cX4_goOn 45 = .ok (.getfield 23, 3) := by decide +kernel
theorem dX4_goOn_48 : decode cX4_goOn 48 = .ok (.if_icmp .ne 12, 3) := by decide +kernel
theorem dX4_goOn_51 : decode cX4_goOn 51 = .ok (.iload 4, 2) := by decide +kernel
theorem dX4_goOn_53 : decode cX4_goOn 53 = .ok (.aload_n 0, 1) := by decide +kernel
theorem dX4_goOn_54 : decode cX4_goOn 54 = .ok (.getfield 27, 3) := by decide +kernel
theorem dX4_goOn_57 : decode cX4_goOn 57 = .ok (.if_icmp .ne 12, 3) := by decide +kernel
theorem dX4_goOn_60 : decode cX4_goOn 60 = .ok (.aload_n 0, 1) := by decide +kernel
theorem dX4_goOn_61 : decode cX4_goOn 61 = .ok (.aload_n 1, 1) := by decide +kernel
theorem dX4_goOn_62 : decode cX4_goOn 62 = .ok (.iload_n 2, 1) := by decide +kernel
theorem dX4_goOn_63 : decode cX4_goOn 63 = .ok (.iload 4, 2) := by decide +kernel
theorem dX4_goOn_65 : decode cX4_goOn 65 = .ok (.iload_n 3, 1) := by decide +kernel
theorem dX4_goOn_66 : decode cX4_goOn 66 = .ok (.invokevirtual 75, 3) := by decide +kernel
theorem dX4_goOn_69 : decode cX4_goOn 69 = .ok (.iinc 4 1, 3) := by decide +kernel
theorem dX4_goOn_72 : decode cX4_goOn 72 = .ok (.goto (-39), 3) := by decide +kernel
theorem dX4_goOn_75 : decode cX4_goOn 75 = .ok (.return_, 1) := by decide +kernel
theorem dX4_take_0 : decode cX4_take 0 = .ok (.aload_n 0, 1) := by decide +kernel
theorem dX4_take_1 : decode cX4_take 1 = .ok (.getfield 14, 3) := by decide +kernel
theorem dX4_take_4 : decode cX4_take 4 = .ok (.iload_n 2, 1) := by decide +kernel
theorem dX4_take_5 : decode cX4_take 5 = .ok (.iload_n 3, 1) := by decide +kernel
theorem dX4_take_6 : decode cX4_take 6 = .ok (.invokevirtual 79, 3) := by decide +kernel
theorem dX4_take_9 : decode cX4_take 9 = .ok (.aload_n 0, 1) := by decide +kernel
theorem dX4_take_10 : decode cX4_take 10 = .ok (.aload_n 1, 1) := by decide +kernel
theorem dX4_take_11 : decode cX4_take 11 = .ok (.iload_n 2, 1) := by decide +kernel
theorem dX4_take_12 : decode cX4_take 12 = .ok (.iconst 1, 1) := by decide +kernel
theorem dX4_take_13 : decode cX4_take 13 = .ok (.iadd, 1) := by decide +kernel
theorem dX4_take_14 : decode cX4_take 14 = .ok (.aload_n 1, 1) := by decide +kernel
theorem dX4_take_15 : decode cX4_take 15 = .ok (.iload 4, 2) := by decide +kernel
theorem dX4_take_17 : decode cX4_take 17 = .ok (.aload_n 1, 1) := by decide +kernel
theorem dX4_take_18 : decode cX4_take 18 = .ok (.aload_n 0, 1) := by decide +kernel
theorem dX4_take_19 : decode cX4_take 19 = .ok (.getfield 14, 3) := by decide +kernel
theorem dX4_take_22 : decode cX4_take 22 = .ok (.iload_n 2, 1) := by decide +kernel
theorem dX4_take_23 : decode cX4_take 23 = .ok (.iload_n 2, 1) := by decide +kernel
theorem dX4_take_24 : decode cX4_take 24 = .ok (.iload_n 3, 1) := by decide +kernel
theorem dX4_take_25 : decode cX4_take 25 = .ok (.aload_n 0, 1) := by decide +kernel
theorem dX4_take_26 : decode cX4_take 26 = .ok (.getfield 30, 3) := by decide +kernel
theorem dX4_take_29 : decode cX4_take 29 = .ok (.invokevirtual 83, 3) := by decide +kernel
theorem dX4_take_32 : decode cX4_take 32 = .ok (.invokevirtual 87, 3) := by decide +kernel
theorem dX4_take_35 : decode cX4_take 35 = .ok (.invokevirtual 60, 3) := by decide +kernel
theorem dX4_take_38 : decode cX4_take 38 = .ok (.return_, 1) := by decide +kernel
theorem dX4_note_0 : decode cX4_note 0 = .ok (.aload_n 0, 1) := by decide +kernel
theorem dX4_note_1 : decode cX4_note 1 = .ok (.aload_n 1, 1) := by decide +kernel
theorem dX4_note_2 : decode cX4_note 2 = .ok (.invokevirtual 64, 3) := by decide +kernel
theorem dX4_note_5 : decode cX4_note 5 = .ok (.invokevirtual 91, 3) := by decide +kernel
theorem dX4_note_8 : decode cX4_note 8 = .ok (.istore_n 3, 1) := by decide +kernel
theorem dX4_note_9 : decode cX4_note 9 = .ok (.aload_n 0, 1) := by decide +kernel
theorem dX4_note_10 : decode cX4_note 10 = .ok (.dup, 1) := by decide +kernel
theorem dX4_note_11 : decode cX4_note 11 = .ok (.getfield 51, 3) := by decide +kernel
theorem dX4_note_14 : decode cX4_note 14 = .ok (.iconst 1, 1) := by decide +kernel
theorem dX4_note_15 : decode cX4_note 15 = .ok (.iadd, 1) := by decide +kernel
theorem dX4_note_16 : decode cX4_note 16 = .ok (.putfield 51, 3) := by decide +kernel
theorem dX4_note_19 : decode cX4_note 19 = .ok (.iload_n 2, 1) := by decide +kernel
theorem dX4_note_20 : decode cX4_note 20 = .ok (.aload_n 0, 1) := by decide +kernel
theorem dX4_note_21 : decode cX4_note 21 = .ok (.getfield 42, 3) := by decide +kernel
theorem dX4_note_24 : decode cX4_note 24 = .ok (.if_icmp .ge 40, 3) := by decide +kernel
theorem dX4_note_27 : decode cX4_note 27 = .ok (.aload_n 0, 1) := by decide +kernel
theorem dX4_note_28 : decode cX4_note 28 = .ok (.aload_n 0, 1) := by decide +kernel
theorem dX4_note_29 : decode cX4_note 29 = .ok (.getfield 42, 3) := by decide +kernel
theorem dX4_note_32 : decode cX4_note 32 = .ok (.putfield 45, 3) := by decide +kernel
theorem dX4_note_35 : decode cX4_note 35 = .ok (.aload_n 0, 1) := by decide +kernel
theorem dX4_note_36 : decode cX4_note 36 = .ok (.iload_n 2, 1) := by decide +kernel
theorem dX4_note_37 : decode cX4_note 37 = .ok (.putfield 42, 3) := by decide +kernel
theorem dX4_note_40 : decode cX4_note 40 = .ok (.aload_n 0, 1) := by decide +kernel
theorem dX4_note_41 : decode cX4_note 41 = .ok (.iconst 1, 1) := by decide +kernel
theorem dX4_note_42 : decode cX4_note 42 = .ok (.putfield 48, 3) := by decide +kernel
theorem dX4_note_45 : decode cX4_note 45 = .ok (.aload_n 0, 1) := by decide +kernel
theorem dX4_note_46 : decode cX4_note 46 = .ok (.iload_n 3, 1) := by decide +kernel
theorem dX4_note_47 : decode cX4_note 47 = .ok (.putfield 54, 3) := by decide +kernel
theorem dX4_note_50 : decode cX4_note 50 = .ok (.aload_n 0, 1) := by decide +kernel
theorem dX4_note_51 : decode cX4_note 51 = .ok (.getfield 20, 3) := by decide +kernel
theorem dX4_note_54 : decode cX4_note 54 = .ok (.aload_n 0, 1) := by decide +kernel
theorem dX4_note_55 : decode cX4_note 55 = .ok (.getfield 14, 3) := by decide +kernel
theorem dX4_note_58 : decode cX4_note 58 = .ok (.invokevirtual 94, 3) := by decide +kernel
theorem dX4_note_61 : decode cX4_note 61 = .ok (.goto 46, 3) := by decide +kernel
theorem dX4_note_64 : decode cX4_note 64 = .ok (.iload_n 2, 1) := by decide +kernel
theorem dX4_note_65 : decode cX4_note 65 = .ok (.aload_n 0, 1) := by decide +kernel
theorem dX4_note_66 : decode cX4_note 66 = .ok (.getfield 42, 3) := by decide +kernel
theorem dX4_note_69 : decode cX4_note 69 = .ok (.if_icmp .ne 26, 3) := by decide +kernel
theorem dX4_note_72 : decode cX4_note 72 = .ok (.aload_n 0, 1) := by decide +kernel
theorem dX4_note_73 : decode cX4_note 73 = .ok (.dup, 1) := by decide +kernel
theorem dX4_note_74 : decode cX4_note 74 = .ok (.getfield 48, 3) := by decide +kernel
theorem dX4_note_77 : decode cX4_note 77 = .ok (.iconst 1, 1) := by decide +kernel
theorem dX4_note_78 : decode cX4_note 78 = .ok (.iadd, 1) := by decide +kernel
theorem dX4_note_79 : decode cX4_note 79 = .ok (.putfield 48, 3) := by decide +kernel
theorem dX4_note_82 : decode cX4_note 82 = .ok (.aload_n 0, 1) := by decide +kernel
theorem dX4_note_83 : decode cX4_note 83 = .ok (.dup, 1) := by decide +kernel
theorem dX4_note_84 : decode cX4_note 84 = .ok (.getfield 54, 3) := by decide +kernel
theorem dX4_note_87 : decode cX4_note 87 = .ok (.iload_n 3, 1) := by decide +kernel
theorem dX4_note_88 : decode cX4_note 88 = .ok (.iand, 1) := by decide +kernel
theorem dX4_note_89 : decode cX4_note 89 = .ok (.putfield 54, 3) := by decide +kernel
theorem dX4_note_92 : decode cX4_note 92 = .ok (.goto 15, 3) := by decide +kernel
theorem dX4_note_95 : decode cX4_note 95 = .ok (.aload_n 0, 1) := by decide +kernel
theorem dX4_note_96 : decode cX4_note 96 = .ok (.aload_n 0, 1) := by decide +kernel
theorem dX4_note_97 : decode cX4_note 97 = .ok (.getfield 45, 3) := by decide +kernel
theorem dX4_note_100 : decode cX4_note 100 = .ok (.iload_n 2, 1) := by decide +kernel
theorem dX4_note_101 : decode cX4_note 101 = .ok (.invokestatic 98, 3) := by decide +kernel
theorem dX4_note_104 : decode cX4_note 104 = .ok (.putfield 45, 3) := by decide +kernel
theorem dX4_note_107 : decode cX4_note 107 = .ok (.return_, 1) := by decide +kernel
theorem dX4_chosenBits_0 : decode cX4_chosenBits 0 = .ok (.iconst 0, 1) := by decide +kernel
theorem dX4_chosenBits_1 : decode cX4_chosenBits 1 = .ok (.istore_n 2, 1) := by decide +kernel
theorem dX4_chosenBits_2 : decode cX4_chosenBits 2 = .ok (.iconst 0, 1) := by decide +kernel
theorem dX4_chosenBits_3 : decode cX4_chosenBits 3 = .ok (.istore_n 3, 1) := by decide +kernel
theorem dX4_chosenBits_4 : decode cX4_chosenBits 4 = .ok (.iload_n 3, 1) := by decide +kernel
theorem dX4_chosenBits_5 : decode cX4_chosenBits 5 = .ok (.iload_n 1, 1) := by decide +kernel
theorem dX4_chosenBits_6 : decode cX4_chosenBits 6 = .ok (.if_icmp .ge 26, 3) := by decide +kernel
theorem dX4_chosenBits_9 : decode cX4_chosenBits 9 = .ok (.iload_n 2, 1) := by decide +kernel
theorem dX4_chosenBits_10 : decode cX4_chosenBits 10 = .ok (.iconst 1, 1) := by decide +kernel
theorem dX4_chosenBits_11 : decode cX4_chosenBits 11 = .ok (.iconst 4, 1) := by decide +kernel
theorem dX4_chosenBits_12 : decode cX4_chosenBits 12 = .ok (.iload_n 3, 1) := by decide +kernel
theorem dX4_chosenBits_13 : decode cX4_chosenBits 13 = .ok (.imul, 1) := by decide +kernel
theorem dX4_chosenBits_14 : decode cX4_chosenBits 14 = .ok (.aload_n 0, 1) := by decide +kernel
theorem dX4_chosenBits_15 : decode cX4_chosenBits 15 = .ok (.getfield 14, 3) := by decide +kernel
theorem dX4_chosenBits_18 : decode cX4_chosenBits 18 = .ok (.iload_n 3, 1) := by decide +kernel
theorem dX4_chosenBits_19 : decode cX4_chosenBits 19 = .ok (.invokevirtual 103, 3) := by decide +kernel
theorem dX4_chosenBits_22 : decode cX4_chosenBits 22 = .ok (.iadd, 1) := by decide +kernel
theorem dX4_chosenBits_23 : decode cX4_chosenBits 23 = .ok (.ishl, 1) := by decide +kernel
theorem dX4_chosenBits_24 : decode cX4_chosenBits 24 = .ok (.ior, 1) := by decide +kernel
theorem dX4_chosenBits_25 : decode cX4_chosenBits 25 = .ok (.istore_n 2, 1) := by decide +kernel
theorem dX4_chosenBits_26 : decode cX4_chosenBits 26 = .ok (.iinc 3 1, 3) := by decide +kernel
theorem dX4_chosenBits_29 : decode cX4_chosenBits 29 = .ok (.goto (-25), 3) := by decide +kernel
theorem dX4_chosenBits_32 : decode cX4_chosenBits 32 = .ok (.iload_n 2, 1) := by decide +kernel
theorem dX4_chosenBits_33 : decode cX4_chosenBits 33 = .ok (.ireturn, 1) := by decide +kernel
theorem dX4_hasFound_0 : decode cX4_hasFound 0 = .ok (.aload_n 0, 1) := by decide +kernel
theorem dX4_hasFound_1 : decode cX4_hasFound 1 = .ok (.getfield 48, 3) := by decide +kernel
theorem dX4_hasFound_4 : decode cX4_hasFound 4 = .ok (.ifCond .le 7, 3) := by decide +kernel
theorem dX4_hasFound_7 : decode cX4_hasFound 7 = .ok (.iconst 1, 1) := by decide +kernel
theorem dX4_hasFound_8 : decode cX4_hasFound 8 = .ok (.goto 4, 3) := by decide +kernel
theorem dX4_hasFound_11 : decode cX4_hasFound 11 = .ok (.iconst 0, 1) := by decide +kernel
theorem dX4_hasFound_12 : decode cX4_hasFound 12 = .ok (.ireturn, 1) := by decide +kernel
theorem dX4_hasSecond_0 : decode cX4_hasSecond 0 = .ok (.aload_n 0, 1) := by decide +kernel
theorem dX4_hasSecond_1 : decode cX4_hasSecond 1 = .ok (.getfield 45, 3) := by decide +kernel
theorem dX4_hasSecond_4 : decode cX4_hasSecond 4 = .ok (.aload_n 0, 1) := by decide +kernel
theorem dX4_hasSecond_5 : decode cX4_hasSecond 5 = .ok (.getfield 39, 3) := by decide +kernel
theorem dX4_hasSecond_8 : decode cX4_hasSecond 8 = .ok (.if_icmp .ge 7, 3) := by decide +kernel
theorem dX4_hasSecond_11 : decode cX4_hasSecond 11 = .ok (.iconst 1, 1) := by decide +kernel
theorem dX4_hasSecond_12 : decode cX4_hasSecond 12 = .ok (.goto 4, 3) := by decide +kernel
theorem dX4_hasSecond_15 : decode cX4_hasSecond 15 = .ok (.iconst 0, 1) := by decide +kernel
theorem dX4_hasSecond_16 : decode cX4_hasSecond 16 = .ok (.ireturn, 1) := by decide +kernel
theorem dX4_leastTotal_0 : decode cX4_leastTotal 0 = .ok (.aload_n 0, 1) := by decide +kernel
theorem dX4_leastTotal_1 : decode cX4_leastTotal 1 = .ok (.getfield 42, 3) := by decide +kernel
theorem dX4_leastTotal_4 : decode cX4_leastTotal 4 = .ok (.ireturn, 1) := by decide +kernel
theorem dX4_waysOfLeast_0 : decode cX4_waysOfLeast 0 = .ok (.aload_n 0, 1) := by decide +kernel
theorem dX4_waysOfLeast_1 : decode cX4_waysOfLeast 1 = .ok (.getfield 48, 3) := by decide +kernel
theorem dX4_waysOfLeast_4 : decode cX4_waysOfLeast 4 = .ok (.ireturn, 1) := by decide +kernel
theorem dX4_secondTotal_0 : decode cX4_secondTotal 0 = .ok (.aload_n 0, 1) := by decide +kernel
theorem dX4_secondTotal_1 : decode cX4_secondTotal 1 = .ok (.getfield 45, 3) := by decide +kernel
theorem dX4_secondTotal_4 : decode cX4_secondTotal 4 = .ok (.ireturn, 1) := by decide +kernel
theorem dX4_choicesBelowTop_0 : decode cX4_choicesBelowTop 0 = .ok (.aload_n 0, 1) := by decide +kernel
theorem dX4_choicesBelowTop_1 : decode cX4_choicesBelowTop 1 = .ok (.getfield 51, 3) := by decide +kernel
theorem dX4_choicesBelowTop_4 : decode cX4_choicesBelowTop 4 = .ok (.ireturn, 1) := by decide +kernel
theorem dX4_commonValues_0 : decode cX4_commonValues 0 = .ok (.aload_n 0, 1) := by decide +kernel
theorem dX4_commonValues_1 : decode cX4_commonValues 1 = .ok (.getfield 54, 3) := by decide +kernel
theorem dX4_commonValues_4 : decode cX4_commonValues 4 = .ok (.ireturn, 1) := by decide +kernel
theorem dX4_firstValueOf_0 : decode cX4_firstValueOf 0 = .ok (.aload_n 0, 1) := by decide +kernel
theorem dX4_firstValueOf_1 : decode cX4_firstValueOf 1 = .ok (.getfield 20, 3) := by decide +kernel
theorem dX4_firstValueOf_4 : decode cX4_firstValueOf 4 = .ok (.iload_n 1, 1) := by decide +kernel
theorem dX4_firstValueOf_5 : decode cX4_firstValueOf 5 = .ok (.invokevirtual 103, 3) := by decide +kernel
theorem dX4_firstValueOf_8 : decode cX4_firstValueOf 8 = .ok (.ireturn, 1) := by decide +kernel
theorem dX5_init_0 : decode cX5_init 0 = .ok (.aload_n 0, 1) := by decide +kernel
theorem dX5_init_1 : decode cX5_init 1 = .ok (.invokespecial 3, 3) := by decide +kernel
theorem dX5_init_4 : decode cX5_init 4 = .ok (.aload_n 0, 1) := by decide +kernel
theorem dX5_init_5 : decode cX5_init 5 = .ok (.new 9, 3) := by decide +kernel
theorem dX5_init_8 : decode cX5_init 8 = .ok (.dup, 1) := by decide +kernel
theorem dX5_init_9 : decode cX5_init 9 = .ok (.sipush 169, 3) := by decide +kernel
theorem dX5_init_12 : decode cX5_init 12 = .ok (.invokespecial 11, 3) := by decide +kernel
theorem dX5_init_15 : decode cX5_init 15 = .ok (.putfield 14, 3) := by decide +kernel
theorem dX5_init_18 : decode cX5_init 18 = .ok (.aload_n 0, 1) := by decide +kernel
theorem dX5_init_19 : decode cX5_init 19 = .ok (.new 9, 3) := by decide +kernel
theorem dX5_init_22 : decode cX5_init 22 = .ok (.dup, 1) := by decide +kernel
theorem dX5_init_23 : decode cX5_init 23 = .ok (.iconst 4, 1) := by decide +kernel
theorem dX5_init_24 : decode cX5_init 24 = .ok (.invokespecial 11, 3) := by decide +kernel
theorem dX5_init_27 : decode cX5_init 27 = .ok (.putfield 20, 3) := by decide +kernel
theorem dX5_init_30 : decode cX5_init 30 = .ok (.aload_n 0, 1) := by decide +kernel
theorem dX5_init_31 : decode cX5_init 31 = .ok (.new 9, 3) := by decide +kernel
theorem dX5_init_34 : decode cX5_init 34 = .ok (.dup, 1) := by decide +kernel
theorem dX5_init_35 : decode cX5_init 35 = .ok (.iconst 4, 1) := by decide +kernel
theorem dX5_init_36 : decode cX5_init 36 = .ok (.invokespecial 11, 3) := by decide +kernel
theorem dX5_init_39 : decode cX5_init 39 = .ok (.putfield 23, 3) := by decide +kernel
theorem dX5_init_42 : decode cX5_init 42 = .ok (.return_, 1) := by decide +kernel
theorem dX5_doTillSettled_0 : decode cX5_doTillSettled 0 = .ok (.iconst 0, 1) := by decide +kernel
theorem dX5_doTillSettled_1 : decode cX5_doTillSettled 1 = .ok (.istore_n 3, 1) := by decide +kernel
theorem dX5_doTillSettled_2 : decode cX5_doTillSettled 2 = .ok (.iload_n 3, 1) := by decide +kernel
theorem dX5_doTillSettled_3 : decode cX5_doTillSettled 3 = .ok (.bipush 20, 2) := by decide +kernel
theorem dX5_doTillSettled_5 : decode cX5_doTillSettled 5 = .ok (.if_icmp .ge 36, 3) := by decide +kernel
theorem dX5_doTillSettled_8 : decode cX5_doTillSettled 8 = .ok (.aload_n 1, 1) := by decide +kernel
theorem dX5_doTillSettled_9 : decode cX5_doTillSettled 9 = .ok (.aload_n 0, 1) := by decide +kernel
theorem dX5_doTillSettled_10 : decode cX5_doTillSettled 10 = .ok (.getfield 14, 3) := by decide +kernel
theorem dX5_doTillSettled_13 : decode cX5_doTillSettled 13 = .ok (.invokevirtual 26, 3) := by decide +kernel
theorem dX5_doTillSettled_16 : decode cX5_doTillSettled 16 = .ok (.aload_n 0, 1) := by decide +kernel
theorem dX5_doTillSettled_17 : decode cX5_doTillSettled 17 = .ok (.aload_n 1, 1) := by decide +kernel
theorem dX5_doTillSettled_18 : decode cX5_doTillSettled 18 = .ok (.iload_n 2, 1) := by decide +kernel
theorem dX5_doTillSettled_19 : decode cX5_doTillSettled 19 = .ok (.invokevirtual 32, 3) := by decide +kernel
theorem dX5_doTillSettled_22 : decode cX5_doTillSettled 22 = .ok (.aload_n 1, 1) := by decide +kernel
theorem dX5_doTillSettled_23 : decode cX5_doTillSettled 23 = .ok (.aload_n 0, 1) := by decide +kernel
theorem dX5_doTillSettled_24 : decode cX5_doTillSettled 24 = .ok (.getfield 14, 3) := by decide +kernel
theorem dX5_doTillSettled_27 : decode cX5_doTillSettled 27 = .ok (.invokevirtual 36, 3) := by decide +kernel
theorem dX5_doTillSettled_30 : decode cX5_doTillSettled 30 = .ok (.ifCond .eq 5, 3) := by decide +kernel
theorem dX5_doTillSettled_33 : decode cX5_doTillSettled 33 = .ok (.iload_n 3, 1) := by decide +kernel
theorem dX5_doTillSettled_34 : decode cX5_doTillSettled 34 = .ok (.ireturn, 1) := by decide +kernel
theorem dX5_doTillSettled_35 : decode cX5_doTillSettled 35 = .ok (.iinc 3 1, 3) := by decide +kernel
theorem dX5_doTillSettled_38 : decode cX5_doTillSettled 38 = .ok (.goto (-36), 3) := by decide +kernel
theorem dX5_doTillSettled_41 : decode cX5_doTillSettled 41 = .ok (.bipush 20, 2) := by decide +kernel
theorem dX5_doTillSettled_43 : decode cX5_doTillSettled 43 = .ok (.ireturn, 1) := by decide +kernel
theorem dX5_doOne_0 : decode cX5_doOne 0 = .ok (.iload_n 2, 1) := by decide +kernel
theorem dX5_doOne_1 : decode cX5_doOne 1 = .ok (.iconst 1, 1) := by decide +kernel
theorem dX5_doOne_2 : decode cX5_doOne 2 = .ok (.if_icmp .ne 10, 3) := by decide +kernel
theorem dX5_doOne_5 : decode cX5_doOne 5 = .ok (.aload_n 1, 1) := by decide +kernel
theorem dX5_doOne_6 : decode cX5_doOne 6 = .ok (.invokestatic 40, 3) := by decide +kernel
theorem dX5_doOne_9 : decode cX5_doOne 9 = .ok (.goto 13, 3) := by decide +kernel
theorem dX5_doOne_12 : decode cX5_doOne 12 = .ok (.iload_n 2, 1) := by decide +kernel
theorem dX5_doOne_13 : decode cX5_doOne 13 = .ok (.iconst 2, 1) := by decide +kernel
theorem dX5_doOne_14 : decode cX5_doOne 14 = .ok (.if_icmp .ne 8, 3) := by decide +kernel
theorem dX5_doOne_17 : decode cX5_doOne 17 = .ok (.aload_n 0, 1) := by decide +kernel
theorem dX5_doOne_18 : decode cX5_doOne 18 = .ok (.aload_n 1, 1) := by decide +kernel
theorem dX5_doOne_19 : decode cX5_doOne 19 = .ok (.invokevirtual 44, 3) := by decide +kernel
theorem dX5_doOne_22 : decode cX5_doOne 22 = .ok (.aload_n 1, 1) := by decide +kernel
theorem dX5_doOne_23 : decode cX5_doOne 23 = .ok (.invokestatic 47, 3) := by decide +kernel
theorem dX5_doOne_26 : decode cX5_doOne 26 = .ok (.return_, 1) := by decide +kernel
theorem dX5_doNodes_0 : decode cX5_doNodes 0 = .ok (.iconst 0, 1) := by decide +kernel
theorem dX5_doNodes_1 : decode cX5_doNodes 1 = .ok (.istore_n 1, 1) := by decide +kernel
theorem dX5_doNodes_2 : decode cX5_doNodes 2 = .ok (.iload_n 1, 1) := by decide +kernel
theorem dX5_doNodes_3 : decode cX5_doNodes 3 = .ok (.aload_n 0, 1) := by decide +kernel
theorem dX5_doNodes_4 : decode cX5_doNodes 4 = .ok (.invokevirtual 50, 3) := by decide +kernel
theorem dX5_doNodes_7 : decode cX5_doNodes 7 = .ok (.if_icmp .ge 30, 3) := by decide +kernel
theorem dX5_doNodes_10 : decode cX5_doNodes 10 = .ok (.aload_n 0, 1) := by decide +kernel
theorem dX5_doNodes_11 : decode cX5_doNodes 11 = .ok (.iload_n 1, 1) := by decide +kernel
theorem dX5_doNodes_12 : decode cX5_doNodes 12 = .ok (.invokevirtual 54, 3) := by decide +kernel
theorem dX5_doNodes_15 : decode cX5_doNodes 15 = .ok (.istore_n 2, 1) := by decide +kernel
theorem dX5_doNodes_16 : decode cX5_doNodes 16 = .ok (.iload_n 2, 1) := by decide +kernel
theorem dX5_doNodes_17 : decode cX5_doNodes 17 = .ok (.ifCond .le 9, 3) := by decide +kernel
theorem dX5_doNodes_20 : decode cX5_doNodes 20 = .ok (.aload_n 0, 1) := by decide +kernel
theorem dX5_doNodes_21 : decode cX5_doNodes 21 = .ok (.iload_n 1, 1) := by decide +kernel
theorem dX5_doNodes_22 : decode cX5_doNodes 22 = .ok (.iload_n 2, 1) := by decide +kernel
theorem dX5_doNodes_23 : decode cX5_doNodes 23 = .ok (.invokevirtual 58, 3) := by decide +kernel
theorem dX5_doNodes_26 : decode cX5_doNodes 26 = .ok (.aload_n 0, 1) := by decide +kernel
theorem dX5_doNodes_27 : decode cX5_doNodes 27 = .ok (.iload_n 1, 1) := by decide +kernel
theorem dX5_doNodes_28 : decode cX5_doNodes 28 = .ok (.invokevirtual 62, 3) := by decide +kernel
theorem dX5_doNodes_31 : decode cX5_doNodes 31 = .ok (.iinc 1 1, 3) := by decide +kernel
theorem dX5_doNodes_34 : decode cX5_doNodes 34 = .ok (.goto (-32), 3) := by decide +kernel
theorem dX5_doNodes_37 : decode cX5_doNodes 37 = .ok (.return_, 1) := by decide +kernel
theorem dX5_doArcs_0 : decode cX5_doArcs 0 = .ok (.iconst 0, 1) := by decide +kernel
theorem dX5_doArcs_1 : decode cX5_doArcs 1 = .ok (.istore_n 1, 1) := by decide +kernel
theorem dX5_doArcs_2 : decode cX5_doArcs 2 = .ok (.iload_n 1, 1) := by decide +kernel
theorem dX5_doArcs_3 : decode cX5_doArcs 3 = .ok (.aload_n 0, 1) := by decide +kernel
theorem dX5_doArcs_4 : decode cX5_doArcs 4 = .ok (.invokevirtual 65, 3) := by decide +kernel
theorem dX5_doArcs_7 : decode cX5_doArcs 7 = .ok (.if_icmp .ge 26, 3) := by decide +kernel
theorem dX5_doArcs_10 : decode cX5_doArcs 10 = .ok (.aload_n 0, 1) := by decide +kernel
theorem dX5_doArcs_11 : decode cX5_doArcs 11 = .ok (.iload_n 1, 1) := by decide +kernel
theorem dX5_doArcs_12 : decode cX5_doArcs 12 = .ok (.invokevirtual 68, 3) := by decide +kernel
theorem dX5_doArcs_15 : decode cX5_doArcs 15 = .ok (.aload_n 0, 1) := by decide +kernel
theorem dX5_doArcs_16 : decode cX5_doArcs 16 = .ok (.iload_n 1, 1) := by decide +kernel
theorem dX5_doArcs_17 : decode cX5_doArcs 17 = .ok (.iconst 0, 1) := by decide +kernel
theorem dX5_doArcs_18 : decode cX5_doArcs 18 = .ok (.invokestatic 71, 3) := by decide +kernel
theorem dX5_doArcs_21 : decode cX5_doArcs 21 = .ok (.aload_n 0, 1) := by decide +kernel
theorem dX5_doArcs_22 : decode cX5_doArcs 22 = .ok (.iload_n 1, 1) := by decide +kernel
theorem dX5_doArcs_23 : decode cX5_doArcs 23 = .ok (.iconst 1, 1) := by decide +kernel
theorem dX5_doArcs_24 : decode cX5_doArcs 24 = .ok (.invokestatic 71, 3) := by decide +kernel
theorem dX5_doArcs_27 : decode cX5_doArcs 27 = .ok (.iinc 1 1, 3) := by decide +kernel
theorem dX5_doArcs_30 : decode cX5_doArcs 30 = .ok (.goto (-28), 3) := by decide +kernel
theorem dX5_doArcs_33 : decode cX5_doArcs 33 = .ok (.return_, 1) := by decide +kernel
theorem dX5_projectLeasts_0 : decode cX5_projectLeasts 0 = .ok (.iconst 0, 1) := by decide +kernel
theorem dX5_projectLeasts_1 : decode cX5_projectLeasts 1 = .ok (.istore_n 3, 1) := by decide +kernel
theorem dX5_projectLeasts_2 : decode cX5_projectLeasts 2 = .ok (.iload_n 3, 1) := by decide +kernel
theorem dX5_projectLeasts_3 : decode cX5_projectLeasts 3 = .ok (.aload_n 0, 1) := by decide +kernel
theorem dX5_projectLeasts_4 : decode cX5_projectLeasts 4 = .ok (.iload_n 1, 1) := by decide +kernel
theorem dX5_projectLeasts_5 : decode cX5_projectLeasts 5 = .ok (.iload_n 2, 1) := by decide +kernel
theorem dX5_projectLeasts_6 : decode cX5_projectLeasts 6 = .ok (.invokevirtual 75, 3) := by decide +kernel
theorem dX5_projectLeasts_9 : decode cX5_projectLeasts 9 = .ok (.if_icmp .ge 32, 3) := by decide +kernel
theorem dX5_projectLeasts_12 : decode cX5_projectLeasts 12 = .ok (.aload_n 0, 1) := by decide +kernel
theorem dX5_projectLeasts_13 : decode cX5_projectLeasts 13 = .ok (.iload_n 1, 1) := by decide +kernel
theorem dX5_projectLeasts_14 : decode cX5_projectLeasts 14 = .ok (.iload_n 2, 1) := by decide +kernel
theorem dX5_projectLeasts_15 : decode cX5_projectLeasts 15 = .ok (.iload_n 3, 1) := by decide +kernel
theorem dX5_projectLeasts_16 : decode cX5_projectLeasts 16 = .ok (.invokevirtual 79, 3) := by decide +kernel
theorem dX5_projectLeasts_19 : decode cX5_projectLeasts 19 = .ok (.istore 4, 2) := by decide +kernel
theorem dX5_projectLeasts_21 : decode cX5_projectLeasts 21 = .ok (.iload 4, 2) := by decide +kernel
theorem dX5_projectLeasts_23 : decode cX5_projectLeasts 23 = .ok (.ifCond .le 12, 3) := by decide +kernel
theorem dX5_projectLeasts_26 : decode cX5_projectLeasts 26 = .ok (.aload_n 0, 1) := by decide +kernel
theorem dX5_projectLeasts_27 : decode cX5_projectLeasts 27 = .ok (.iload_n 1, 1) := by decide +kernel
theorem dX5_projectLeasts_28 : decode cX5_projectLeasts 28 = .ok (.iload_n 2, 1) := by decide +kernel
theorem dX5_projectLeasts_29 : decode cX5_projectLeasts 29 = .ok (.iload_n 3, 1) := by decide +kernel
theorem dX5_projectLeasts_30 : decode cX5_projectLeasts 30 = .ok (.iload 4, 2) := by decide +kernel
theorem dX5_projectLeasts_32 : decode cX5_projectLeasts 32 = .ok (.invokevirtual 83, 3) := by decide +kernel
theorem dX5_projectLeasts_35 : decode cX5_projectLeasts 35 = .ok (.iinc 3 1, 3) := by decide +kernel
theorem dX5_projectLeasts_38 : decode cX5_projectLeasts 38 = .ok (.goto (-36), 3) := by decide +kernel
theorem dX5_projectLeasts_41 : decode cX5_projectLeasts 41 = .ok (.return_, 1) := by decide +kernel
theorem dX5_doDirected_0 : decode cX5_doDirected 0 = .ok (.aload_n 1, 1) := by decide +kernel
theorem dX5_doDirected_1 : decode cX5_doDirected 1 = .ok (.invokevirtual 50, 3) := by decide +kernel
theorem dX5_doDirected_4 : decode cX5_doDirected 4 = .ok (.iconst 1, 1) := by decide +kernel
theorem dX5_doDirected_5 : decode cX5_doDirected 5 = .ok (.isub, 1) := by decide +kernel
theorem dX5_doDirected_6 : decode cX5_doDirected 6 = .ok (.istore_n 2, 1) := by decide +kernel
theorem dX5_doDirected_7 : decode cX5_doDirected 7 = .ok (.iload_n 2, 1) := by decide +kernel
theorem dX5_doDirected_8 : decode cX5_doDirected 8 = .ok (.ifCond .lt 41, 3) := by decide +kernel
theorem dX5_doDirected_11 : decode cX5_doDirected 11 = .ok (.iconst 0, 1) := by decide +kernel
theorem dX5_doDirected_12 : decode cX5_doDirected 12 = .ok (.istore_n 3, 1) := by decide +kernel
theorem dX5_doDirected_13 : decode cX5_doDirected 13 = .ok (.iload_n 3, 1) := by decide +kernel
theorem dX5_doDirected_14 : decode cX5_doDirected 14 = .ok (.aload_n 1, 1) := by decide +kernel
theorem dX5_doDirected_15 : decode cX5_doDirected 15 = .ok (.invokevirtual 65, 3) := by decide +kernel
theorem dX5_doDirected_18 : decode cX5_doDirected 18 = .ok (.if_icmp .ge 25, 3) := by decide +kernel
theorem dX5_doDirected_21 : decode cX5_doDirected 21 = .ok (.aload_n 1, 1) := by decide +kernel
theorem dX5_doDirected_22 : decode cX5_doDirected 22 = .ok (.iload_n 3, 1) := by decide +kernel
theorem dX5_doDirected_23 : decode cX5_doDirected 23 = .ok (.iconst 1, 1) := by decide +kernel
theorem dX5_doDirected_24 : decode cX5_doDirected 24 = .ok (.invokevirtual 87, 3) := by decide +kernel
theorem dX5_doDirected_27 : decode cX5_doDirected 27 = .ok (.iload_n 2, 1) := by decide +kernel
theorem dX5_doDirected_28 : decode cX5_doDirected 28 = .ok (.if_icmp .ne 9, 3) := by decide +kernel
theorem dX5_doDirected_31 : decode cX5_doDirected 31 = .ok (.aload_n 0, 1) := by decide +kernel
theorem dX5_doDirected_32 : decode cX5_doDirected 32 = .ok (.aload_n 1, 1) := by decide +kernel
theorem dX5_doDirected_33 : decode cX5_doDirected 33 = .ok (.iload_n 3, 1) := by decide +kernel
theorem dX5_doDirected_34 : decode cX5_doDirected 34 = .ok (.invokevirtual 90, 3) := by decide +kernel
theorem dX5_doDirected_37 : decode cX5_doDirected 37 = .ok (.iinc 3 1, 3) := by decide +kernel
theorem dX5_doDirected_40 : decode cX5_doDirected 40 = .ok (.goto (-27), 3) := by decide +kernel
theorem dX5_doDirected_43 : decode cX5_doDirected 43 = .ok (.iinc 2 (-1), 3) := by decide +kernel
theorem dX5_doDirected_46 : decode cX5_doDirected 46 = .ok (.goto (-39), 3) := by decide +kernel
theorem dX5_doDirected_49 : decode cX5_doDirected 49 = .ok (.return_, 1) := by decide +kernel
theorem dX5_direct_0 : decode cX5_direct 0 = .ok (.aload_n 1, 1) := by decide +kernel
theorem dX5_direct_1 : decode cX5_direct 1 = .ok (.iload_n 2, 1) := by decide +kernel
theorem dX5_direct_2 : decode cX5_direct 2 = .ok (.iconst 0, 1) := by decide +kernel
theorem dX5_direct_3 : decode cX5_direct 3 = .ok (.invokevirtual 75, 3) := by decide +kernel
theorem dX5_direct_6 : decode cX5_direct 6 = .ok (.istore_n 3, 1) := by decide +kernel
theorem dX5_direct_7 : decode cX5_direct 7 = .ok (.aload_n 1, 1) := by decide +kernel
theorem dX5_direct_8 : decode cX5_direct 8 = .ok (.iload_n 2, 1) := by decide +kernel
theorem dX5_direct_9 : decode cX5_direct 9 = .ok (.iconst 1, 1) := by decide +kernel
theorem dX5_direct_10 : decode cX5_direct 10 = .ok (.invokevirtual 75, 3) := by decide +kernel
theorem dX5_direct_13 : decode cX5_direct 13 = .ok (.istore 4, 2) := by decide +kernel
theorem dX5_direct_15 : decode cX5_direct 15 = .ok (.aload_n 1, 1) := by decide +kernel
theorem dX5_direct_16 : decode cX5_direct 16 = .ok (.iload_n 2, 1) := by decide +kernel
theorem dX5_direct_17 : decode cX5_direct 17 = .ok (.invokevirtual 68, 3) := by decide +kernel
theorem dX5_direct_20 : decode cX5_direct 20 = .ok (.iconst 0, 1) := by decide +kernel
theorem dX5_direct_21 : decode cX5_direct 21 = .ok (.istore 5, 2) := by decide +kernel
theorem dX5_direct_23 : decode cX5_direct 23 = .ok (.iload 5, 2) := by decide +kernel
theorem dX5_direct_25 : decode cX5_direct 25 = .ok (.iload_n 3, 1) := by decide +kernel
theorem dX5_direct_26 : decode cX5_direct 26 = .ok (.if_icmp .ge 25, 3) := by decide +kernel
theorem dX5_direct_29 : decode cX5_direct 29 = .ok (.aload_n 0, 1) := by decide +kernel
theorem dX5_direct_30 : decode cX5_direct 30 = .ok (.getfield 20, 3) := by decide +kernel
theorem dX5_direct_33 : decode cX5_direct 33 = .ok (.iload 5, 2) := by decide +kernel
theorem dX5_direct_35 : decode cX5_direct 35 = .ok (.aload_n 1, 1) := by decide +kernel
theorem dX5_direct_36 : decode cX5_direct 36 = .ok (.iload_n 2, 1) := by decide +kernel
theorem dX5_direct_37 : decode cX5_direct 37 = .ok (.iload 5, 2) := by decide +kernel
theorem dX5_direct_39 : decode cX5_direct 39 = .ok (.invokestatic 93, 3) := by decide +kernel
theorem dX5_direct_42 : decode cX5_direct 42 = .ok (.invokevirtual 97, 3) := by decide +kernel
theorem dX5_direct_45 : decode cX5_direct 45 = .ok (.iinc 5 1, 3) := by decide +kernel
theorem dX5_direct_48 : decode cX5_direct 48 = .ok (.goto (-25), 3) := by decide +kernel
theorem dX5_direct_51 : decode cX5_direct 51 = .ok (.iconst 0, 1) := by decide +kernel
theorem dX5_direct_52 : decode cX5_direct 52 = .ok (.istore 5, 2) := by decide +kernel
theorem dX5_direct_54 : decode cX5_direct 54 = .ok (.iload 5, 2) := by decide +kernel
theorem dX5_direct_56 : decode cX5_direct 56 = .ok (.iload 4, 2) := by decide +kernel
theorem dX5_direct_58 : decode cX5_direct 58 = .ok (.if_icmp .ge 26, 3) := by decide +kernel
theorem dX5_direct_61 : decode cX5_direct 61 = .ok (.aload_n 0, 1) := by decide +kernel
theorem dX5_direct_62 : decode cX5_direct 62 = .ok (.getfield 23, 3) := by decide +kernel
theorem dX5_direct_65 : decode cX5_direct 65 = .ok (.iload 5, 2) := by decide +kernel
theorem dX5_direct_67 : decode cX5_direct 67 = .ok (.aload_n 0, 1) := by decide +kernel
theorem dX5_direct_68 : decode cX5_direct 68 = .ok (.aload_n 1, 1) := by decide +kernel
theorem dX5_direct_69 : decode cX5_direct 69 = .ok (.iload_n 2, 1) := by decide +kernel
theorem dX5_direct_70 : decode cX5_direct 70 = .ok (.iload 5, 2) := by decide +kernel
theorem dX5_direct_72 : decode cX5_direct 72 = .ok (.invokevirtual 100, 3) := by decide +kernel
theorem dX5_direct_75 : decode cX5_direct 75 = .ok (.invokevirtual 97, 3) := by decide +kernel
theorem dX5_direct_78 : decode cX5_direct 78 = .ok (.iinc 5 1, 3) := by decide +kernel
theorem dX5_direct_81 : decode cX5_direct 81 = .ok (.goto (-27), 3) := by decide +kernel
theorem dX5_direct_84 : decode cX5_direct 84 = .ok (.iconst 0, 1) := by decide +kernel
theorem dX5_direct_85 : decode cX5_direct 85 = .ok (.istore 5, 2) := by decide +kernel
theorem dX5_direct_87 : decode cX5_direct 87 = .ok (.iload 5, 2) := by decide +kernel
theorem dX5_direct_89 : decode cX5_direct 89 = .ok (.iload 4, 2) := by decide +kernel
theorem dX5_direct_91 : decode cX5_direct 91 = .ok (.if_icmp .ge 38, 3) := by decide +kernel
theorem dX5_direct_94 : decode cX5_direct 94 = .ok (.aload_n 0, 1) := by decide +kernel
theorem dX5_direct_95 : decode cX5_direct 95 = .ok (.getfield 23, 3) := by decide +kernel
theorem dX5_direct_98 : decode cX5_direct 98 = .ok (.iload 5, 2) := by decide +kernel
theorem dX5_direct_100 : decode cX5_direct 100 = .ok (.invokevirtual 103, 3) := by decide +kernel
theorem dX5_direct_103 : decode cX5_direct 103 = .ok (.ifCond .le 20, 3) := by decide +kernel
theorem dX5_direct_106 : decode cX5_direct 106 = .ok (.aload_n 1, 1) := by decide +kernel
theorem dX5_direct_107 : decode cX5_direct 107 = .ok (.iload_n 2, 1) := by decide +kernel
theorem dX5_direct_108 : decode cX5_direct 108 = .ok (.iconst 1, 1) := by decide +kernel
theorem dX5_direct_109 : decode cX5_direct 109 = .ok (.iload 5, 2) := by decide +kernel
theorem dX5_direct_111 : decode cX5_direct 111 = .ok (.aload_n 0, 1) := by decide +kernel
theorem dX5_direct_112 : decode cX5_direct 112 = .ok (.getfield 23, 3) := by decide +kernel
theorem dX5_direct_115 : decode cX5_direct 115 = .ok (.iload 5, 2) := by decide +kernel
theorem dX5_direct_117 : decode cX5_direct 117 = .ok (.invokevirtual 103, 3) := by decide +kernel
theorem dX5_direct_120 : decode cX5_direct 120 = .ok (.invokevirtual 106, 3) := by decide +kernel
theorem dX5_direct_123 : decode cX5_direct 123 = .ok (.iinc 5 1, 3) := by decide +kernel
theorem dX5_direct_126 : decode cX5_direct 126 = .ok (.goto (-39), 3) := by decide +kernel
theorem dX5_direct_129 : decode cX5_direct 129 = .ok (.iconst 0, 1) := by decide +kernel
theorem dX5_direct_130 : decode cX5_direct 130 = .ok (.istore 5, 2) := by decide +kernel
theorem dX5_direct_132 : decode cX5_direct 132 = .ok (.iload 5, 2) := by decide +kernel
theorem dX5_direct_134 : decode cX5_direct 134 = .ok (.iload_n 3, 1) := by decide +kernel
theorem dX5_direct_135 : decode cX5_direct 135 = .ok (.if_icmp .ge 38, 3) := by decide +kernel
theorem dX5_direct_138 : decode cX5_direct 138 = .ok (.aload_n 0, 1) := by decide +kernel
theorem dX5_direct_139 : decode cX5_direct 139 = .ok (.getfield 20, 3) := by decide +kernel
theorem dX5_direct_142 : decode cX5_direct 142 = .ok (.iload 5, 2) := by decide +kernel
theorem dX5_direct_144 : decode cX5_direct 144 = .ok (.invokevirtual 103, 3) := by decide +kernel
theorem dX5_direct_147 : decode cX5_direct 147 = .ok (.ifCond .le 20, 3) := by decide +kernel
theorem dX5_direct_150 : decode cX5_direct 150 = .ok (.aload_n 1, 1) := by decide +kernel
theorem dX5_direct_151 : decode cX5_direct 151 = .ok (.iload_n 2, 1) := by decide +kernel
theorem dX5_direct_152 : decode cX5_direct 152 = .ok (.iconst 0, 1) := by decide +kernel
theorem dX5_direct_153 : decode cX5_direct 153 = .ok (.iload 5, 2) := by decide +kernel
theorem dX5_direct_155 : decode cX5_direct 155 = .ok (.aload_n 0, 1) := by decide +kernel
theorem dX5_direct_156 : decode cX5_direct 156 = .ok (.getfield 20, 3) := by decide +kernel
theorem dX5_direct_159 : decode cX5_direct 159 = .ok (.iload 5, 2) := by decide +kernel
theorem dX5_direct_161 : decode cX5_direct 161 = .ok (.invokevirtual 103, 3) := by decide +kernel
theorem dX5_direct_164 : decode cX5_direct 164 = .ok (.invokevirtual 83, 3) := by decide +kernel
theorem dX5_direct_167 : decode cX5_direct 167 = .ok (.iinc 5 1, 3) := by decide +kernel
theorem dX5_direct_170 : decode cX5_direct 170 = .ok (.goto (-38), 3) := by decide +kernel
theorem dX5_direct_173 : decode cX5_direct 173 = .ok (.return_, 1) := by decide +kernel
theorem dX5_reachOf_0 : decode cX5_reachOf 0 = .ok (.aload_n 0, 1) := by decide +kernel
theorem dX5_reachOf_1 : decode cX5_reachOf 1 = .ok (.iload_n 1, 1) := by decide +kernel
theorem dX5_reachOf_2 : decode cX5_reachOf 2 = .ok (.iconst 1, 1) := by decide +kernel
theorem dX5_reachOf_3 : decode cX5_reachOf 3 = .ok (.invokevirtual 87, 3) := by decide +kernel
theorem dX5_reachOf_6 : decode cX5_reachOf 6 = .ok (.istore_n 3, 1) := by decide +kernel
theorem dX5_reachOf_7 : decode cX5_reachOf 7 = .ok (.aload_n 0, 1) := by decide +kernel
theorem dX5_reachOf_8 : decode cX5_reachOf 8 = .ok (.invokevirtual 109, 3) := by decide +kernel
theorem dX5_reachOf_11 : decode cX5_reachOf 11 = .ok (.istore 4, 2) := by decide +kernel
theorem dX5_reachOf_13 : decode cX5_reachOf 13 = .ok (.iconst 0, 1) := by decide +kernel
theorem dX5_reachOf_14 : decode cX5_reachOf 14 = .ok (.istore 5, 2) := by decide +kernel
theorem dX5_reachOf_16 : decode cX5_reachOf 16 = .ok (.iload 5, 2) := by decide +kernel
theorem dX5_reachOf_18 : decode cX5_reachOf 18 = .ok (.aload_n 0, 1) := by decide +kernel
theorem dX5_reachOf_19 : decode cX5_reachOf 19 = .ok (.iload_n 3, 1) := by decide +kernel
theorem dX5_reachOf_20 : decode cX5_reachOf 20 = .ok (.invokevirtual 112, 3) := by decide +kernel
theorem dX5_reachOf_23 : decode cX5_reachOf 23 = .ok (.if_icmp .ge 35, 3) := by decide +kernel
theorem dX5_reachOf_26 : decode cX5_reachOf 26 = .ok (.iload 4, 2) := by decide +kernel
theorem dX5_reachOf_28 : decode cX5_reachOf 28 = .ok (.aload_n 0, 1) := by decide +kernel
theorem dX5_reachOf_29 : decode cX5_reachOf 29 = .ok (.aload_n 0, 1) := by decide +kernel
theorem dX5_reachOf_30 : decode cX5_reachOf 30 = .ok (.iload_n 1, 1) := by decide +kernel
theorem dX5_reachOf_31 : decode cX5_reachOf 31 = .ok (.iload_n 2, 1) := by decide +kernel
theorem dX5_reachOf_32 : decode cX5_reachOf 32 = .ok (.iload 5, 2) := by decide +kernel
theorem dX5_reachOf_34 : decode cX5_reachOf 34 = .ok (.invokevirtual 115, 3) := by decide +kernel
theorem dX5_reachOf_37 : decode cX5_reachOf 37 = .ok (.aload_n 0, 1) := by decide +kernel
theorem dX5_reachOf_38 : decode cX5_reachOf 38 = .ok (.iload_n 3, 1) := by decide +kernel
theorem dX5_reachOf_39 : decode cX5_reachOf 39 = .ok (.iload 5, 2) := by decide +kernel
theorem dX5_reachOf_41 : decode cX5_reachOf 41 = .ok (.invokevirtual 118, 3) := by decide +kernel
theorem dX5_reachOf_44 : decode cX5_reachOf 44 = .ok (.invokevirtual 121, 3) := by decide +kernel
theorem dX5_reachOf_47 : decode cX5_reachOf 47 = .ok (.invokestatic 124, 3) := by decide +kernel
theorem dX5_reachOf_50 : decode cX5_reachOf 50 = .ok (.istore 4, 2) := by decide +kernel
theorem dX5_reachOf_52 : decode cX5_reachOf 52 = .ok (.iinc 5 1, 3) := by decide +kernel
theorem dX5_reachOf_55 : decode cX5_reachOf 55 = .ok (.goto (-39), 3) := by decide +kernel
theorem dX5_reachOf_58 : decode cX5_reachOf 58 = .ok (.iload 4, 2) := by decide +kernel
theorem dX5_reachOf_60 : decode cX5_reachOf 60 = .ok (.ireturn, 1) := by decide +kernel
theorem dX5_needOf_0 : decode cX5_needOf 0 = .ok (.iconst 0, 1) := by decide +kernel
theorem dX5_needOf_1 : decode cX5_needOf 1 = .ok (.istore 4, 2) := by decide +kernel
theorem dX5_needOf_3 : decode cX5_needOf 3 = .ok (.iconst 0, 1) := by decide +kernel
theorem dX5_needOf_4 : decode cX5_needOf 4 = .ok (.istore 5, 2) := by decide +kernel
theorem dX5_needOf_6 : decode cX5_needOf 6 = .ok (.iload 5, 2) := by decide +kernel
theorem dX5_needOf_8 : decode cX5_needOf 8 = .ok (.aload_n 1, 1) := by decide +kernel
theorem dX5_needOf_9 : decode cX5_needOf 9 = .ok (.iload_n 2, 1) := by decide +kernel
theorem dX5_needOf_10 : decode cX5_needOf 10 = .ok (.iconst 0, 1) := by decide +kernel
theorem dX5_needOf_11 : decode cX5_needOf 11 = .ok (.invokevirtual 75, 3) := by decide +kernel
theorem dX5_needOf_14 : decode cX5_needOf 14 = .ok (.if_icmp .ge 34, 3) := by decide +kernel
theorem dX5_needOf_17 : decode cX5_needOf 17 = .ok (.iload 4, 2) := by decide +kernel
theorem dX5_needOf_19 : decode cX5_needOf 19 = .ok (.aload_n 0, 1) := by decide +kernel
theorem dX5_needOf_20 : decode cX5_needOf 20 = .ok (.getfield 20, 3) := by decide +kernel
theorem dX5_needOf_23 : decode cX5_needOf 23 = .ok (.iload 5, 2) := by decide +kernel
theorem dX5_needOf_25 : decode cX5_needOf 25 = .ok (.invokevirtual 103, 3) := by decide +kernel
theorem dX5_needOf_28 : decode cX5_needOf 28 = .ok (.aload_n 1, 1) := by decide +kernel
theorem dX5_needOf_29 : decode cX5_needOf 29 = .ok (.iload_n 2, 1) := by decide +kernel
theorem dX5_needOf_30 : decode cX5_needOf 30 = .ok (.iload 5, 2) := by decide +kernel
theorem dX5_needOf_32 : decode cX5_needOf 32 = .ok (.iload_n 3, 1) := by decide +kernel
theorem dX5_needOf_33 : decode cX5_needOf 33 = .ok (.invokevirtual 115, 3) := by decide +kernel
theorem dX5_needOf_36 : decode cX5_needOf 36 = .ok (.isub, 1) := by decide +kernel
theorem dX5_needOf_37 : decode cX5_needOf 37 = .ok (.invokestatic 129, 3) := by decide +kernel
theorem dX5_needOf_40 : decode cX5_needOf 40 = .ok (.istore 4, 2) := by decide +kernel
theorem dX5_needOf_42 : decode cX5_needOf 42 = .ok (.iinc 5 1, 3) := by decide +kernel
theorem dX5_needOf_45 : decode cX5_needOf 45 = .ok (.goto (-39), 3) := by decide +kernel
theorem dX5_needOf_48 : decode cX5_needOf 48 = .ok (.iload 4, 2) := by decide +kernel
theorem dX5_needOf_50 : decode cX5_needOf 50 = .ok (.ireturn, 1) := by decide +kernel
theorem dX6_init_0 : decode cX6_init 0 = .ok (.aload_n 0, 1) := by decide +kernel
theorem dX6_init_1 : decode cX6_init 1 = .ok (.invokespecial 3, 3) := by decide +kernel
theorem dX6_init_4 : decode cX6_init 4 = .ok (.aload_n 0, 1) := by decide +kernel
theorem dX6_init_5 : decode cX6_init 5 = .ok (.new 9, 3) := by decide +kernel
theorem dX6_init_8 : decode cX6_init 8 = .ok (.dup, 1) := by decide +kernel
theorem dX6_init_9 : decode cX6_init 9 = .ok (.sipush 200, 3) := by decide +kernel
theorem dX6_init_12 : decode cX6_init 12 = .ok (.invokespecial 11, 3) := by decide +kernel
theorem dX6_init_15 : decode cX6_init 15 = .ok (.putfield 14, 3) := by decide +kernel
theorem dX6_init_18 : decode cX6_init 18 = .ok (.return_, 1) := by decide +kernel
theorem dX6_length_0 : decode cX6_length 0 = .ok (.aload_n 0, 1) := by decide +kernel
theorem dX6_length_1 : decode cX6_length 1 = .ok (.getfield 20, 3) := by decide +kernel
theorem dX6_length_4 : decode cX6_length 4 = .ok (.ireturn, 1) := by decide +kernel
theorem dX6_clear_0 : decode cX6_clear 0 = .ok (.aload_n 0, 1) := by decide +kernel
theorem dX6_clear_1 : decode cX6_clear 1 = .ok (.iconst 0, 1) := by decide +kernel
theorem dX6_clear_2 : decode cX6_clear 2 = .ok (.putfield 20, 3) := by decide +kernel
theorem dX6_clear_5 : decode cX6_clear 5 = .ok (.return_, 1) := by decide +kernel
theorem dX6_add_0 : decode cX6_add 0 = .ok (.aload_n 0, 1) := by decide +kernel
theorem dX6_add_1 : decode cX6_add 1 = .ok (.getfield 20, 3) := by decide +kernel
theorem dX6_add_4 : decode cX6_add 4 = .ok (.sipush 200, 3) := by decide +kernel
theorem dX6_add_7 : decode cX6_add 7 = .ok (.if_icmp .lt 5, 3) := by decide +kernel
theorem dX6_add_10 : decode cX6_add 10 = .ok (.iconst 0, 1) := by decide +kernel
theorem dX6_add_11 : decode cX6_add 11 = .ok (.ireturn, 1) := by decide +kernel
theorem dX6_add_12 : decode cX6_add 12 = .ok (.aload_n 0, 1) := by decide +kernel
theorem dX6_add_13 : decode cX6_add 13 = .ok (.getfield 14, 3) := by decide +kernel
theorem dX6_add_16 : decode cX6_add 16 = .ok (.aload_n 0, 1) := by decide +kernel
theorem dX6_add_17 : decode cX6_add 17 = .ok (.getfield 20, 3) := by decide +kernel
theorem dX6_add_20 : decode cX6_add 20 = .ok (.iload_n 1, 1) := by decide +kernel
theorem dX6_add_21 : decode cX6_add 21 = .ok (.invokevirtual 24, 3) := by decide +kernel
theorem dX6_add_24 : decode cX6_add 24 = .ok (.aload_n 0, 1) := by decide +kernel
theorem dX6_add_25 : decode cX6_add 25 = .ok (.dup, 1) := by decide +kernel
theorem dX6_add_26 : decode cX6_add 26 = .ok (.getfield 20, 3) := by decide +kernel
theorem dX6_add_29 : decode cX6_add 29 = .ok (.iconst 1, 1) := by decide +kernel
theorem dX6_add_30 : decode cX6_add 30 = .ok (.iadd, 1) := by decide +kernel
theorem dX6_add_31 : decode cX6_add 31 = .ok (.putfield 20, 3) := by decide +kernel
theorem dX6_add_34 : decode cX6_add 34 = .ok (.iconst 1, 1) := by decide +kernel
theorem dX6_add_35 : decode cX6_add 35 = .ok (.ireturn, 1) := by decide +kernel
theorem dX6_letterAt_0 : decode cX6_letterAt 0 = .ok (.iload_n 1, 1) := by decide +kernel
theorem dX6_letterAt_1 : decode cX6_letterAt 1 = .ok (.ifCond .lt 22, 3) := by decide +kernel
theorem dX6_letterAt_4 : decode cX6_letterAt 4 = .ok (.iload_n 1, 1) := by decide +kernel
theorem dX6_letterAt_5 : decode cX6_letterAt 5 = .ok (.aload_n 0, 1) := by decide +kernel
theorem dX6_letterAt_6 : decode cX6_letterAt 6 = .ok (.getfield 20, 3) := by decide +kernel
theorem dX6_letterAt_9 : decode cX6_letterAt 9 = .ok (.if_icmp .ge 14, 3) := by decide +kernel
theorem dX6_letterAt_12 : decode cX6_letterAt 12 = .ok (.aload_n 0, 1) := by decide +kernel
theorem dX6_letterAt_13 : decode cX6_letterAt 13 = .ok (.getfield 14, 3) := by decide +kernel
theorem dX6_letterAt_16 : decode cX6_letterAt 16 = .ok (.iload_n 1, 1) := by decide +kernel
theorem dX6_letterAt_17 : decode cX6_letterAt 17 = .ok (.invokevirtual 28, 3) := by decide +kernel
theorem dX6_letterAt_20 : decode cX6_letterAt 20 = .ok (.goto 4, 3) := by decide +kernel
theorem dX6_letterAt_23 : decode cX6_letterAt 23 = .ok (.iconst (-1), 1) := by decide +kernel
theorem dX6_letterAt_24 : decode cX6_letterAt 24 = .ok (.ireturn, 1) := by decide +kernel
theorem dX7_init_0 : decode cX7_init 0 = .ok (.aload_n 0, 1) := by decide +kernel
theorem dX7_init_1 : decode cX7_init 1 = .ok (.invokespecial 3, 3) := by decide +kernel
theorem dX7_init_4 : decode cX7_init 4 = .ok (.aload_n 0, 1) := by decide +kernel
theorem dX7_init_5 : decode cX7_init 5 = .ok (.new 9, 3) := by decide +kernel
theorem dX7_init_8 : decode cX7_init 8 = .ok (.dup, 1) := by decide +kernel
theorem dX7_init_9 : decode cX7_init 9 = .ok (.bipush 6, 2) := by decide +kernel
theorem dX7_init_11 : decode cX7_init 11 = .ok (.invokespecial 11, 3) := by decide +kernel
theorem dX7_init_14 : decode cX7_init 14 = .ok (.putfield 14, 3) := by decide +kernel
theorem dX7_init_17 : decode cX7_init 17 = .ok (.return_, 1) := by decide +kernel
theorem dX7_countTries_0 : decode cX7_countTries 0 = .ok (.aload_n 0, 1) := by decide +kernel
theorem dX7_countTries_1 : decode cX7_countTries 1 = .ok (.aload_n 1, 1) := by decide +kernel
theorem dX7_countTries_2 : decode cX7_countTries 2 = .ok (.invokevirtual 20, 3) := by decide +kernel
theorem dX7_countTries_5 : decode cX7_countTries 5 = .ok (.putfield 26, 3) := by decide +kernel
theorem dX7_countTries_8 : decode cX7_countTries 8 = .ok (.aload_n 0, 1) := by decide +kernel
theorem dX7_countTries_9 : decode cX7_countTries 9 = .ok (.iconst 0, 1) := by decide +kernel
theorem dX7_countTries_10 : decode cX7_countTries 10 = .ok (.putfield 30, 3) := by decide +kernel
theorem dX7_countTries_13 : decode cX7_countTries 13 = .ok (.aload_n 0, 1) := by decide +kernel
theorem dX7_countTries_14 : decode cX7_countTries 14 = .ok (.aload_n 1, 1) := by decide +kernel
theorem dX7_countTries_15 : decode cX7_countTries 15 = .ok (.iconst 0, 1) := by decide +kernel
theorem dX7_countTries_16 : decode cX7_countTries 16 = .ok (.aload_n 1, 1) := by decide +kernel
theorem dX7_countTries_17 : decode cX7_countTries 17 = .ok (.invokevirtual 33, 3) := by decide +kernel
theorem dX7_countTries_20 : decode cX7_countTries 20 = .ok (.invokevirtual 36, 3) := by decide +kernel
theorem dX7_countTries_23 : decode cX7_countTries 23 = .ok (.aload_n 0, 1) := by decide +kernel
theorem dX7_countTries_24 : decode cX7_countTries 24 = .ok (.getfield 30, 3) := by decide +kernel
theorem dX7_countTries_27 : decode cX7_countTries 27 = .ok (.ireturn, 1) := by decide +kernel
theorem dX7_goOn_0 : decode cX7_goOn 0 = .ok (.iload_n 2, 1) := by decide +kernel
theorem dX7_goOn_1 : decode cX7_goOn 1 = .ok (.aload_n 1, 1) := by decide +kernel
theorem dX7_goOn_2 : decode cX7_goOn 2 = .ok (.invokevirtual 40, 3) := by decide +kernel
theorem dX7_goOn_5 : decode cX7_goOn 5 = .ok (.if_icmp .ge 9, 3) := by decide +kernel
theorem dX7_goOn_8 : decode cX7_goOn 8 = .ok (.iload_n 2, 1) := by decide +kernel
theorem dX7_goOn_9 : decode cX7_goOn 9 = .ok (.bipush 6, 2) := by decide +kernel
theorem dX7_goOn_11 : decode cX7_goOn 11 = .ok (.if_icmp .lt 4, 3) := by decide +kernel
theorem dX7_goOn_14 : decode cX7_goOn 14 = .ok (.return_, 1) := by decide +kernel
theorem dX7_goOn_15 : decode cX7_goOn 15 = .ok (.iconst 0, 1) := by decide +kernel
theorem dX7_goOn_16 : decode cX7_goOn 16 = .ok (.istore 4, 2) := by decide +kernel
theorem dX7_goOn_18 : decode cX7_goOn 18 = .ok (.iload 4, 2) := by decide +kernel
theorem dX7_goOn_20 : decode cX7_goOn 20 = .ok (.aload_n 1, 1) := by decide +kernel
theorem dX7_goOn_21 : decode cX7_goOn 21 = .ok (.iload_n 2, 1) := by decide +kernel
theorem dX7_goOn_22 : decode cX7_goOn 22 = .ok (.invokevirtual 43, 3) := by decide +kernel
theorem dX7_goOn_25 : decode cX7_goOn 25 = .ok (.if_icmp .ge 18, 3) := by decide +kernel
theorem dX7_goOn_28 : decode cX7_goOn 28 = .ok (.aload_n 0, 1) := by decide +kernel
theorem dX7_goOn_29 : decode cX7_goOn 29 = .ok (.aload_n 1, 1) := by decide +kernel
theorem dX7_goOn_30 : decode cX7_goOn 30 = .ok (.iload_n 2, 1) := by decide +kernel
theorem dX7_goOn_31 : decode cX7_goOn 31 = .ok (.iload 4, 2) := by decide +kernel
theorem dX7_goOn_33 : decode cX7_goOn 33 = .ok (.iload_n 3, 1) := by decide +kernel
theorem dX7_goOn_34 : decode cX7_goOn 34 = .ok (.invokevirtual 47, 3) := by decide +kernel
theorem dX7_goOn_37 : decode cX7_goOn 37 = .ok (.iinc 4 1, 3) := by decide +kernel
theorem dX7_goOn_40 : decode cX7_goOn 40 = .ok (.goto (-22), 3) := by decide +kernel
theorem dX7_goOn_43 : decode cX7_goOn 43 = .ok (.return_, 1) := by decide +kernel
theorem dX7_tryValue_0 : decode cX7_tryValue 0 = .ok (.aload_n 0, 1) := by decide +kernel
theorem dX7_tryValue_1 : decode cX7_tryValue 1 = .ok (.getfield 14, 3) := by decide +kernel
theorem dX7_tryValue_4 : decode cX7_tryValue 4 = .ok (.iload_n 2, 1) := by decide +kernel
theorem dX7_tryValue_5 : decode cX7_tryValue 5 = .ok (.iload_n 3, 1) := by decide +kernel
theorem dX7_tryValue_6 : decode cX7_tryValue 6 = .ok (.invokevirtual 51, 3) := by decide +kernel
theorem dX7_tryValue_9 : decode cX7_tryValue 9 = .ok (.aload_n 0, 1) := by decide +kernel
theorem dX7_tryValue_10 : decode cX7_tryValue 10 = .ok (.dup, 1) := by decide +kernel
theorem dX7_tryValue_11 : decode cX7_tryValue 11 = .ok (.getfield 30, 3) := by decide +kernel
theorem dX7_tryValue_14 : decode cX7_tryValue 14 = .ok (.iconst 1, 1) := by decide +kernel
theorem dX7_tryValue_15 : decode cX7_tryValue 15 = .ok (.iadd, 1) := by decide +kernel
theorem dX7_tryValue_16 : decode cX7_tryValue 16 = .ok (.putfield 30, 3) := by decide +kernel
theorem dX7_tryValue_19 : decode cX7_tryValue 19 = .ok (.aload_n 1, 1) := by decide +kernel
theorem dX7_tryValue_20 : decode cX7_tryValue 20 = .ok (.iload 4, 2) := by decide +kernel
theorem dX7_tryValue_22 : decode cX7_tryValue 22 = .ok (.aload_n 1, 1) := by decide +kernel
theorem dX7_tryValue_23 : decode cX7_tryValue 23 = .ok (.aload_n 0, 1) := by decide +kernel
theorem dX7_tryValue_24 : decode cX7_tryValue 24 = .ok (.getfield 14, 3) := by decide +kernel
theorem dX7_tryValue_27 : decode cX7_tryValue 27 = .ok (.iload_n 2, 1) := by decide +kernel
theorem dX7_tryValue_28 : decode cX7_tryValue 28 = .ok (.iload_n 2, 1) := by decide +kernel
theorem dX7_tryValue_29 : decode cX7_tryValue 29 = .ok (.iload_n 3, 1) := by decide +kernel
theorem dX7_tryValue_30 : decode cX7_tryValue 30 = .ok (.iconst (-1), 1) := by decide +kernel
theorem dX7_tryValue_31 : decode cX7_tryValue 31 = .ok (.invokevirtual 55, 3) := by decide +kernel
theorem dX7_tryValue_34 : decode cX7_tryValue 34 = .ok (.invokevirtual 59, 3) := by decide +kernel
theorem dX7_tryValue_37 : decode cX7_tryValue 37 = .ok (.istore 5, 2) := by decide +kernel
theorem dX7_tryValue_39 : decode cX7_tryValue 39 = .ok (.aload_n 0, 1) := by decide +kernel
theorem dX7_tryValue_40 : decode cX7_tryValue 40 = .ok (.aload_n 1, 1) := by decide +kernel
theorem dX7_tryValue_41 : decode cX7_tryValue 41 = .ok (.iload_n 2, 1) := by decide +kernel
theorem dX7_tryValue_42 : decode cX7_tryValue 42 = .ok (.iload 5, 2) := by decide +kernel
theorem dX7_tryValue_44 : decode cX7_tryValue 44 = .ok (.invokevirtual 63, 3) := by decide +kernel
theorem dX7_tryValue_47 : decode cX7_tryValue 47 = .ok (.istore 6, 2) := by decide +kernel
theorem dX7_tryValue_49 : decode cX7_tryValue 49 = .ok (.iload 6, 2) := by decide +kernel
theorem dX7_tryValue_51 : decode cX7_tryValue 51 = .ok (.aload_n 0, 1) := by decide +kernel
theorem dX7_tryValue_52 : decode cX7_tryValue 52 = .ok (.getfield 26, 3) := by decide +kernel
theorem dX7_tryValue_55 : decode cX7_tryValue 55 = .ok (.if_icmp .lt 4, 3) := by decide +kernel
theorem dX7_tryValue_58 : decode cX7_tryValue 58 = .ok (.return_, 1) := by decide +kernel
theorem dX7_tryValue_59 : decode cX7_tryValue 59 = .ok (.iload_n 2, 1) := by decide +kernel
theorem dX7_tryValue_60 : decode cX7_tryValue 60 = .ok (.iconst 1, 1) := by decide +kernel
theorem dX7_tryValue_61 : decode cX7_tryValue 61 = .ok (.iadd, 1) := by decide +kernel
theorem dX7_tryValue_62 : decode cX7_tryValue 62 = .ok (.aload_n 1, 1) := by decide +kernel
theorem dX7_tryValue_63 : decode cX7_tryValue 63 = .ok (.invokevirtual 40, 3) := by decide +kernel
theorem dX7_tryValue_66 : decode cX7_tryValue 66 = .ok (.if_icmp .ne 12, 3) := by decide +kernel
theorem dX7_tryValue_69 : decode cX7_tryValue 69 = .ok (.aload_n 0, 1) := by decide +kernel
theorem dX7_tryValue_70 : decode cX7_tryValue 70 = .ok (.iload 6, 2) := by decide +kernel
theorem dX7_tryValue_72 : decode cX7_tryValue 72 = .ok (.putfield 26, 3) := by decide +kernel
theorem dX7_tryValue_75 : decode cX7_tryValue 75 = .ok (.goto 13, 3) := by decide +kernel
theorem dX7_tryValue_78 : decode cX7_tryValue 78 = .ok (.aload_n 0, 1) := by decide +kernel
theorem dX7_tryValue_79 : decode cX7_tryValue 79 = .ok (.aload_n 1, 1) := by decide +kernel
theorem dX7_tryValue_80 : decode cX7_tryValue 80 = .ok (.iload_n 2, 1) := by decide +kernel
theorem dX7_tryValue_81 : decode cX7_tryValue 81 = .ok (.iconst 1, 1) := by decide +kernel
theorem dX7_tryValue_82 : decode cX7_tryValue 82 = .ok (.iadd, 1) := by decide +kernel
theorem dX7_tryValue_83 : decode cX7_tryValue 83 = .ok (.iload 5, 2) := by decide +kernel
theorem dX7_tryValue_85 : decode cX7_tryValue 85 = .ok (.invokevirtual 36, 3) := by decide +kernel
theorem dX7_tryValue_88 : decode cX7_tryValue 88 = .ok (.return_, 1) := by decide +kernel
theorem dX7_lowOf_0 : decode cX7_lowOf 0 = .ok (.iload_n 3, 1) := by decide +kernel
theorem dX7_lowOf_1 : decode cX7_lowOf 1 = .ok (.istore 4, 2) := by decide +kernel
theorem dX7_lowOf_3 : decode cX7_lowOf 3 = .ok (.iload_n 2, 1) := by decide +kernel
theorem dX7_lowOf_4 : decode cX7_lowOf 4 = .ok (.iconst 1, 1) := by decide +kernel
theorem dX7_lowOf_5 : decode cX7_lowOf 5 = .ok (.iadd, 1) := by decide +kernel
theorem dX7_lowOf_6 : decode cX7_lowOf 6 = .ok (.istore 5, 2) := by decide +kernel
theorem dX7_lowOf_8 : decode cX7_lowOf 8 = .ok (.iload 5, 2) := by decide +kernel
theorem dX7_lowOf_10 : decode cX7_lowOf 10 = .ok (.aload_n 1, 1) := by decide +kernel
theorem dX7_lowOf_11 : decode cX7_lowOf 11 = .ok (.invokevirtual 40, 3) := by decide +kernel
theorem dX7_lowOf_14 : decode cX7_lowOf 14 = .ok (.if_icmp .ge 25, 3) := by decide +kernel
theorem dX7_lowOf_17 : decode cX7_lowOf 17 = .ok (.aload_n 1, 1) := by decide +kernel
theorem dX7_lowOf_18 : decode cX7_lowOf 18 = .ok (.iload 4, 2) := by decide +kernel
theorem dX7_lowOf_20 : decode cX7_lowOf 20 = .ok (.aload_n 0, 1) := by decide +kernel
theorem dX7_lowOf_21 : decode cX7_lowOf 21 = .ok (.aload_n 1, 1) := by decide +kernel
theorem dX7_lowOf_22 : decode cX7_lowOf 22 = .ok (.iload_n 2, 1) := by decide +kernel
theorem dX7_lowOf_23 : decode cX7_lowOf 23 = .ok (.iload 5, 2) := by decide +kernel
theorem dX7_lowOf_25 : decode cX7_lowOf 25 = .ok (.invokevirtual 67, 3) := by decide +kernel
theorem dX7_lowOf_28 : decode cX7_lowOf 28 = .ok (.invokevirtual 59, 3) := by decide +kernel
theorem dX7_lowOf_31 : decode cX7_lowOf 31 = .ok (.istore 4, 2) := by decide +kernel
theorem dX7_lowOf_33 : decode cX7_lowOf 33 = .ok (.iinc 5 1, 3) := by decide +kernel
theorem dX7_lowOf_36 : decode cX7_lowOf 36 = .ok (.goto (-28), 3) := by decide +kernel
theorem dX7_lowOf_39 : decode cX7_lowOf 39 = .ok (.iload 4, 2) := by decide +kernel
theorem dX7_lowOf_41 : decode cX7_lowOf 41 = .ok (.ireturn, 1) := by decide +kernel
theorem dX7_leastBeside_0 : decode cX7_leastBeside 0 = .ok (.aload_n 1, 1) := by decide +kernel
theorem dX7_leastBeside_1 : decode cX7_leastBeside 1 = .ok (.invokevirtual 20, 3) := by decide +kernel
theorem dX7_leastBeside_4 : decode cX7_leastBeside 4 = .ok (.istore 4, 2) := by decide +kernel
theorem dX7_leastBeside_6 : decode cX7_leastBeside 6 = .ok (.iconst 0, 1) := by decide +kernel
theorem dX7_leastBeside_7 : decode cX7_leastBeside 7 = .ok (.istore 5, 2) := by decide +kernel
theorem dX7_leastBeside_9 : decode cX7_leastBeside 9 = .ok (.iload 5, 2) := by decide +kernel
theorem dX7_leastBeside_11 : decode cX7_leastBeside 11 = .ok (.aload_n 1, 1) := by decide +kernel
theorem dX7_leastBeside_12 : decode cX7_leastBeside 12 = .ok (.iload_n 3, 1) := by decide +kernel
theorem dX7_leastBeside_13 : decode cX7_leastBeside 13 = .ok (.invokevirtual 43, 3) := by decide +kernel
theorem dX7_leastBeside_16 : decode cX7_leastBeside 16 = .ok (.if_icmp .ge 31, 3) := by decide +kernel
theorem dX7_leastBeside_19 : decode cX7_leastBeside 19 = .ok (.iload 4, 2) := by decide +kernel
theorem dX7_leastBeside_21 : decode cX7_leastBeside 21 = .ok (.aload_n 1, 1) := by decide +kernel
theorem dX7_leastBeside_22 : decode cX7_leastBeside 22 = .ok (.aload_n 0, 1) := by decide +kernel
theorem dX7_leastBeside_23 : decode cX7_leastBeside 23 = .ok (.getfield 14, 3) := by decide +kernel
theorem dX7_leastBeside_26 : decode cX7_leastBeside 26 = .ok (.iload_n 2, 1) := by decide +kernel
theorem dX7_leastBeside_27 : decode cX7_leastBeside 27 = .ok (.iconst 1, 1) := by decide +kernel
theorem dX7_leastBeside_28 : decode cX7_leastBeside 28 = .ok (.iadd, 1) := by decide +kernel
theorem dX7_leastBeside_29 : decode cX7_leastBeside 29 = .ok (.iload_n 3, 1) := by decide +kernel
theorem dX7_leastBeside_30 : decode cX7_leastBeside 30 = .ok (.iload 5, 2) := by decide +kernel
theorem dX7_leastBeside_32 : decode cX7_leastBeside 32 = .ok (.iconst (-1), 1) := by decide +kernel
theorem dX7_leastBeside_33 : decode cX7_leastBeside 33 = .ok (.invokevirtual 55, 3) := by decide +kernel
theorem dX7_leastBeside_36 : decode cX7_leastBeside 36 = .ok (.invokestatic 70, 3) := by decide +kernel
theorem dX7_leastBeside_39 : decode cX7_leastBeside 39 = .ok (.istore 4, 2) := by decide +kernel
theorem dX7_leastBeside_41 : decode cX7_leastBeside 41 = .ok (.iinc 5 1, 3) := by decide +kernel
theorem dX7_leastBeside_44 : decode cX7_leastBeside 44 = .ok (.goto (-35), 3) := by decide +kernel
theorem dX7_leastBeside_47 : decode cX7_leastBeside 47 = .ok (.iload 4, 2) := by decide +kernel
theorem dX7_leastBeside_49 : decode cX7_leastBeside 49 = .ok (.ireturn, 1) := by decide +kernel
