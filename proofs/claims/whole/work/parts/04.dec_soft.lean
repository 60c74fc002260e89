theorem dX8_init_0 : decode cX8_init 0 = .ok (.aload_n 0, 1) := by decide +kernel
theorem dX8_init_1 : decode cX8_init 1 = .ok (.invokespecial 3, 3) := by decide +kernel
theorem dX8_init_4 : decode cX8_init 4 = .ok (.aload_n 0, 1) := by decide +kernel
theorem dX8_init_5 : decode cX8_init 5 = .ok (.new 9, 3) := by decide +kernel
theorem dX8_init_8 : decode cX8_init 8 = .ok (.dup, 1) := by decide +kernel
theorem dX8_init_9 : decode cX8_init 9 = .ok (.invokespecial 11, 3) := by decide +kernel
theorem dX8_init_12 : decode cX8_init 12 = .ok (.putfield 12, 3) := by decide +kernel
theorem dX8_init_15 : decode cX8_init 15 = .ok (.aload_n 0, 1) := by decide +kernel
theorem dX8_init_16 : decode cX8_init 16 = .ok (.new 16, 3) := by decide +kernel
theorem dX8_init_19 : decode cX8_init 19 = .ok (.dup, 1) := by decide +kernel
theorem dX8_init_20 : decode cX8_init 20 = .ok (.invokespecial 18, 3) := by decide +kernel
theorem dX8_init_23 : decode cX8_init 23 = .ok (.putfield 19, 3) := by decide +kernel
theorem dX8_init_26 : decode cX8_init 26 = .ok (.aload_n 0, 1) := by decide +kernel
theorem dX8_init_27 : decode cX8_init 27 = .ok (.new 23, 3) := by decide +kernel
theorem dX8_init_30 : decode cX8_init 30 = .ok (.dup, 1) := by decide +kernel
theorem dX8_init_31 : decode cX8_init 31 = .ok (.invokespecial 25, 3) := by decide +kernel
theorem dX8_init_34 : decode cX8_init 34 = .ok (.putfield 26, 3) := by decide +kernel
theorem dX8_init_37 : decode cX8_init 37 = .ok (.aload_n 0, 1) := by decide +kernel
theorem dX8_init_38 : decode cX8_init 38 = .ok (.new 23, 3) := by decide +kernel
theorem dX8_init_41 : decode cX8_init 41 = .ok (.dup, 1) := by decide +kernel
theorem dX8_init_42 : decode cX8_init 42 = .ok (.invokespecial 25, 3) := by decide +kernel
theorem dX8_init_45 : decode cX8_init 45 = .ok (.putfield 30, 3) := by decide +kernel
theorem dX8_init_48 : decode cX8_init 48 = .ok (.aload_n 0, 1) := by decide +kernel
theorem dX8_init_49 : decode cX8_init 49 = .ok (.new 33, 3) := by decide +kernel
theorem dX8_init_52 : decode cX8_init 52 = .ok (.dup, 1) := by decide +kernel
theorem dX8_init_53 : decode cX8_init 53 = .ok (.bipush 6, 2) := by decide +kernel
theorem dX8_init_55 : decode cX8_init 55 = .ok (.invokespecial 35, 3) := by decide +kernel
theorem dX8_init_58 : decode cX8_init 58 = .ok (.putfield 38, 3) := by decide +kernel
theorem dX8_init_61 : decode cX8_init 61 = .ok (.aload_n 0, 1) := by decide +kernel
theorem dX8_init_62 : decode cX8_init 62 = .ok (.new 42, 3) := by decide +kernel
theorem dX8_init_65 : decode cX8_init 65 = .ok (.dup, 1) := by decide +kernel
theorem dX8_init_66 : decode cX8_init 66 = .ok (.invokespecial 44, 3) := by decide +kernel
theorem dX8_init_69 : decode cX8_init 69 = .ok (.putfield 45, 3) := by decide +kernel
theorem dX8_init_72 : decode cX8_init 72 = .ok (.aload_n 0, 1) := by decide +kernel
theorem dX8_init_73 : decode cX8_init 73 = .ok (.new 49, 3) := by decide +kernel
theorem dX8_init_76 : decode cX8_init 76 = .ok (.dup, 1) := by decide +kernel
theorem dX8_init_77 : decode cX8_init 77 = .ok (.invokespecial 51, 3) := by decide +kernel
theorem dX8_init_80 : decode cX8_init 80 = .ok (.putfield 52, 3) := by decide +kernel
theorem dX8_init_83 : decode cX8_init 83 = .ok (.aload_n 0, 1) := by decide +kernel
theorem dX8_init_84 : decode cX8_init 84 = .ok (.new 56, 3) := by decide +kernel
theorem dX8_init_87 : decode cX8_init 87 = .ok (.dup, 1) := by decide +kernel
theorem dX8_init_88 : decode cX8_init 88 = .ok (.invokespecial 58, 3) := by decide +kernel
theorem dX8_init_91 : decode cX8_init 91 = .ok (.putfield 59, 3) := by decide +kernel
theorem dX8_init_94 : decode cX8_init 94 = .ok (.aload_n 0, 1) := by decide +kernel
theorem dX8_init_95 : decode cX8_init 95 = .ok (.new 63, 3) := by decide +kernel
theorem dX8_init_98 : decode cX8_init 98 = .ok (.dup, 1) := by decide +kernel
theorem dX8_init_99 : decode cX8_init 99 = .ok (.invokespecial 65, 3) := by decide +kernel
theorem dX8_init_102 : decode cX8_init 102 = .ok (.putfield 66, 3) := by decide +kernel
theorem dX8_init_105 : decode cX8_init 105 = .ok (.iconst 0, 1) := by decide +kernel
theorem dX8_init_106 : decode cX8_init 106 = .ok (.istore_n 1, 1) := by decide +kernel
theorem dX8_init_107 : decode cX8_init 107 = .ok (.iload_n 1, 1) := by decide +kernel
theorem dX8_init_108 : decode cX8_init 108 = .ok (.ldc 70, 2) := by decide +kernel
theorem dX8_init_110 : decode cX8_init 110 = .ok (.invokevirtual 72, 3) := by decide +kernel
theorem dX8_init_113 : decode cX8_init 113 = .ok (.if_icmp .ge 23, 3) := by decide +kernel
theorem dX8_init_116 : decode cX8_init 116 = .ok (.aload_n 0, 1) := by decide +kernel
theorem dX8_init_117 : decode cX8_init 117 = .ok (.getfield 12, 3) := by decide +kernel
theorem dX8_init_120 : decode cX8_init 120 = .ok (.ldc 70, 2) := by decide +kernel
theorem dX8_init_122 : decode cX8_init 122 = .ok (.iload_n 1, 1) := by decide +kernel
theorem dX8_init_123 : decode cX8_init 123 = .ok (.invokevirtual 78, 3) := by decide +kernel
theorem dX8_init_126 : decode cX8_init 126 = .ok (.invokevirtual 82, 3) := by decide +kernel
theorem dX8_init_129 : decode cX8_init 129 = .ok (.pop, 1) := by decide +kernel
theorem dX8_init_130 : decode cX8_init 130 = .ok (.iinc 1 1, 3) := by decide +kernel
theorem dX8_init_133 : decode cX8_init 133 = .ok (.goto (-26), 3) := by decide +kernel
theorem dX8_init_136 : decode cX8_init 136 = .ok (.aload_n 0, 1) := by decide +kernel
theorem dX8_init_137 : decode cX8_init 137 = .ok (.getfield 19, 3) := by decide +kernel
theorem dX8_init_140 : decode cX8_init 140 = .ok (.aload_n 0, 1) := by decide +kernel
theorem dX8_init_141 : decode cX8_init 141 = .ok (.getfield 12, 3) := by decide +kernel
theorem dX8_init_144 : decode cX8_init 144 = .ok (.aload_n 0, 1) := by decide +kernel
theorem dX8_init_145 : decode cX8_init 145 = .ok (.getfield 26, 3) := by decide +kernel
theorem dX8_init_148 : decode cX8_init 148 = .ok (.invokevirtual 86, 3) := by decide +kernel
theorem dX8_init_151 : decode cX8_init 151 = .ok (.pop, 1) := by decide +kernel
theorem dX8_init_152 : decode cX8_init 152 = .ok (.aload_n 0, 1) := by decide +kernel
theorem dX8_init_153 : decode cX8_init 153 = .ok (.getfield 12, 3) := by decide +kernel
theorem dX8_init_156 : decode cX8_init 156 = .ok (.invokevirtual 90, 3) := by decide +kernel
theorem dX8_init_159 : decode cX8_init 159 = .ok (.return_, 1) := by decide +kernel
theorem dX8_write_0 : decode cX8_write 0 = .ok (.iload_n 1, 1) := by decide +kernel
theorem dX8_write_1 : decode cX8_write 1 = .ok (.bipush 32, 2) := by decide +kernel
theorem dX8_write_3 : decode cX8_write 3 = .ok (.if_icmp .lt 9, 3) := by decide +kernel
theorem dX8_write_6 : decode cX8_write 6 = .ok (.iload_n 1, 1) := by decide +kernel
theorem dX8_write_7 : decode cX8_write 7 = .ok (.bipush 126, 2) := by decide +kernel
theorem dX8_write_9 : decode cX8_write 9 = .ok (.if_icmp .le 5, 3) := by decide +kernel
theorem dX8_write_12 : decode cX8_write 12 = .ok (.iconst (-1), 1) := by decide +kernel
theorem dX8_write_13 : decode cX8_write 13 = .ok (.ireturn, 1) := by decide +kernel
theorem dX8_write_14 : decode cX8_write 14 = .ok (.aload_n 0, 1) := by decide +kernel
theorem dX8_write_15 : decode cX8_write 15 = .ok (.getfield 12, 3) := by decide +kernel
theorem dX8_write_18 : decode cX8_write 18 = .ok (.iload_n 1, 1) := by decide +kernel
theorem dX8_write_19 : decode cX8_write 19 = .ok (.invokevirtual 82, 3) := by decide +kernel
theorem dX8_write_22 : decode cX8_write 22 = .ok (.ifCond .eq 13, 3) := by decide +kernel
theorem dX8_write_25 : decode cX8_write 25 = .ok (.aload_n 0, 1) := by decide +kernel
theorem dX8_write_26 : decode cX8_write 26 = .ok (.getfield 12, 3) := by decide +kernel
theorem dX8_write_29 : decode cX8_write 29 = .ok (.invokevirtual 93, 3) := by decide +kernel
theorem dX8_write_32 : decode cX8_write 32 = .ok (.goto 5, 3) := by decide +kernel
theorem dX8_write_35 : decode cX8_write 35 = .ok (.bipush (-3), 2) := by decide +kernel
theorem dX8_write_37 : decode cX8_write 37 = .ok (.ireturn, 1) := by decide +kernel
theorem dX8_wipe_0 : decode cX8_wipe 0 = .ok (.aload_n 0, 1) := by decide +kernel
theorem dX8_wipe_1 : decode cX8_wipe 1 = .ok (.getfield 12, 3) := by decide +kernel
theorem dX8_wipe_4 : decode cX8_wipe 4 = .ok (.invokevirtual 93, 3) := by decide +kernel
theorem dX8_wipe_7 : decode cX8_wipe 7 = .ok (.istore_n 1, 1) := by decide +kernel
theorem dX8_wipe_8 : decode cX8_wipe 8 = .ok (.aload_n 0, 1) := by decide +kernel
theorem dX8_wipe_9 : decode cX8_wipe 9 = .ok (.getfield 12, 3) := by decide +kernel
theorem dX8_wipe_12 : decode cX8_wipe 12 = .ok (.invokevirtual 90, 3) := by decide +kernel
theorem dX8_wipe_15 : decode cX8_wipe 15 = .ok (.iload_n 1, 1) := by decide +kernel
theorem dX8_wipe_16 : decode cX8_wipe 16 = .ok (.ireturn, 1) := by decide +kernel
theorem dX8_fault_0 : decode cX8_fault 0 = .ok (.aload_n 0, 1) := by decide +kernel
theorem dX8_fault_1 : decode cX8_fault 1 = .ok (.getfield 19, 3) := by decide +kernel
theorem dX8_fault_4 : decode cX8_fault 4 = .ok (.aload_n 0, 1) := by decide +kernel
theorem dX8_fault_5 : decode cX8_fault 5 = .ok (.getfield 12, 3) := by decide +kernel
theorem dX8_fault_8 : decode cX8_fault 8 = .ok (.aload_n 0, 1) := by decide +kernel
theorem dX8_fault_9 : decode cX8_fault 9 = .ok (.getfield 30, 3) := by decide +kernel
theorem dX8_fault_12 : decode cX8_fault 12 = .ok (.invokevirtual 86, 3) := by decide +kernel
theorem dX8_fault_15 : decode cX8_fault 15 = .ok (.ireturn, 1) := by decide +kernel
theorem dX8_lay_0 : decode cX8_lay 0 = .ok (.aload_n 0, 1) := by decide +kernel
theorem dX8_lay_1 : decode cX8_lay 1 = .ok (.getfield 19, 3) := by decide +kernel
theorem dX8_lay_4 : decode cX8_lay 4 = .ok (.aload_n 0, 1) := by decide +kernel
theorem dX8_lay_5 : decode cX8_lay 5 = .ok (.getfield 12, 3) := by decide +kernel
theorem dX8_lay_8 : decode cX8_lay 8 = .ok (.aload_n 0, 1) := by decide +kernel
theorem dX8_lay_9 : decode cX8_lay 9 = .ok (.getfield 30, 3) := by decide +kernel
theorem dX8_lay_12 : decode cX8_lay 12 = .ok (.invokevirtual 86, 3) := by decide +kernel
theorem dX8_lay_15 : decode cX8_lay 15 = .ok (.bipush (-4), 2) := by decide +kernel
theorem dX8_lay_17 : decode cX8_lay 17 = .ok (.if_icmp .ne 13, 3) := by decide +kernel
theorem dX8_lay_20 : decode cX8_lay 20 = .ok (.aload_n 0, 1) := by decide +kernel
theorem dX8_lay_21 : decode cX8_lay 21 = .ok (.getfield 30, 3) := by decide +kernel
theorem dX8_lay_24 : decode cX8_lay 24 = .ok (.invokevirtual 94, 3) := by decide +kernel
theorem dX8_lay_27 : decode cX8_lay 27 = .ok (.ifCond .ne 6, 3) := by decide +kernel
theorem dX8_lay_30 : decode cX8_lay 30 = .ok (.bipush (-2), 2) := by decide +kernel
theorem dX8_lay_32 : decode cX8_lay 32 = .ok (.ireturn, 1) := by decide +kernel
theorem dX8_lay_33 : decode cX8_lay 33 = .ok (.aload_n 0, 1) := by decide +kernel
theorem dX8_lay_34 : decode cX8_lay 34 = .ok (.getfield 26, 3) := by decide +kernel
theorem dX8_lay_37 : decode cX8_lay 37 = .ok (.aload_n 0, 1) := by decide +kernel
theorem dX8_lay_38 : decode cX8_lay 38 = .ok (.getfield 30, 3) := by decide +kernel
theorem dX8_lay_41 : decode cX8_lay 41 = .ok (.invokevirtual 97, 3) := by decide +kernel
theorem dX8_lay_44 : decode cX8_lay 44 = .ok (.aload_n 0, 1) := by decide +kernel
theorem dX8_lay_45 : decode cX8_lay 45 = .ok (.getfield 38, 3) := by decide +kernel
theorem dX8_lay_48 : decode cX8_lay 48 = .ok (.invokevirtual 101, 3) := by decide +kernel
theorem dX8_lay_51 : decode cX8_lay 51 = .ok (.aload_n 0, 1) := by decide +kernel
theorem dX8_lay_52 : decode cX8_lay 52 = .ok (.getfield 52, 3) := by decide +kernel
theorem dX8_lay_55 : decode cX8_lay 55 = .ok (.invokevirtual 102, 3) := by decide +kernel
theorem dX8_lay_58 : decode cX8_lay 58 = .ok (.aload_n 0, 1) := by decide +kernel
theorem dX8_lay_59 : decode cX8_lay 59 = .ok (.getfield 26, 3) := by decide +kernel
theorem dX8_lay_62 : decode cX8_lay 62 = .ok (.invokevirtual 94, 3) := by decide +kernel
theorem dX8_lay_65 : decode cX8_lay 65 = .ok (.ireturn, 1) := by decide +kernel
theorem dX8_name_0 : decode cX8_name 0 = .ok (.aload_n 0, 1) := by decide +kernel
theorem dX8_name_1 : decode cX8_name 1 = .ok (.getfield 26, 3) := by decide +kernel
theorem dX8_name_4 : decode cX8_name 4 = .ok (.iload_n 1, 1) := by decide +kernel
theorem dX8_name_5 : decode cX8_name 5 = .ok (.invokevirtual 103, 3) := by decide +kernel
theorem dX8_name_8 : decode cX8_name 8 = .ok (.ifCond .ne 5, 3) := by decide +kernel
theorem dX8_name_11 : decode cX8_name 11 = .ok (.iconst (-1), 1) := by decide +kernel
theorem dX8_name_12 : decode cX8_name 12 = .ok (.ireturn, 1) := by decide +kernel
theorem dX8_name_13 : decode cX8_name 13 = .ok (.iload_n 2, 1) := by decide +kernel
theorem dX8_name_14 : decode cX8_name 14 = .ok (.tableswitch 66 0 3 #[30, 39, 48, 57], 30) := by decide +kernel
theorem dX8_name_44 : decode cX8_name 44 = .ok (.aload_n 0, 1) := by decide +kernel
theorem dX8_name_45 : decode cX8_name 45 = .ok (.getfield 26, 3) := by decide +kernel
theorem dX8_name_48 : decode cX8_name 48 = .ok (.iload_n 1, 1) := by decide +kernel
theorem dX8_name_49 : decode cX8_name 49 = .ok (.invokevirtual 106, 3) := by decide +kernel
theorem dX8_name_52 : decode cX8_name 52 = .ok (.ireturn, 1) := by decide +kernel
theorem dX8_name_53 : decode cX8_name 53 = .ok (.aload_n 0, 1) := by decide +kernel
theorem dX8_name_54 : decode cX8_name 54 = .ok (.getfield 26, 3) := by decide +kernel
theorem dX8_name_57 : decode cX8_name 57 = .ok (.iload_n 1, 1) := by decide +kernel
theorem dX8_name_58 : decode cX8_name 58 = .ok (.invokevirtual 110, 3) := by decide +kernel
theorem dX8_name_61 : decode cX8_name 61 = .ok (.ireturn, 1) := by decide +kernel
theorem dX8_name_62 : decode cX8_name 62 = .ok (.aload_n 0, 1) := by decide +kernel
theorem dX8_name_63 : decode cX8_name 63 = .ok (.getfield 26, 3) := by decide +kernel
theorem dX8_name_66 : decode cX8_name 66 = .ok (.iload_n 1, 1) := by decide +kernel
theorem dX8_name_67 : decode cX8_name 67 = .ok (.invokevirtual 113, 3) := by decide +kernel
theorem dX8_name_70 : decode cX8_name 70 = .ok (.ireturn, 1) := by decide +kernel
theorem dX8_name_71 : decode cX8_name 71 = .ok (.aload_n 0, 1) := by decide +kernel
theorem dX8_name_72 : decode cX8_name 72 = .ok (.getfield 26, 3) := by decide +kernel
theorem dX8_name_75 : decode cX8_name 75 = .ok (.iload_n 1, 1) := by decide +kernel
theorem dX8_name_76 : decode cX8_name 76 = .ok (.invokevirtual 116, 3) := by decide +kernel
theorem dX8_name_79 : decode cX8_name 79 = .ok (.ireturn, 1) := by decide +kernel
theorem dX8_name_80 : decode cX8_name 80 = .ok (.iconst (-1), 1) := by decide +kernel
theorem dX8_name_81 : decode cX8_name 81 = .ok (.ireturn, 1) := by decide +kernel
theorem dX8_single_0 : decode cX8_single 0 = .ok (.aload_n 0, 1) := by decide +kernel
theorem dX8_single_1 : decode cX8_single 1 = .ok (.getfield 26, 3) := by decide +kernel
theorem dX8_single_4 : decode cX8_single 4 = .ok (.iload_n 1, 1) := by decide +kernel
theorem dX8_single_5 : decode cX8_single 5 = .ok (.iload_n 2, 1) := by decide +kernel
theorem dX8_single_6 : decode cX8_single 6 = .ok (.invokevirtual 119, 3) := by decide +kernel
theorem dX8_single_9 : decode cX8_single 9 = .ok (.ifCond .eq 15, 3) := by decide +kernel
theorem dX8_single_12 : decode cX8_single 12 = .ok (.aload_n 0, 1) := by decide +kernel
theorem dX8_single_13 : decode cX8_single 13 = .ok (.getfield 26, 3) := by decide +kernel
theorem dX8_single_16 : decode cX8_single 16 = .ok (.iload_n 1, 1) := by decide +kernel
theorem dX8_single_17 : decode cX8_single 17 = .ok (.iload_n 2, 1) := by decide +kernel
theorem dX8_single_18 : decode cX8_single 18 = .ok (.invokevirtual 123, 3) := by decide +kernel
theorem dX8_single_21 : decode cX8_single 21 = .ok (.goto 4, 3) := by decide +kernel
theorem dX8_single_24 : decode cX8_single 24 = .ok (.iconst (-1), 1) := by decide +kernel
theorem dX8_single_25 : decode cX8_single 25 = .ok (.ireturn, 1) := by decide +kernel
theorem dX8_table_0 : decode cX8_table 0 = .ok (.aload_n 0, 1) := by decide +kernel
theorem dX8_table_1 : decode cX8_table 1 = .ok (.getfield 26, 3) := by decide +kernel
theorem dX8_table_4 : decode cX8_table 4 = .ok (.iload_n 1, 1) := by decide +kernel
theorem dX8_table_5 : decode cX8_table 5 = .ok (.invokevirtual 127, 3) := by decide +kernel
theorem dX8_table_8 : decode cX8_table 8 = .ok (.ifCond .ne 5, 3) := by decide +kernel
theorem dX8_table_11 : decode cX8_table 11 = .ok (.iconst (-1), 1) := by decide +kernel
theorem dX8_table_12 : decode cX8_table 12 = .ok (.ireturn, 1) := by decide +kernel
theorem dX8_table_13 : decode cX8_table 13 = .ok (.iload_n 2, 1) := by decide +kernel
theorem dX8_table_14 : decode cX8_table 14 = .ok (.tableswitch 68 0 3 #[30, 40, 50, 59], 30) := by decide +kernel
theorem dX8_table_44 : decode cX8_table 44 = .ok (.aload_n 0, 1) := by decide +kernel
theorem dX8_table_45 : decode cX8_table 45 = .ok (.getfield 26, 3) := by decide +kernel
theorem dX8_table_48 : decode cX8_table 48 = .ok (.iload_n 1, 1) := by decide +kernel
theorem dX8_table_49 : decode cX8_table 49 = .ok (.iconst 0, 1) := by decide +kernel
theorem dX8_table_50 : decode cX8_table 50 = .ok (.invokevirtual 130, 3) := by decide +kernel
theorem dX8_table_53 : decode cX8_table 53 = .ok (.ireturn, 1) := by decide +kernel
theorem dX8_table_54 : decode cX8_table 54 = .ok (.aload_n 0, 1) := by decide +kernel
theorem dX8_table_55 : decode cX8_table 55 = .ok (.getfield 26, 3) := by decide +kernel
theorem dX8_table_58 : decode cX8_table 58 = .ok (.iload_n 1, 1) := by decide +kernel
theorem dX8_table_59 : decode cX8_table 59 = .ok (.iconst 1, 1) := by decide +kernel
theorem dX8_table_60 : decode cX8_table 60 = .ok (.invokevirtual 130, 3) := by decide +kernel
theorem dX8_table_63 : decode cX8_table 63 = .ok (.ireturn, 1) := by decide +kernel
theorem dX8_table_64 : decode cX8_table 64 = .ok (.aload_n 0, 1) := by decide +kernel
theorem dX8_table_65 : decode cX8_table 65 = .ok (.getfield 26, 3) := by decide +kernel
theorem dX8_table_68 : decode cX8_table 68 = .ok (.iload_n 1, 1) := by decide +kernel
theorem dX8_table_69 : decode cX8_table 69 = .ok (.invokevirtual 133, 3) := by decide +kernel
theorem dX8_table_72 : decode cX8_table 72 = .ok (.ireturn, 1) := by decide +kernel
theorem dX8_table_73 : decode cX8_table 73 = .ok (.aload_n 0, 1) := by decide +kernel
theorem dX8_table_74 : decode cX8_table 74 = .ok (.getfield 26, 3) := by decide +kernel
theorem dX8_table_77 : decode cX8_table 77 = .ok (.iload_n 1, 1) := by decide +kernel
theorem dX8_table_78 : decode cX8_table 78 = .ok (.invokevirtual 136, 3) := by decide +kernel
theorem dX8_table_81 : decode cX8_table 81 = .ok (.ireturn, 1) := by decide +kernel
theorem dX8_table_82 : decode cX8_table 82 = .ok (.iconst (-1), 1) := by decide +kernel
theorem dX8_table_83 : decode cX8_table 83 = .ok (.ireturn, 1) := by decide +kernel
theorem dX8_pair_0 : decode cX8_pair 0 = .ok (.aload_n 0, 1) := by decide +kernel
theorem dX8_pair_1 : decode cX8_pair 1 = .ok (.getfield 26, 3) := by decide +kernel
theorem dX8_pair_4 : decode cX8_pair 4 = .ok (.iload_n 1, 1) := by decide +kernel
theorem dX8_pair_5 : decode cX8_pair 5 = .ok (.iload_n 2, 1) := by decide +kernel
theorem dX8_pair_6 : decode cX8_pair 6 = .ok (.iload_n 3, 1) := by decide +kernel
theorem dX8_pair_7 : decode cX8_pair 7 = .ok (.invokevirtual 139, 3) := by decide +kernel
theorem dX8_pair_10 : decode cX8_pair 10 = .ok (.ifCond .eq 16, 3) := by decide +kernel
theorem dX8_pair_13 : decode cX8_pair 13 = .ok (.aload_n 0, 1) := by decide +kernel
theorem dX8_pair_14 : decode cX8_pair 14 = .ok (.getfield 26, 3) := by decide +kernel
theorem dX8_pair_17 : decode cX8_pair 17 = .ok (.iload_n 1, 1) := by decide +kernel
theorem dX8_pair_18 : decode cX8_pair 18 = .ok (.iload_n 2, 1) := by decide +kernel
theorem dX8_pair_19 : decode cX8_pair 19 = .ok (.iload_n 3, 1) := by decide +kernel
theorem dX8_pair_20 : decode cX8_pair 20 = .ok (.invokevirtual 143, 3) := by decide +kernel
theorem dX8_pair_23 : decode cX8_pair 23 = .ok (.goto 4, 3) := by decide +kernel
theorem dX8_pair_26 : decode cX8_pair 26 = .ok (.iconst (-1), 1) := by decide +kernel
theorem dX8_pair_27 : decode cX8_pair 27 = .ok (.ireturn, 1) := by decide +kernel
theorem dX8_grow_0 : decode cX8_grow 0 = .ok (.aload_n 0, 1) := by decide +kernel
theorem dX8_grow_1 : decode cX8_grow 1 = .ok (.getfield 26, 3) := by decide +kernel
theorem dX8_grow_4 : decode cX8_grow 4 = .ok (.iload_n 1, 1) := by decide +kernel
theorem dX8_grow_5 : decode cX8_grow 5 = .ok (.iload_n 2, 1) := by decide +kernel
theorem dX8_grow_6 : decode cX8_grow 6 = .ok (.invokevirtual 119, 3) := by decide +kernel
theorem dX8_grow_9 : decode cX8_grow 9 = .ok (.ifCond .eq 10, 3) := by decide +kernel
theorem dX8_grow_12 : decode cX8_grow 12 = .ok (.iload_n 3, 1) := by decide +kernel
theorem dX8_grow_13 : decode cX8_grow 13 = .ok (.invokestatic 147, 3) := by decide +kernel
theorem dX8_grow_16 : decode cX8_grow 16 = .ok (.ifCond .ne 5, 3) := by decide +kernel
theorem dX8_grow_19 : decode cX8_grow 19 = .ok (.iconst (-1), 1) := by decide +kernel
theorem dX8_grow_20 : decode cX8_grow 20 = .ok (.ireturn, 1) := by decide +kernel
theorem dX8_grow_21 : decode cX8_grow 21 = .ok (.aload_n 0, 1) := by decide +kernel
theorem dX8_grow_22 : decode cX8_grow 22 = .ok (.getfield 52, 3) := by decide +kernel
theorem dX8_grow_25 : decode cX8_grow 25 = .ok (.aload_n 0, 1) := by decide +kernel
theorem dX8_grow_26 : decode cX8_grow 26 = .ok (.getfield 26, 3) := by decide +kernel
theorem dX8_grow_29 : decode cX8_grow 29 = .ok (.invokevirtual 150, 3) := by decide +kernel
theorem dX8_grow_32 : decode cX8_grow 32 = .ok (.aload_n 0, 1) := by decide +kernel
theorem dX8_grow_33 : decode cX8_grow 33 = .ok (.getfield 26, 3) := by decide +kernel
theorem dX8_grow_36 : decode cX8_grow 36 = .ok (.iload_n 1, 1) := by decide +kernel
theorem dX8_grow_37 : decode cX8_grow 37 = .ok (.iload_n 2, 1) := by decide +kernel
theorem dX8_grow_38 : decode cX8_grow 38 = .ok (.iload_n 3, 1) := by decide +kernel
theorem dX8_grow_39 : decode cX8_grow 39 = .ok (.invokevirtual 153, 3) := by decide +kernel
theorem dX8_grow_42 : decode cX8_grow 42 = .ok (.aload_n 0, 1) := by decide +kernel
theorem dX8_grow_43 : decode cX8_grow 43 = .ok (.getfield 26, 3) := by decide +kernel
theorem dX8_grow_46 : decode cX8_grow 46 = .ok (.iload_n 1, 1) := by decide +kernel
theorem dX8_grow_47 : decode cX8_grow 47 = .ok (.iload_n 2, 1) := by decide +kernel
theorem dX8_grow_48 : decode cX8_grow 48 = .ok (.invokevirtual 123, 3) := by decide +kernel
theorem dX8_grow_51 : decode cX8_grow 51 = .ok (.ireturn, 1) := by decide +kernel
theorem dX8_choose_0 : decode cX8_choose 0 = .ok (.aload_n 0, 1) := by decide +kernel
theorem dX8_choose_1 : decode cX8_choose 1 = .ok (.getfield 26, 3) := by decide +kernel
theorem dX8_choose_4 : decode cX8_choose 4 = .ok (.iload_n 1, 1) := by decide +kernel
theorem dX8_choose_5 : decode cX8_choose 5 = .ok (.iload_n 2, 1) := by decide +kernel
theorem dX8_choose_6 : decode cX8_choose 6 = .ok (.invokevirtual 119, 3) := by decide +kernel
theorem dX8_choose_9 : decode cX8_choose 9 = .ok (.ifCond .ne 5, 3) := by decide +kernel
theorem dX8_choose_12 : decode cX8_choose 12 = .ok (.iconst (-1), 1) := by decide +kernel
theorem dX8_choose_13 : decode cX8_choose 13 = .ok (.ireturn, 1) := by decide +kernel
theorem dX8_choose_14 : decode cX8_choose 14 = .ok (.aload_n 0, 1) := by decide +kernel
theorem dX8_choose_15 : decode cX8_choose 15 = .ok (.getfield 38, 3) := by decide +kernel
theorem dX8_choose_18 : decode cX8_choose 18 = .ok (.iload_n 1, 1) := by decide +kernel
theorem dX8_choose_19 : decode cX8_choose 19 = .ok (.invokevirtual 157, 3) := by decide +kernel
theorem dX8_choose_22 : decode cX8_choose 22 = .ok (.istore_n 3, 1) := by decide +kernel
theorem dX8_choose_23 : decode cX8_choose 23 = .ok (.iload_n 3, 1) := by decide +kernel
theorem dX8_choose_24 : decode cX8_choose 24 = .ok (.iload_n 2, 1) := by decide +kernel
theorem dX8_choose_25 : decode cX8_choose 25 = .ok (.if_icmp .ne 6, 3) := by decide +kernel
theorem dX8_choose_28 : decode cX8_choose 28 = .ok (.bipush (-2), 2) := by decide +kernel
theorem dX8_choose_30 : decode cX8_choose 30 = .ok (.ireturn, 1) := by decide +kernel
theorem dX8_choose_31 : decode cX8_choose 31 = .ok (.aload_n 0, 1) := by decide +kernel
theorem dX8_choose_32 : decode cX8_choose 32 = .ok (.getfield 38, 3) := by decide +kernel
theorem dX8_choose_35 : decode cX8_choose 35 = .ok (.iload_n 1, 1) := by decide +kernel
theorem dX8_choose_36 : decode cX8_choose 36 = .ok (.iload_n 2, 1) := by decide +kernel
theorem dX8_choose_37 : decode cX8_choose 37 = .ok (.invokevirtual 160, 3) := by decide +kernel
theorem dX8_choose_40 : decode cX8_choose 40 = .ok (.iload_n 3, 1) := by decide +kernel
theorem dX8_choose_41 : decode cX8_choose 41 = .ok (.ireturn, 1) := by decide +kernel
theorem dX8_total_0 : decode cX8_total 0 = .ok (.aload_n 0, 1) := by decide +kernel
theorem dX8_total_1 : decode cX8_total 1 = .ok (.getfield 26, 3) := by decide +kernel
theorem dX8_total_4 : decode cX8_total 4 = .ok (.aload_n 0, 1) := by decide +kernel
theorem dX8_total_5 : decode cX8_total 5 = .ok (.getfield 38, 3) := by decide +kernel
theorem dX8_total_8 : decode cX8_total 8 = .ok (.invokevirtual 164, 3) := by decide +kernel
theorem dX8_total_11 : decode cX8_total 11 = .ok (.ireturn, 1) := by decide +kernel
theorem dX8_project_0 : decode cX8_project 0 = .ok (.aload_n 0, 1) := by decide +kernel
theorem dX8_project_1 : decode cX8_project 1 = .ok (.getfield 26, 3) := by decide +kernel
theorem dX8_project_4 : decode cX8_project 4 = .ok (.iload_n 1, 1) := by decide +kernel
theorem dX8_project_5 : decode cX8_project 5 = .ok (.iload_n 2, 1) := by decide +kernel
theorem dX8_project_6 : decode cX8_project 6 = .ok (.iload_n 3, 1) := by decide +kernel
theorem dX8_project_7 : decode cX8_project 7 = .ok (.invokevirtual 168, 3) := by decide +kernel
theorem dX8_project_10 : decode cX8_project 10 = .ok (.ifCond .eq 11, 3) := by decide +kernel
theorem dX8_project_13 : decode cX8_project 13 = .ok (.iload 4, 2) := by decide +kernel
theorem dX8_project_15 : decode cX8_project 15 = .ok (.invokestatic 147, 3) := by decide +kernel
theorem dX8_project_18 : decode cX8_project 18 = .ok (.ifCond .ne 5, 3) := by decide +kernel
theorem dX8_project_21 : decode cX8_project 21 = .ok (.iconst (-1), 1) := by decide +kernel
theorem dX8_project_22 : decode cX8_project 22 = .ok (.ireturn, 1) := by decide +kernel
theorem dX8_project_23 : decode cX8_project 23 = .ok (.aload_n 0, 1) := by decide +kernel
theorem dX8_project_24 : decode cX8_project 24 = .ok (.getfield 26, 3) := by decide +kernel
theorem dX8_project_27 : decode cX8_project 27 = .ok (.iload_n 1, 1) := by decide +kernel
theorem dX8_project_28 : decode cX8_project 28 = .ok (.iload_n 2, 1) := by decide +kernel
theorem dX8_project_29 : decode cX8_project 29 = .ok (.iload_n 3, 1) := by decide +kernel
theorem dX8_project_30 : decode cX8_project 30 = .ok (.invokevirtual 171, 3) := by decide +kernel
theorem dX8_project_33 : decode cX8_project 33 = .ok (.iload 4, 2) := by decide +kernel
theorem dX8_project_35 : decode cX8_project 35 = .ok (.if_icmp .ge 6, 3) := by decide +kernel
theorem dX8_project_38 : decode cX8_project 38 = .ok (.bipush (-2), 2) := by decide +kernel
theorem dX8_project_40 : decode cX8_project 40 = .ok (.ireturn, 1) := by decide +kernel
theorem dX8_project_41 : decode cX8_project 41 = .ok (.aload_n 0, 1) := by decide +kernel
theorem dX8_project_42 : decode cX8_project 42 = .ok (.getfield 52, 3) := by decide +kernel
theorem dX8_project_45 : decode cX8_project 45 = .ok (.aload_n 0, 1) := by decide +kernel
theorem dX8_project_46 : decode cX8_project 46 = .ok (.getfield 26, 3) := by decide +kernel
theorem dX8_project_49 : decode cX8_project 49 = .ok (.invokevirtual 150, 3) := by decide +kernel
theorem dX8_project_52 : decode cX8_project 52 = .ok (.aload_n 0, 1) := by decide +kernel
theorem dX8_project_53 : decode cX8_project 53 = .ok (.getfield 26, 3) := by decide +kernel
theorem dX8_project_56 : decode cX8_project 56 = .ok (.iload_n 1, 1) := by decide +kernel
theorem dX8_project_57 : decode cX8_project 57 = .ok (.iload_n 2, 1) := by decide +kernel
theorem dX8_project_58 : decode cX8_project 58 = .ok (.iload_n 3, 1) := by decide +kernel
theorem dX8_project_59 : decode cX8_project 59 = .ok (.iload 4, 2) := by decide +kernel
theorem dX8_project_61 : decode cX8_project 61 = .ok (.invokevirtual 174, 3) := by decide +kernel
theorem dX8_project_64 : decode cX8_project 64 = .ok (.aload_n 0, 1) := by decide +kernel
theorem dX8_project_65 : decode cX8_project 65 = .ok (.getfield 26, 3) := by decide +kernel
theorem dX8_project_68 : decode cX8_project 68 = .ok (.aload_n 0, 1) := by decide +kernel
theorem dX8_project_69 : decode cX8_project 69 = .ok (.getfield 26, 3) := by decide +kernel
theorem dX8_project_72 : decode cX8_project 72 = .ok (.iload_n 1, 1) := by decide +kernel
theorem dX8_project_73 : decode cX8_project 73 = .ok (.iload_n 2, 1) := by decide +kernel
theorem dX8_project_74 : decode cX8_project 74 = .ok (.invokevirtual 130, 3) := by decide +kernel
theorem dX8_project_77 : decode cX8_project 77 = .ok (.iload_n 3, 1) := by decide +kernel
theorem dX8_project_78 : decode cX8_project 78 = .ok (.invokevirtual 123, 3) := by decide +kernel
theorem dX8_project_81 : decode cX8_project 81 = .ok (.ireturn, 1) := by decide +kernel
theorem dX8_extend_0 : decode cX8_extend 0 = .ok (.aload_n 0, 1) := by decide +kernel
theorem dX8_extend_1 : decode cX8_extend 1 = .ok (.getfield 26, 3) := by decide +kernel
theorem dX8_extend_4 : decode cX8_extend 4 = .ok (.iload_n 1, 1) := by decide +kernel
theorem dX8_extend_5 : decode cX8_extend 5 = .ok (.iload_n 2, 1) := by decide +kernel
theorem dX8_extend_6 : decode cX8_extend 6 = .ok (.iload_n 3, 1) := by decide +kernel
theorem dX8_extend_7 : decode cX8_extend 7 = .ok (.invokevirtual 168, 3) := by decide +kernel
theorem dX8_extend_10 : decode cX8_extend 10 = .ok (.ifCond .eq 11, 3) := by decide +kernel
theorem dX8_extend_13 : decode cX8_extend 13 = .ok (.iload 4, 2) := by decide +kernel
theorem dX8_extend_15 : decode cX8_extend 15 = .ok (.invokestatic 147, 3) := by decide +kernel
theorem dX8_extend_18 : decode cX8_extend 18 = .ok (.ifCond .ne 5, 3) := by decide +kernel
theorem dX8_extend_21 : decode cX8_extend 21 = .ok (.iconst (-1), 1) := by decide +kernel
theorem dX8_extend_22 : decode cX8_extend 22 = .ok (.ireturn, 1) := by decide +kernel
theorem dX8_extend_23 : decode cX8_extend 23 = .ok (.aload_n 0, 1) := by decide +kernel
theorem dX8_extend_24 : decode cX8_extend 24 = .ok (.getfield 26, 3) := by decide +kernel
theorem dX8_extend_27 : decode cX8_extend 27 = .ok (.iload_n 1, 1) := by decide +kernel
theorem dX8_extend_28 : decode cX8_extend 28 = .ok (.iload_n 2, 1) := by decide +kernel
theorem dX8_extend_29 : decode cX8_extend 29 = .ok (.invokevirtual 130, 3) := by decide +kernel
theorem dX8_extend_32 : decode cX8_extend 32 = .ok (.istore 5, 2) := by decide +kernel
theorem dX8_extend_34 : decode cX8_extend 34 = .ok (.aload_n 0, 1) := by decide +kernel
theorem dX8_extend_35 : decode cX8_extend 35 = .ok (.getfield 26, 3) := by decide +kernel
theorem dX8_extend_38 : decode cX8_extend 38 = .ok (.iload 5, 2) := by decide +kernel
theorem dX8_extend_40 : decode cX8_extend 40 = .ok (.iload_n 3, 1) := by decide +kernel
theorem dX8_extend_41 : decode cX8_extend 41 = .ok (.invokevirtual 123, 3) := by decide +kernel
theorem dX8_extend_44 : decode cX8_extend 44 = .ok (.iload 4, 2) := by decide +kernel
theorem dX8_extend_46 : decode cX8_extend 46 = .ok (.if_icmp .ge 6, 3) := by decide +kernel
theorem dX8_extend_49 : decode cX8_extend 49 = .ok (.bipush (-2), 2) := by decide +kernel
theorem dX8_extend_51 : decode cX8_extend 51 = .ok (.ireturn, 1) := by decide +kernel
theorem dX8_extend_52 : decode cX8_extend 52 = .ok (.aload_n 0, 1) := by decide +kernel
theorem dX8_extend_53 : decode cX8_extend 53 = .ok (.getfield 52, 3) := by decide +kernel
theorem dX8_extend_56 : decode cX8_extend 56 = .ok (.aload_n 0, 1) := by decide +kernel
theorem dX8_extend_57 : decode cX8_extend 57 = .ok (.getfield 26, 3) := by decide +kernel
theorem dX8_extend_60 : decode cX8_extend 60 = .ok (.invokevirtual 150, 3) := by decide +kernel
theorem dX8_extend_63 : decode cX8_extend 63 = .ok (.aload_n 0, 1) := by decide +kernel
theorem dX8_extend_64 : decode cX8_extend 64 = .ok (.getfield 26, 3) := by decide +kernel
theorem dX8_extend_67 : decode cX8_extend 67 = .ok (.iload_n 1, 1) := by decide +kernel
theorem dX8_extend_68 : decode cX8_extend 68 = .ok (.iload_n 2, 1) := by decide +kernel
theorem dX8_extend_69 : decode cX8_extend 69 = .ok (.iload_n 3, 1) := by decide +kernel
theorem dX8_extend_70 : decode cX8_extend 70 = .ok (.iload 4, 2) := by decide +kernel
theorem dX8_extend_72 : decode cX8_extend 72 = .ok (.invokevirtual 178, 3) := by decide +kernel
theorem dX8_extend_75 : decode cX8_extend 75 = .ok (.aload_n 0, 1) := by decide +kernel
theorem dX8_extend_76 : decode cX8_extend 76 = .ok (.getfield 26, 3) := by decide +kernel
theorem dX8_extend_79 : decode cX8_extend 79 = .ok (.iload 5, 2) := by decide +kernel
theorem dX8_extend_81 : decode cX8_extend 81 = .ok (.iload_n 3, 1) := by decide +kernel
theorem dX8_extend_82 : decode cX8_extend 82 = .ok (.invokevirtual 123, 3) := by decide +kernel
theorem dX8_extend_85 : decode cX8_extend 85 = .ok (.ireturn, 1) := by decide +kernel
theorem dX8_raise_0 : decode cX8_raise 0 = .ok (.aload_n 0, 1) := by decide +kernel
theorem dX8_raise_1 : decode cX8_raise 1 = .ok (.getfield 26, 3) := by decide +kernel
theorem dX8_raise_4 : decode cX8_raise 4 = .ok (.iload_n 1, 1) := by decide +kernel
theorem dX8_raise_5 : decode cX8_raise 5 = .ok (.invokevirtual 103, 3) := by decide +kernel
theorem dX8_raise_8 : decode cX8_raise 8 = .ok (.ifCond .eq 10, 3) := by decide +kernel
theorem dX8_raise_11 : decode cX8_raise 11 = .ok (.iload_n 2, 1) := by decide +kernel
theorem dX8_raise_12 : decode cX8_raise 12 = .ok (.invokestatic 147, 3) := by decide +kernel
theorem dX8_raise_15 : decode cX8_raise 15 = .ok (.ifCond .ne 5, 3) := by decide +kernel
theorem dX8_raise_18 : decode cX8_raise 18 = .ok (.iconst (-1), 1) := by decide +kernel
theorem dX8_raise_19 : decode cX8_raise 19 = .ok (.ireturn, 1) := by decide +kernel
theorem dX8_raise_20 : decode cX8_raise 20 = .ok (.aload_n 0, 1) := by decide +kernel
theorem dX8_raise_21 : decode cX8_raise 21 = .ok (.getfield 26, 3) := by decide +kernel
theorem dX8_raise_24 : decode cX8_raise 24 = .ok (.iload_n 1, 1) := by decide +kernel
theorem dX8_raise_25 : decode cX8_raise 25 = .ok (.invokevirtual 116, 3) := by decide +kernel
theorem dX8_raise_28 : decode cX8_raise 28 = .ok (.iload_n 2, 1) := by decide +kernel
theorem dX8_raise_29 : decode cX8_raise 29 = .ok (.if_icmp .ge 6, 3) := by decide +kernel
theorem dX8_raise_32 : decode cX8_raise 32 = .ok (.bipush (-2), 2) := by decide +kernel
theorem dX8_raise_34 : decode cX8_raise 34 = .ok (.ireturn, 1) := by decide +kernel
theorem dX8_raise_35 : decode cX8_raise 35 = .ok (.aload_n 0, 1) := by decide +kernel
theorem dX8_raise_36 : decode cX8_raise 36 = .ok (.getfield 52, 3) := by decide +kernel
theorem dX8_raise_39 : decode cX8_raise 39 = .ok (.aload_n 0, 1) := by decide +kernel
theorem dX8_raise_40 : decode cX8_raise 40 = .ok (.getfield 26, 3) := by decide +kernel
theorem dX8_raise_43 : decode cX8_raise 43 = .ok (.invokevirtual 150, 3) := by decide +kernel
theorem dX8_raise_46 : decode cX8_raise 46 = .ok (.aload_n 0, 1) := by decide +kernel
theorem dX8_raise_47 : decode cX8_raise 47 = .ok (.getfield 26, 3) := by decide +kernel
theorem dX8_raise_50 : decode cX8_raise 50 = .ok (.iload_n 1, 1) := by decide +kernel
theorem dX8_raise_51 : decode cX8_raise 51 = .ok (.iload_n 2, 1) := by decide +kernel
theorem dX8_raise_52 : decode cX8_raise 52 = .ok (.invokevirtual 181, 3) := by decide +kernel
theorem dX8_raise_55 : decode cX8_raise 55 = .ok (.aload_n 0, 1) := by decide +kernel
theorem dX8_raise_56 : decode cX8_raise 56 = .ok (.getfield 26, 3) := by decide +kernel
theorem dX8_raise_59 : decode cX8_raise 59 = .ok (.invokevirtual 184, 3) := by decide +kernel
theorem dX8_raise_62 : decode cX8_raise 62 = .ok (.ireturn, 1) := by decide +kernel
theorem dX8_sweep_0 : decode cX8_sweep 0 = .ok (.iload_n 1, 1) := by decide +kernel
theorem dX8_sweep_1 : decode cX8_sweep 1 = .ok (.invokestatic 187, 3) := by decide +kernel
theorem dX8_sweep_4 : decode cX8_sweep 4 = .ok (.ifCond .eq 14, 3) := by decide +kernel
theorem dX8_sweep_7 : decode cX8_sweep 7 = .ok (.iload_n 2, 1) := by decide +kernel
theorem dX8_sweep_8 : decode cX8_sweep 8 = .ok (.iconst 1, 1) := by decide +kernel
theorem dX8_sweep_9 : decode cX8_sweep 9 = .ok (.if_icmp .lt 9, 3) := by decide +kernel
theorem dX8_sweep_12 : decode cX8_sweep 12 = .ok (.iload_n 2, 1) := by decide +kernel
theorem dX8_sweep_13 : decode cX8_sweep 13 = .ok (.bipush 9, 2) := by decide +kernel
theorem dX8_sweep_15 : decode cX8_sweep 15 = .ok (.if_icmp .le 5, 3) := by decide +kernel
theorem dX8_sweep_18 : decode cX8_sweep 18 = .ok (.iconst (-1), 1) := by decide +kernel
theorem dX8_sweep_19 : decode cX8_sweep 19 = .ok (.ireturn, 1) := by decide +kernel
theorem dX8_sweep_20 : decode cX8_sweep 20 = .ok (.aload_n 0, 1) := by decide +kernel
theorem dX8_sweep_21 : decode cX8_sweep 21 = .ok (.getfield 52, 3) := by decide +kernel
theorem dX8_sweep_24 : decode cX8_sweep 24 = .ok (.aload_n 0, 1) := by decide +kernel
theorem dX8_sweep_25 : decode cX8_sweep 25 = .ok (.getfield 26, 3) := by decide +kernel
theorem dX8_sweep_28 : decode cX8_sweep 28 = .ok (.invokevirtual 150, 3) := by decide +kernel
theorem dX8_sweep_31 : decode cX8_sweep 31 = .ok (.iconst 0, 1) := by decide +kernel
theorem dX8_sweep_32 : decode cX8_sweep 32 = .ok (.istore_n 3, 1) := by decide +kernel
theorem dX8_sweep_33 : decode cX8_sweep 33 = .ok (.iload_n 3, 1) := by decide +kernel
theorem dX8_sweep_34 : decode cX8_sweep 34 = .ok (.iload_n 2, 1) := by decide +kernel
theorem dX8_sweep_35 : decode cX8_sweep 35 = .ok (.if_icmp .ge 21, 3) := by decide +kernel
theorem dX8_sweep_38 : decode cX8_sweep 38 = .ok (.aload_n 0, 1) := by decide +kernel
theorem dX8_sweep_39 : decode cX8_sweep 39 = .ok (.getfield 45, 3) := by decide +kernel
theorem dX8_sweep_42 : decode cX8_sweep 42 = .ok (.aload_n 0, 1) := by decide +kernel
theorem dX8_sweep_43 : decode cX8_sweep 43 = .ok (.getfield 26, 3) := by decide +kernel
theorem dX8_sweep_46 : decode cX8_sweep 46 = .ok (.iload_n 1, 1) := by decide +kernel
theorem dX8_sweep_47 : decode cX8_sweep 47 = .ok (.invokevirtual 190, 3) := by decide +kernel
theorem dX8_sweep_50 : decode cX8_sweep 50 = .ok (.iinc 3 1, 3) := by decide +kernel
theorem dX8_sweep_53 : decode cX8_sweep 53 = .ok (.goto (-20), 3) := by decide +kernel
theorem dX8_sweep_56 : decode cX8_sweep 56 = .ok (.aload_n 0, 1) := by decide +kernel
theorem dX8_sweep_57 : decode cX8_sweep 57 = .ok (.getfield 26, 3) := by decide +kernel
theorem dX8_sweep_60 : decode cX8_sweep 60 = .ok (.invokevirtual 184, 3) := by decide +kernel
theorem dX8_sweep_63 : decode cX8_sweep 63 = .ok (.ireturn, 1) := by decide +kernel
theorem dX8_settle_0 : decode cX8_settle 0 = .ok (.iload_n 1, 1) := by decide +kernel
theorem dX8_settle_1 : decode cX8_settle 1 = .ok (.invokestatic 187, 3) := by decide +kernel
theorem dX8_settle_4 : decode cX8_settle 4 = .ok (.ifCond .ne 5, 3) := by decide +kernel
theorem dX8_settle_7 : decode cX8_settle 7 = .ok (.iconst (-1), 1) := by decide +kernel
theorem dX8_settle_8 : decode cX8_settle 8 = .ok (.ireturn, 1) := by decide +kernel
theorem dX8_settle_9 : decode cX8_settle 9 = .ok (.aload_n 0, 1) := by decide +kernel
theorem dX8_settle_10 : decode cX8_settle 10 = .ok (.getfield 52, 3) := by decide +kernel
theorem dX8_settle_13 : decode cX8_settle 13 = .ok (.aload_n 0, 1) := by decide +kernel
theorem dX8_settle_14 : decode cX8_settle 14 = .ok (.getfield 26, 3) := by decide +kernel
theorem dX8_settle_17 : decode cX8_settle 17 = .ok (.invokevirtual 150, 3) := by decide +kernel
theorem dX8_settle_20 : decode cX8_settle 20 = .ok (.aload_n 0, 1) := by decide +kernel
theorem dX8_settle_21 : decode cX8_settle 21 = .ok (.getfield 45, 3) := by decide +kernel
theorem dX8_settle_24 : decode cX8_settle 24 = .ok (.aload_n 0, 1) := by decide +kernel
theorem dX8_settle_25 : decode cX8_settle 25 = .ok (.getfield 26, 3) := by decide +kernel
theorem dX8_settle_28 : decode cX8_settle 28 = .ok (.iload_n 1, 1) := by decide +kernel
theorem dX8_settle_29 : decode cX8_settle 29 = .ok (.invokevirtual 194, 3) := by decide +kernel
theorem dX8_settle_32 : decode cX8_settle 32 = .ok (.ireturn, 1) := by decide +kernel
theorem dX8_bound_0 : decode cX8_bound 0 = .ok (.iload_n 1, 1) := by decide +kernel
theorem dX8_bound_1 : decode cX8_bound 1 = .ok (.invokestatic 187, 3) := by decide +kernel
theorem dX8_bound_4 : decode cX8_bound 4 = .ok (.ifCond .ne 5, 3) := by decide +kernel
theorem dX8_bound_7 : decode cX8_bound 7 = .ok (.iconst (-1), 1) := by decide +kernel
theorem dX8_bound_8 : decode cX8_bound 8 = .ok (.ireturn, 1) := by decide +kernel
theorem dX8_bound_9 : decode cX8_bound 9 = .ok (.aload_n 0, 1) := by decide +kernel
theorem dX8_bound_10 : decode cX8_bound 10 = .ok (.getfield 30, 3) := by decide +kernel
theorem dX8_bound_13 : decode cX8_bound 13 = .ok (.aload_n 0, 1) := by decide +kernel
theorem dX8_bound_14 : decode cX8_bound 14 = .ok (.getfield 26, 3) := by decide +kernel
theorem dX8_bound_17 : decode cX8_bound 17 = .ok (.invokevirtual 97, 3) := by decide +kernel
theorem dX8_bound_20 : decode cX8_bound 20 = .ok (.aload_n 0, 1) := by decide +kernel
theorem dX8_bound_21 : decode cX8_bound 21 = .ok (.getfield 45, 3) := by decide +kernel
theorem dX8_bound_24 : decode cX8_bound 24 = .ok (.aload_n 0, 1) := by decide +kernel
theorem dX8_bound_25 : decode cX8_bound 25 = .ok (.getfield 30, 3) := by decide +kernel
theorem dX8_bound_28 : decode cX8_bound 28 = .ok (.iload_n 1, 1) := by decide +kernel
theorem dX8_bound_29 : decode cX8_bound 29 = .ok (.invokevirtual 194, 3) := by decide +kernel
theorem dX8_bound_32 : decode cX8_bound 32 = .ok (.pop, 1) := by decide +kernel
theorem dX8_bound_33 : decode cX8_bound 33 = .ok (.aload_n 0, 1) := by decide +kernel
theorem dX8_bound_34 : decode cX8_bound 34 = .ok (.getfield 30, 3) := by decide +kernel
theorem dX8_bound_37 : decode cX8_bound 37 = .ok (.invokevirtual 184, 3) := by decide +kernel
theorem dX8_bound_40 : decode cX8_bound 40 = .ok (.ireturn, 1) := by decide +kernel
theorem dX8_undo_0 : decode cX8_undo 0 = .ok (.aload_n 0, 1) := by decide +kernel
theorem dX8_undo_1 : decode cX8_undo 1 = .ok (.getfield 52, 3) := by decide +kernel
theorem dX8_undo_4 : decode cX8_undo 4 = .ok (.aload_n 0, 1) := by decide +kernel
theorem dX8_undo_5 : decode cX8_undo 5 = .ok (.getfield 26, 3) := by decide +kernel
theorem dX8_undo_8 : decode cX8_undo 8 = .ok (.invokevirtual 198, 3) := by decide +kernel
theorem dX8_undo_11 : decode cX8_undo 11 = .ok (.ifCond .eq 13, 3) := by decide +kernel
theorem dX8_undo_14 : decode cX8_undo 14 = .ok (.aload_n 0, 1) := by decide +kernel
theorem dX8_undo_15 : decode cX8_undo 15 = .ok (.getfield 52, 3) := by decide +kernel
theorem dX8_undo_18 : decode cX8_undo 18 = .ok (.invokevirtual 202, 3) := by decide +kernel
theorem dX8_undo_21 : decode cX8_undo 21 = .ok (.goto 5, 3) := by decide +kernel
theorem dX8_undo_24 : decode cX8_undo 24 = .ok (.bipush (-2), 2) := by decide +kernel
theorem dX8_undo_26 : decode cX8_undo 26 = .ok (.ireturn, 1) := by decide +kernel
theorem dX8_best_0 : decode cX8_best 0 = .ok (.iload_n 1, 1) := by decide +kernel
theorem dX8_best_1 : decode cX8_best 1 = .ok (.iconst (-1), 1) := by decide +kernel
theorem dX8_best_2 : decode cX8_best 2 = .ok (.if_icmp .eq 22, 3) := by decide +kernel
theorem dX8_best_5 : decode cX8_best 5 = .ok (.iload_n 1, 1) := by decide +kernel
theorem dX8_best_6 : decode cX8_best 6 = .ok (.bipush (-2), 2) := by decide +kernel
theorem dX8_best_8 : decode cX8_best 8 = .ok (.if_icmp .eq 16, 3) := by decide +kernel
theorem dX8_best_11 : decode cX8_best 11 = .ok (.aload_n 0, 1) := by decide +kernel
theorem dX8_best_12 : decode cX8_best 12 = .ok (.getfield 26, 3) := by decide +kernel
theorem dX8_best_15 : decode cX8_best 15 = .ok (.iload_n 1, 1) := by decide +kernel
theorem dX8_best_16 : decode cX8_best 16 = .ok (.invokevirtual 103, 3) := by decide +kernel
theorem dX8_best_19 : decode cX8_best 19 = .ok (.ifCond .ne 5, 3) := by decide +kernel
theorem dX8_best_22 : decode cX8_best 22 = .ok (.iconst (-1), 1) := by decide +kernel
theorem dX8_best_23 : decode cX8_best 23 = .ok (.ireturn, 1) := by decide +kernel
theorem dX8_best_24 : decode cX8_best 24 = .ok (.aload_n 0, 1) := by decide +kernel
theorem dX8_best_25 : decode cX8_best 25 = .ok (.getfield 59, 3) := by decide +kernel
theorem dX8_best_28 : decode cX8_best 28 = .ok (.aload_n 0, 1) := by decide +kernel
theorem dX8_best_29 : decode cX8_best 29 = .ok (.getfield 26, 3) := by decide +kernel
theorem dX8_best_32 : decode cX8_best 32 = .ok (.iconst (-1), 1) := by decide +kernel
theorem dX8_best_33 : decode cX8_best 33 = .ok (.iconst 0, 1) := by decide +kernel
theorem dX8_best_34 : decode cX8_best 34 = .ok (.iconst (-1), 1) := by decide +kernel
theorem dX8_best_35 : decode cX8_best 35 = .ok (.invokevirtual 205, 3) := by decide +kernel
theorem dX8_best_38 : decode cX8_best 38 = .ok (.aload_n 0, 1) := by decide +kernel
theorem dX8_best_39 : decode cX8_best 39 = .ok (.getfield 59, 3) := by decide +kernel
theorem dX8_best_42 : decode cX8_best 42 = .ok (.invokevirtual 209, 3) := by decide +kernel
theorem dX8_best_45 : decode cX8_best 45 = .ok (.ifCond .ne 6, 3) := by decide +kernel
theorem dX8_best_48 : decode cX8_best 48 = .ok (.bipush (-4), 2) := by decide +kernel
theorem dX8_best_50 : decode cX8_best 50 = .ok (.ireturn, 1) := by decide +kernel
theorem dX8_best_51 : decode cX8_best 51 = .ok (.iload_n 1, 1) := by decide +kernel
theorem dX8_best_52 : decode cX8_best 52 = .ok (.lookupswitch 44 #[(-2, 36), (-1, 28)], 28) := by decide +kernel
theorem dX8_best_80 : decode cX8_best 80 = .ok (.aload_n 0, 1) := by decide +kernel
theorem dX8_best_81 : decode cX8_best 81 = .ok (.getfield 59, 3) := by decide +kernel
theorem dX8_best_84 : decode cX8_best 84 = .ok (.invokevirtual 213, 3) := by decide +kernel
theorem dX8_best_87 : decode cX8_best 87 = .ok (.ireturn, 1) := by decide +kernel
theorem dX8_best_88 : decode cX8_best 88 = .ok (.aload_n 0, 1) := by decide +kernel
theorem dX8_best_89 : decode cX8_best 89 = .ok (.getfield 59, 3) := by decide +kernel
theorem dX8_best_92 : decode cX8_best 92 = .ok (.invokevirtual 216, 3) := by decide +kernel
theorem dX8_best_95 : decode cX8_best 95 = .ok (.ireturn, 1) := by decide +kernel
theorem dX8_best_96 : decode cX8_best 96 = .ok (.aload_n 0, 1) := by decide +kernel
theorem dX8_best_97 : decode cX8_best 97 = .ok (.getfield 59, 3) := by decide +kernel
theorem dX8_best_100 : decode cX8_best 100 = .ok (.iload_n 1, 1) := by decide +kernel
theorem dX8_best_101 : decode cX8_best 101 = .ok (.invokevirtual 219, 3) := by decide +kernel
theorem dX8_best_104 : decode cX8_best 104 = .ok (.ireturn, 1) := by decide +kernel
theorem dX8_next_0 : decode cX8_next 0 = .ok (.iload_n 1, 1) := by decide +kernel
theorem dX8_next_1 : decode cX8_next 1 = .ok (.ifCond .eq 10, 3) := by decide +kernel
theorem dX8_next_4 : decode cX8_next 4 = .ok (.iload_n 1, 1) := by decide +kernel
theorem dX8_next_5 : decode cX8_next 5 = .ok (.iconst 1, 1) := by decide +kernel
theorem dX8_next_6 : decode cX8_next 6 = .ok (.if_icmp .eq 5, 3) := by decide +kernel
theorem dX8_next_9 : decode cX8_next 9 = .ok (.iconst (-1), 1) := by decide +kernel
theorem dX8_next_10 : decode cX8_next 10 = .ok (.ireturn, 1) := by decide +kernel
theorem dX8_next_11 : decode cX8_next 11 = .ok (.aload_n 0, 1) := by decide +kernel
theorem dX8_next_12 : decode cX8_next 12 = .ok (.getfield 59, 3) := by decide +kernel
theorem dX8_next_15 : decode cX8_next 15 = .ok (.aload_n 0, 1) := by decide +kernel
theorem dX8_next_16 : decode cX8_next 16 = .ok (.getfield 26, 3) := by decide +kernel
theorem dX8_next_19 : decode cX8_next 19 = .ok (.iconst (-1), 1) := by decide +kernel
theorem dX8_next_20 : decode cX8_next 20 = .ok (.iconst 0, 1) := by decide +kernel
theorem dX8_next_21 : decode cX8_next 21 = .ok (.iconst (-1), 1) := by decide +kernel
theorem dX8_next_22 : decode cX8_next 22 = .ok (.invokevirtual 205, 3) := by decide +kernel
theorem dX8_next_25 : decode cX8_next 25 = .ok (.iload_n 1, 1) := by decide +kernel
theorem dX8_next_26 : decode cX8_next 26 = .ok (.iconst 1, 1) := by decide +kernel
theorem dX8_next_27 : decode cX8_next 27 = .ok (.if_icmp .ne 11, 3) := by decide +kernel
theorem dX8_next_30 : decode cX8_next 30 = .ok (.aload_n 0, 1) := by decide +kernel
theorem dX8_next_31 : decode cX8_next 31 = .ok (.getfield 59, 3) := by decide +kernel
theorem dX8_next_34 : decode cX8_next 34 = .ok (.invokevirtual 222, 3) := by decide +kernel
theorem dX8_next_37 : decode cX8_next 37 = .ok (.ireturn, 1) := by decide +kernel
theorem dX8_next_38 : decode cX8_next 38 = .ok (.aload_n 0, 1) := by decide +kernel
theorem dX8_next_39 : decode cX8_next 39 = .ok (.getfield 59, 3) := by decide +kernel
theorem dX8_next_42 : decode cX8_next 42 = .ok (.invokevirtual 225, 3) := by decide +kernel
theorem dX8_next_45 : decode cX8_next 45 = .ok (.ifCond .eq 13, 3) := by decide +kernel
theorem dX8_next_48 : decode cX8_next 48 = .ok (.aload_n 0, 1) := by decide +kernel
theorem dX8_next_49 : decode cX8_next 49 = .ok (.getfield 59, 3) := by decide +kernel
theorem dX8_next_52 : decode cX8_next 52 = .ok (.invokevirtual 228, 3) := by decide +kernel
theorem dX8_next_55 : decode cX8_next 55 = .ok (.goto 5, 3) := by decide +kernel
theorem dX8_next_58 : decode cX8_next 58 = .ok (.bipush (-4), 2) := by decide +kernel
theorem dX8_next_60 : decode cX8_next 60 = .ok (.ireturn, 1) := by decide +kernel
theorem dX8_backbone_0 : decode cX8_backbone 0 = .ok (.aload_n 0, 1) := by decide +kernel
theorem dX8_backbone_1 : decode cX8_backbone 1 = .ok (.getfield 59, 3) := by decide +kernel
theorem dX8_backbone_4 : decode cX8_backbone 4 = .ok (.aload_n 0, 1) := by decide +kernel
theorem dX8_backbone_5 : decode cX8_backbone 5 = .ok (.getfield 26, 3) := by decide +kernel
theorem dX8_backbone_8 : decode cX8_backbone 8 = .ok (.iconst (-1), 1) := by decide +kernel
theorem dX8_backbone_9 : decode cX8_backbone 9 = .ok (.iconst 0, 1) := by decide +kernel
theorem dX8_backbone_10 : decode cX8_backbone 10 = .ok (.iconst (-1), 1) := by decide +kernel
theorem dX8_backbone_11 : decode cX8_backbone 11 = .ok (.invokevirtual 205, 3) := by decide +kernel
theorem dX8_backbone_14 : decode cX8_backbone 14 = .ok (.aload_n 0, 1) := by decide +kernel
theorem dX8_backbone_15 : decode cX8_backbone 15 = .ok (.getfield 59, 3) := by decide +kernel
theorem dX8_backbone_18 : decode cX8_backbone 18 = .ok (.invokevirtual 209, 3) := by decide +kernel
theorem dX8_backbone_21 : decode cX8_backbone 21 = .ok (.ifCond .eq 13, 3) := by decide +kernel
theorem dX8_backbone_24 : decode cX8_backbone 24 = .ok (.aload_n 0, 1) := by decide +kernel
theorem dX8_backbone_25 : decode cX8_backbone 25 = .ok (.getfield 59, 3) := by decide +kernel
theorem dX8_backbone_28 : decode cX8_backbone 28 = .ok (.invokevirtual 231, 3) := by decide +kernel
theorem dX8_backbone_31 : decode cX8_backbone 31 = .ok (.goto 5, 3) := by decide +kernel
theorem dX8_backbone_34 : decode cX8_backbone 34 = .ok (.bipush (-4), 2) := by decide +kernel
theorem dX8_backbone_36 : decode cX8_backbone 36 = .ok (.ireturn, 1) := by decide +kernel
theorem dX8_with_0 : decode cX8_with 0 = .ok (.aload_n 0, 1) := by decide +kernel
theorem dX8_with_1 : decode cX8_with 1 = .ok (.getfield 26, 3) := by decide +kernel
theorem dX8_with_4 : decode cX8_with 4 = .ok (.iload_n 1, 1) := by decide +kernel
theorem dX8_with_5 : decode cX8_with 5 = .ok (.iload_n 2, 1) := by decide +kernel
theorem dX8_with_6 : decode cX8_with 6 = .ok (.invokevirtual 119, 3) := by decide +kernel
theorem dX8_with_9 : decode cX8_with 9 = .ok (.ifCond .ne 5, 3) := by decide +kernel
theorem dX8_with_12 : decode cX8_with 12 = .ok (.iconst (-1), 1) := by decide +kernel
theorem dX8_with_13 : decode cX8_with 13 = .ok (.ireturn, 1) := by decide +kernel
theorem dX8_with_14 : decode cX8_with 14 = .ok (.aload_n 0, 1) := by decide +kernel
theorem dX8_with_15 : decode cX8_with 15 = .ok (.getfield 59, 3) := by decide +kernel
theorem dX8_with_18 : decode cX8_with 18 = .ok (.aload_n 0, 1) := by decide +kernel
theorem dX8_with_19 : decode cX8_with 19 = .ok (.getfield 26, 3) := by decide +kernel
theorem dX8_with_22 : decode cX8_with 22 = .ok (.iload_n 1, 1) := by decide +kernel
theorem dX8_with_23 : decode cX8_with 23 = .ok (.iload_n 2, 1) := by decide +kernel
theorem dX8_with_24 : decode cX8_with 24 = .ok (.iconst (-1), 1) := by decide +kernel
theorem dX8_with_25 : decode cX8_with 25 = .ok (.invokevirtual 205, 3) := by decide +kernel
theorem dX8_with_28 : decode cX8_with 28 = .ok (.aload_n 0, 1) := by decide +kernel
theorem dX8_with_29 : decode cX8_with 29 = .ok (.getfield 59, 3) := by decide +kernel
theorem dX8_with_32 : decode cX8_with 32 = .ok (.invokevirtual 209, 3) := by decide +kernel
theorem dX8_with_35 : decode cX8_with 35 = .ok (.ifCond .eq 13, 3) := by decide +kernel
theorem dX8_with_38 : decode cX8_with 38 = .ok (.aload_n 0, 1) := by decide +kernel
theorem dX8_with_39 : decode cX8_with 39 = .ok (.getfield 59, 3) := by decide +kernel
theorem dX8_with_42 : decode cX8_with 42 = .ok (.invokevirtual 213, 3) := by decide +kernel
theorem dX8_with_45 : decode cX8_with 45 = .ok (.goto 5, 3) := by decide +kernel
theorem dX8_with_48 : decode cX8_with 48 = .ok (.bipush (-4), 2) := by decide +kernel
theorem dX8_with_50 : decode cX8_with 50 = .ok (.ireturn, 1) := by decide +kernel
theorem dX8_without_0 : decode cX8_without 0 = .ok (.aload_n 0, 1) := by decide +kernel
theorem dX8_without_1 : decode cX8_without 1 = .ok (.getfield 26, 3) := by decide +kernel
theorem dX8_without_4 : decode cX8_without 4 = .ok (.iload_n 1, 1) := by decide +kernel
theorem dX8_without_5 : decode cX8_without 5 = .ok (.invokevirtual 127, 3) := by decide +kernel
theorem dX8_without_8 : decode cX8_without 8 = .ok (.ifCond .ne 5, 3) := by decide +kernel
theorem dX8_without_11 : decode cX8_without 11 = .ok (.iconst (-1), 1) := by decide +kernel
theorem dX8_without_12 : decode cX8_without 12 = .ok (.ireturn, 1) := by decide +kernel
theorem dX8_without_13 : decode cX8_without 13 = .ok (.aload_n 0, 1) := by decide +kernel
theorem dX8_without_14 : decode cX8_without 14 = .ok (.getfield 59, 3) := by decide +kernel
theorem dX8_without_17 : decode cX8_without 17 = .ok (.aload_n 0, 1) := by decide +kernel
theorem dX8_without_18 : decode cX8_without 18 = .ok (.getfield 26, 3) := by decide +kernel
theorem dX8_without_21 : decode cX8_without 21 = .ok (.iconst (-1), 1) := by decide +kernel
theorem dX8_without_22 : decode cX8_without 22 = .ok (.iconst 0, 1) := by decide +kernel
theorem dX8_without_23 : decode cX8_without 23 = .ok (.iload_n 1, 1) := by decide +kernel
theorem dX8_without_24 : decode cX8_without 24 = .ok (.invokevirtual 205, 3) := by decide +kernel
theorem dX8_without_27 : decode cX8_without 27 = .ok (.aload_n 0, 1) := by decide +kernel
theorem dX8_without_28 : decode cX8_without 28 = .ok (.getfield 59, 3) := by decide +kernel
theorem dX8_without_31 : decode cX8_without 31 = .ok (.invokevirtual 209, 3) := by decide +kernel
theorem dX8_without_34 : decode cX8_without 34 = .ok (.ifCond .eq 13, 3) := by decide +kernel
theorem dX8_without_37 : decode cX8_without 37 = .ok (.aload_n 0, 1) := by decide +kernel
theorem dX8_without_38 : decode cX8_without 38 = .ok (.getfield 59, 3) := by decide +kernel
theorem dX8_without_41 : decode cX8_without 41 = .ok (.invokevirtual 213, 3) := by decide +kernel
theorem dX8_without_44 : decode cX8_without 44 = .ok (.goto 5, 3) := by decide +kernel
theorem dX8_without_47 : decode cX8_without 47 = .ok (.bipush (-4), 2) := by decide +kernel
theorem dX8_without_49 : decode cX8_without 49 = .ok (.ireturn, 1) := by decide +kernel
theorem dX8_tries_0 : decode cX8_tries 0 = .ok (.aload_n 0, 1) := by decide +kernel
theorem dX8_tries_1 : decode cX8_tries 1 = .ok (.getfield 66, 3) := by decide +kernel
theorem dX8_tries_4 : decode cX8_tries 4 = .ok (.aload_n 0, 1) := by decide +kernel
theorem dX8_tries_5 : decode cX8_tries 5 = .ok (.getfield 26, 3) := by decide +kernel
theorem dX8_tries_8 : decode cX8_tries 8 = .ok (.invokevirtual 234, 3) := by decide +kernel
theorem dX8_tries_11 : decode cX8_tries 11 = .ok (.ireturn, 1) := by decide +kernel
theorem dX8_count_0 : decode cX8_count 0 = .ok (.iload_n 1, 1) := by decide +kernel
theorem dX8_count_1 : decode cX8_count 1 = .ok (.tableswitch 99 0 6 #[43, 51, 59, 67, 75, 83, 91], 43) := by decide +kernel
theorem dX8_count_44 : decode cX8_count 44 = .ok (.aload_n 0, 1) := by decide +kernel
theorem dX8_count_45 : decode cX8_count 45 = .ok (.getfield 26, 3) := by decide +kernel
theorem dX8_count_48 : decode cX8_count 48 = .ok (.invokevirtual 94, 3) := by decide +kernel
theorem dX8_count_51 : decode cX8_count 51 = .ok (.ireturn, 1) := by decide +kernel
theorem dX8_count_52 : decode cX8_count 52 = .ok (.aload_n 0, 1) := by decide +kernel
theorem dX8_count_53 : decode cX8_count 53 = .ok (.getfield 26, 3) := by decide +kernel
theorem dX8_count_56 : decode cX8_count 56 = .ok (.invokevirtual 238, 3) := by decide +kernel
theorem dX8_count_59 : decode cX8_count 59 = .ok (.ireturn, 1) := by decide +kernel
theorem dX8_count_60 : decode cX8_count 60 = .ok (.aload_n 0, 1) := by decide +kernel
theorem dX8_count_61 : decode cX8_count 61 = .ok (.getfield 26, 3) := by decide +kernel
theorem dX8_count_64 : decode cX8_count 64 = .ok (.invokevirtual 241, 3) := by decide +kernel
theorem dX8_count_67 : decode cX8_count 67 = .ok (.ireturn, 1) := by decide +kernel
theorem dX8_count_68 : decode cX8_count 68 = .ok (.aload_n 0, 1) := by decide +kernel
theorem dX8_count_69 : decode cX8_count 69 = .ok (.getfield 26, 3) := by decide +kernel
theorem dX8_count_72 : decode cX8_count 72 = .ok (.invokevirtual 184, 3) := by decide +kernel
theorem dX8_count_75 : decode cX8_count 75 = .ok (.ireturn, 1) := by decide +kernel
theorem dX8_count_76 : decode cX8_count 76 = .ok (.aload_n 0, 1) := by decide +kernel
theorem dX8_count_77 : decode cX8_count 77 = .ok (.getfield 26, 3) := by decide +kernel
theorem dX8_count_80 : decode cX8_count 80 = .ok (.invokevirtual 244, 3) := by decide +kernel
theorem dX8_count_83 : decode cX8_count 83 = .ok (.ireturn, 1) := by decide +kernel
theorem dX8_count_84 : decode cX8_count 84 = .ok (.aload_n 0, 1) := by decide +kernel
theorem dX8_count_85 : decode cX8_count 85 = .ok (.getfield 52, 3) := by decide +kernel
theorem dX8_count_88 : decode cX8_count 88 = .ok (.invokevirtual 202, 3) := by decide +kernel
theorem dX8_count_91 : decode cX8_count 91 = .ok (.ireturn, 1) := by decide +kernel
theorem dX8_count_92 : decode cX8_count 92 = .ok (.aload_n 0, 1) := by decide +kernel
theorem dX8_count_93 : decode cX8_count 93 = .ok (.getfield 12, 3) := by decide +kernel
theorem dX8_count_96 : decode cX8_count 96 = .ok (.invokevirtual 93, 3) := by decide +kernel
theorem dX8_count_99 : decode cX8_count 99 = .ok (.ireturn, 1) := by decide +kernel
theorem dX8_count_100 : decode cX8_count 100 = .ok (.iconst (-1), 1) := by decide +kernel
theorem dX8_count_101 : decode cX8_count 101 = .ok (.ireturn, 1) := by decide +kernel
theorem dX8_isStep_0 : decode cX8_isStep 0 = .ok (.iload_n 0, 1) := by decide +kernel
theorem dX8_isStep_1 : decode cX8_isStep 1 = .ok (.iconst 1, 1) := by decide +kernel
theorem dX8_isStep_2 : decode cX8_isStep 2 = .ok (.if_icmp .lt 13, 3) := by decide +kernel
theorem dX8_isStep_5 : decode cX8_isStep 5 = .ok (.iload_n 0, 1) := by decide +kernel
theorem dX8_isStep_6 : decode cX8_isStep 6 = .ok (.bipush 99, 2) := by decide +kernel
theorem dX8_isStep_8 : decode cX8_isStep 8 = .ok (.if_icmp .gt 7, 3) := by decide +kernel
theorem dX8_isStep_11 : decode cX8_isStep 11 = .ok (.iconst 1, 1) := by decide +kernel
theorem dX8_isStep_12 : decode cX8_isStep 12 = .ok (.goto 4, 3) := by decide +kernel
theorem dX8_isStep_15 : decode cX8_isStep 15 = .ok (.iconst 0, 1) := by decide +kernel
theorem dX8_isStep_16 : decode cX8_isStep 16 = .ok (.ireturn, 1) := by decide +kernel
theorem dX8_isSweep_0 : decode cX8_isSweep 0 = .ok (.iload_n 0, 1) := by decide +kernel
theorem dX8_isSweep_1 : decode cX8_isSweep 1 = .ok (.ifCond .lt 12, 3) := by decide +kernel
theorem dX8_isSweep_4 : decode cX8_isSweep 4 = .ok (.iload_n 0, 1) := by decide +kernel
theorem dX8_isSweep_5 : decode cX8_isSweep 5 = .ok (.iconst 2, 1) := by decide +kernel
theorem dX8_isSweep_6 : decode cX8_isSweep 6 = .ok (.if_icmp .gt 7, 3) := by decide +kernel
theorem dX8_isSweep_9 : decode cX8_isSweep 9 = .ok (.iconst 1, 1) := by decide +kernel
theorem dX8_isSweep_10 : decode cX8_isSweep 10 = .ok (.goto 4, 3) := by decide +kernel
theorem dX8_isSweep_13 : decode cX8_isSweep 13 = .ok (.iconst 0, 1) := by decide +kernel
theorem dX8_isSweep_14 : decode cX8_isSweep 14 = .ok (.ireturn, 1) := by decide +kernel
theorem dJ6_bitCount_0f7a4_0 : decode cJ6_bitCount_0f7a4 0 = .ok (.iload_n 0, 1) := by decide +kernel
theorem dJ6_bitCount_0f7a4_1 : decode cJ6_bitCount_0f7a4 1 = .ok (.iload_n 0, 1) := by decide +kernel
theorem dJ6_bitCount_0f7a4_2 : decode cJ6_bitCount_0f7a4 2 = .ok (.iconst 1, 1) := by decide +kernel
theorem dJ6_bitCount_0f7a4_3 : decode cJ6_bitCount_0f7a4 3 = .ok (.iushr, 1) := by decide +kernel
theorem dJ6_bitCount_0f7a4_4 : decode cJ6_bitCount_0f7a4 4 = .ok (.ldc_w 265, 3) := by decide +kernel
theorem dJ6_bitCount_0f7a4_7 : decode cJ6_bitCount_0f7a4 7 = .ok (.iand, 1) := by decide +kernel
theorem dJ6_bitCount_0f7a4_8 : decode cJ6_bitCount_0f7a4 8 = .ok (.isub, 1) := by decide +kernel
theorem dJ6_bitCount_0f7a4_9 : decode cJ6_bitCount_0f7a4 9 = .ok (.istore_n 0, 1) := by decide +kernel
theorem dJ6_bitCount_0f7a4_10 : decode cJ6_bitCount_0f7a4 10 = .ok (.iload_n 0, 1) := by decide +kernel
theorem dJ6_bitCount_0f7a4_11 : decode cJ6_bitCount_0f7a4 11 = .ok (.ldc_w 266, 3) := by decide +kernel
theorem dJ6_bitCount_0f7a4_14 : decode cJ6_bitCount_0f7a4 14 = .ok (.iand, 1) := by decide +kernel
theorem dJ6_bitCount_0f7a4_15 : decode cJ6_bitCount_0f7a4 15 = .ok (.iload_n 0, 1) := by decide +kernel
theorem dJ6_bitCount_0f7a4_16 : decode cJ6_bitCount_0f7a4 16 = .ok (.iconst 2, 1) := by decide +kernel
theorem dJ6_bitCount_0f7a4_17 : decode cJ6_bitCount_0f7a4 17 = .ok (.iushr, 1) := by decide +kernel
theorem dJ6_bitCount_0f7a4_18 : decode cJ6_bitCount_0f7a4 18 = .ok (.ldc_w 266, 3) := by decide +kernel
theorem dJ6_bitCount_0f7a4_21 : decode cJ6_bitCount_0f7a4 21 = .ok (.iand, 1) := by decide +kernel
theorem dJ6_bitCount_0f7a4_22 : decode cJ6_bitCount_0f7a4 22 = .ok (.iadd, 1) := by decide +kernel
theorem dJ6_bitCount_0f7a4_23 : decode cJ6_bitCount_0f7a4 23 = .ok (.istore_n 0, 1) := by decide +kernel
theorem dJ6_bitCount_0f7a4_24 : decode cJ6_bitCount_0f7a4 24 = .ok (.iload_n 0, 1) := by decide +kernel
theorem dJ6_bitCount_0f7a4_25 : decode cJ6_bitCount_0f7a4 25 = .ok (.iload_n 0, 1) := by decide +kernel
theorem dJ6_bitCount_0f7a4_26 : decode cJ6_bitCount_0f7a4 26 = .ok (.iconst 4, 1) := by decide +kernel
theorem dJ6_bitCount_0f7a4_27 : decode cJ6_bitCount_0f7a4 27 = .ok (.iushr, 1) := by decide +kernel
theorem dJ6_bitCount_0f7a4_28 : decode cJ6_bitCount_0f7a4 28 = .ok (.iadd, 1) := by decide +kernel
theorem dJ6_bitCount_0f7a4_29 : decode cJ6_bitCount_0f7a4 29 = .ok (.ldc_w 267, 3) := by decide +kernel
theorem dJ6_bitCount_0f7a4_32 : decode cJ6_bitCount_0f7a4 32 = .ok (.iand, 1) := by decide +kernel
theorem dJ6_bitCount_0f7a4_33 : decode cJ6_bitCount_0f7a4 33 = .ok (.istore_n 0, 1) := by decide +kernel
theorem dJ6_bitCount_0f7a4_34 : decode cJ6_bitCount_0f7a4 34 = .ok (.iload_n 0, 1) := by decide +kernel
theorem dJ6_bitCount_0f7a4_35 : decode cJ6_bitCount_0f7a4 35 = .ok (.iload_n 0, 1) := by decide +kernel
theorem dJ6_bitCount_0f7a4_36 : decode cJ6_bitCount_0f7a4 36 = .ok (.bipush 8, 2) := by decide +kernel
theorem dJ6_bitCount_0f7a4_38 : decode cJ6_bitCount_0f7a4 38 = .ok (.iushr, 1) := by decide +kernel
theorem dJ6_bitCount_0f7a4_39 : decode cJ6_bitCount_0f7a4 39 = .ok (.iadd, 1) := by decide +kernel
theorem dJ6_bitCount_0f7a4_40 : decode cJ6_bitCount_0f7a4 40 = .ok (.istore_n 0, 1) := by decide +kernel
theorem dJ6_bitCount_0f7a4_41 : decode cJ6_bitCount_0f7a4 41 = .ok (.iload_n 0, 1) := by decide +kernel
theorem dJ6_bitCount_0f7a4_42 : decode cJ6_bitCount_0f7a4 42 = .ok (.iload_n 0, 1) := by decide +kernel
theorem dJ6_bitCount_0f7a4_43 : decode cJ6_bitCount_0f7a4 43 = .ok (.bipush 16, 2) := by decide +kernel
theorem dJ6_bitCount_0f7a4_45 : decode cJ6_bitCount_0f7a4 45 = .ok (.iushr, 1) := by decide +kernel
theorem dJ6_bitCount_0f7a4_46 : decode cJ6_bitCount_0f7a4 46 = .ok (.iadd, 1) := by decide +kernel
theorem dJ6_bitCount_0f7a4_47 : decode cJ6_bitCount_0f7a4 47 = .ok (.istore_n 0, 1) := by decide +kernel
theorem dJ6_bitCount_0f7a4_48 : decode cJ6_bitCount_0f7a4 48 = .ok (.iload_n 0, 1) := by decide +kernel
theorem dJ6_bitCount_0f7a4_49 : decode cJ6_bitCount_0f7a4 49 = .ok (.bipush 63, 2) := by decide +kernel
theorem dJ6_bitCount_0f7a4_51 : decode cJ6_bitCount_0f7a4 51 = .ok (.iand, 1) := by decide +kernel
theorem dJ6_bitCount_0f7a4_52 : decode cJ6_bitCount_0f7a4 52 = .ok (.ireturn, 1) := by decide +kernel
