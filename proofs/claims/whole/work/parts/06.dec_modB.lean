theorem dX9_extendsBy_54 : decode cX9_extendsBy 54 = .ok (.iload_n 2, 1) := by decide +kernel
theorem dX9_extendsBy_55 : decode cX9_extendsBy 55 = .ok (.iload_n 3, 1) := by decide +kernel
theorem dX9_extendsBy_56 : decode cX9_extendsBy 56 = .ok (.iload 6, 2) := by decide +kernel
theorem dX9_extendsBy_58 : decode cX9_extendsBy 58 = .ok (.invokestatic 150, 3) := by decide +kernel
theorem dX9_extendsBy_61 : decode cX9_extendsBy 61 = .ok (.istore 7, 2) := by decide +kernel
theorem dX9_extendsBy_63 : decode cX9_extendsBy 63 = .ok (.aload_n 0, 1) := by decide +kernel
theorem dX9_extendsBy_64 : decode cX9_extendsBy 64 = .ok (.getfield 25, 3) := by decide +kernel
theorem dX9_extendsBy_67 : decode cX9_extendsBy 67 = .ok (.iload 7, 2) := by decide +kernel
theorem dX9_extendsBy_69 : decode cX9_extendsBy 69 = .ok (.aload_n 0, 1) := by decide +kernel
theorem dX9_extendsBy_70 : decode cX9_extendsBy 70 = .ok (.aload_n 0, 1) := by decide +kernel
theorem dX9_extendsBy_71 : decode cX9_extendsBy 71 = .ok (.getfield 25, 3) := by decide +kernel
theorem dX9_extendsBy_74 : decode cX9_extendsBy 74 = .ok (.iload 7, 2) := by decide +kernel
theorem dX9_extendsBy_76 : decode cX9_extendsBy 76 = .ok (.iaload, 1) := by decide +kernel
theorem dX9_extendsBy_77 : decode cX9_extendsBy 77 = .ok (.iload 4, 2) := by decide +kernel
theorem dX9_extendsBy_79 : decode cX9_extendsBy 79 = .ok (.invokevirtual 125, 3) := by decide +kernel
theorem dX9_extendsBy_82 : decode cX9_extendsBy 82 = .ok (.iastore, 1) := by decide +kernel
theorem dX9_extendsBy_83 : decode cX9_extendsBy 83 = .ok (.iinc 6 1, 3) := by decide +kernel
theorem dX9_extendsBy_86 : decode cX9_extendsBy 86 = .ok (.goto (-51), 3) := by decide +kernel
theorem dX9_extendsBy_89 : decode cX9_extendsBy 89 = .ok (.return_, 1) := by decide +kernel
theorem dX9_raises_0 : decode cX9_raises 0 = .ok (.iconst 0, 1) := by decide +kernel
theorem dX9_raises_1 : decode cX9_raises 1 = .ok (.istore_n 3, 1) := by decide +kernel
theorem dX9_raises_2 : decode cX9_raises 2 = .ok (.iload_n 3, 1) := by decide +kernel
theorem dX9_raises_3 : decode cX9_raises 3 = .ok (.aload_n 0, 1) := by decide +kernel
theorem dX9_raises_4 : decode cX9_raises 4 = .ok (.getfield 13, 3) := by decide +kernel
theorem dX9_raises_7 : decode cX9_raises 7 = .ok (.iload_n 1, 1) := by decide +kernel
theorem dX9_raises_8 : decode cX9_raises 8 = .ok (.iaload, 1) := by decide +kernel
theorem dX9_raises_9 : decode cX9_raises 9 = .ok (.if_icmp .ge 34, 3) := by decide +kernel
theorem dX9_raises_12 : decode cX9_raises 12 = .ok (.aload_n 0, 1) := by decide +kernel
theorem dX9_raises_13 : decode cX9_raises 13 = .ok (.getfield 25, 3) := by decide +kernel
theorem dX9_raises_16 : decode cX9_raises 16 = .ok (.iconst 4, 1) := by decide +kernel
theorem dX9_raises_17 : decode cX9_raises 17 = .ok (.iload_n 1, 1) := by decide +kernel
theorem dX9_raises_18 : decode cX9_raises 18 = .ok (.imul, 1) := by decide +kernel
theorem dX9_raises_19 : decode cX9_raises 19 = .ok (.iload_n 3, 1) := by decide +kernel
theorem dX9_raises_20 : decode cX9_raises 20 = .ok (.iadd, 1) := by decide +kernel
theorem dX9_raises_21 : decode cX9_raises 21 = .ok (.aload_n 0, 1) := by decide +kernel
theorem dX9_raises_22 : decode cX9_raises 22 = .ok (.aload_n 0, 1) := by decide +kernel
theorem dX9_raises_23 : decode cX9_raises 23 = .ok (.getfield 25, 3) := by decide +kernel
theorem dX9_raises_26 : decode cX9_raises 26 = .ok (.iconst 4, 1) := by decide +kernel
theorem dX9_raises_27 : decode cX9_raises 27 = .ok (.iload_n 1, 1) := by decide +kernel
theorem dX9_raises_28 : decode cX9_raises 28 = .ok (.imul, 1) := by decide +kernel
theorem dX9_raises_29 : decode cX9_raises 29 = .ok (.iload_n 3, 1) := by decide +kernel
theorem dX9_raises_30 : decode cX9_raises 30 = .ok (.iadd, 1) := by decide +kernel
theorem dX9_raises_31 : decode cX9_raises 31 = .ok (.iaload, 1) := by decide +kernel
theorem dX9_raises_32 : decode cX9_raises 32 = .ok (.iload_n 2, 1) := by decide +kernel
theorem dX9_raises_33 : decode cX9_raises 33 = .ok (.invokevirtual 157, 3) := by decide +kernel
theorem dX9_raises_36 : decode cX9_raises 36 = .ok (.iastore, 1) := by decide +kernel
theorem dX9_raises_37 : decode cX9_raises 37 = .ok (.iinc 3 1, 3) := by decide +kernel
theorem dX9_raises_40 : decode cX9_raises 40 = .ok (.goto (-38), 3) := by decide +kernel
theorem dX9_raises_43 : decode cX9_raises 43 = .ok (.aload_n 0, 1) := by decide +kernel
theorem dX9_raises_44 : decode cX9_raises 44 = .ok (.getfield 25, 3) := by decide +kernel
theorem dX9_raises_47 : decode cX9_raises 47 = .ok (.sipush 168, 3) := by decide +kernel
theorem dX9_raises_50 : decode cX9_raises 50 = .ok (.aload_n 0, 1) := by decide +kernel
theorem dX9_raises_51 : decode cX9_raises 51 = .ok (.aload_n 0, 1) := by decide +kernel
theorem dX9_raises_52 : decode cX9_raises 52 = .ok (.getfield 25, 3) := by decide +kernel
theorem dX9_raises_55 : decode cX9_raises 55 = .ok (.sipush 168, 3) := by decide +kernel
theorem dX9_raises_58 : decode cX9_raises 58 = .ok (.iaload, 1) := by decide +kernel
theorem dX9_raises_59 : decode cX9_raises 59 = .ok (.iload_n 2, 1) := by decide +kernel
theorem dX9_raises_60 : decode cX9_raises 60 = .ok (.invokevirtual 125, 3) := by decide +kernel
theorem dX9_raises_63 : decode cX9_raises 63 = .ok (.iastore, 1) := by decide +kernel
theorem dX9_raises_64 : decode cX9_raises 64 = .ok (.return_, 1) := by decide +kernel
theorem dX9_isMoved_0 : decode cX9_isMoved 0 = .ok (.aload_n 0, 1) := by decide +kernel
theorem dX9_isMoved_1 : decode cX9_isMoved 1 = .ok (.iload_n 1, 1) := by decide +kernel
theorem dX9_isMoved_2 : decode cX9_isMoved 2 = .ok (.invokevirtual 144, 3) := by decide +kernel
theorem dX9_isMoved_5 : decode cX9_isMoved 5 = .ok (.ifCond .eq 41, 3) := by decide +kernel
theorem dX9_isMoved_8 : decode cX9_isMoved 8 = .ok (.iload_n 2, 1) := by decide +kernel
theorem dX9_isMoved_9 : decode cX9_isMoved 9 = .ok (.iconst 0, 1) := by decide +kernel
theorem dX9_isMoved_10 : decode cX9_isMoved 10 = .ok (.iconst 1, 1) := by decide +kernel
theorem dX9_isMoved_11 : decode cX9_isMoved 11 = .ok (.invokestatic 85, 3) := by decide +kernel
theorem dX9_isMoved_14 : decode cX9_isMoved 14 = .ok (.ifCond .eq 32, 3) := by decide +kernel
theorem dX9_isMoved_17 : decode cX9_isMoved 17 = .ok (.aload_n 0, 1) := by decide +kernel
theorem dX9_isMoved_18 : decode cX9_isMoved 18 = .ok (.aload_n 0, 1) := by decide +kernel
theorem dX9_isMoved_19 : decode cX9_isMoved 19 = .ok (.iload_n 1, 1) := by decide +kernel
theorem dX9_isMoved_20 : decode cX9_isMoved 20 = .ok (.iload_n 2, 1) := by decide +kernel
theorem dX9_isMoved_21 : decode cX9_isMoved 21 = .ok (.invokevirtual 147, 3) := by decide +kernel
theorem dX9_isMoved_24 : decode cX9_isMoved 24 = .ok (.iload_n 3, 1) := by decide +kernel
theorem dX9_isMoved_25 : decode cX9_isMoved 25 = .ok (.invokevirtual 141, 3) := by decide +kernel
theorem dX9_isMoved_28 : decode cX9_isMoved 28 = .ok (.ifCond .eq 18, 3) := by decide +kernel
theorem dX9_isMoved_31 : decode cX9_isMoved 31 = .ok (.iload 4, 2) := by decide +kernel
theorem dX9_isMoved_33 : decode cX9_isMoved 33 = .ok (.iconst 1, 1) := by decide +kernel
theorem dX9_isMoved_34 : decode cX9_isMoved 34 = .ok (.bipush 99, 2) := by decide +kernel
theorem dX9_isMoved_36 : decode cX9_isMoved 36 = .ok (.invokestatic 85, 3) := by decide +kernel
theorem dX9_isMoved_39 : decode cX9_isMoved 39 = .ok (.ifCond .eq 7, 3) := by decide +kernel
theorem dX9_isMoved_42 : decode cX9_isMoved 42 = .ok (.iconst 1, 1) := by decide +kernel
theorem dX9_isMoved_43 : decode cX9_isMoved 43 = .ok (.goto 4, 3) := by decide +kernel
theorem dX9_isMoved_46 : decode cX9_isMoved 46 = .ok (.iconst 0, 1) := by decide +kernel
theorem dX9_isMoved_47 : decode cX9_isMoved 47 = .ok (.ireturn, 1) := by decide +kernel
theorem dX9_project_0 : decode cX9_project 0 = .ok (.aload_n 0, 1) := by decide +kernel
theorem dX9_project_1 : decode cX9_project 1 = .ok (.iload_n 1, 1) := by decide +kernel
theorem dX9_project_2 : decode cX9_project 2 = .ok (.iload_n 2, 1) := by decide +kernel
theorem dX9_project_3 : decode cX9_project 3 = .ok (.iload_n 3, 1) := by decide +kernel
theorem dX9_project_4 : decode cX9_project 4 = .ok (.iload 4, 2) := by decide +kernel
theorem dX9_project_6 : decode cX9_project 6 = .ok (.invokevirtual 160, 3) := by decide +kernel
theorem dX9_project_9 : decode cX9_project 9 = .ok (.ifCond .ne 5, 3) := by decide +kernel
theorem dX9_project_12 : decode cX9_project 12 = .ok (.iconst (-1), 1) := by decide +kernel
theorem dX9_project_13 : decode cX9_project 13 = .ok (.ireturn, 1) := by decide +kernel
theorem dX9_project_14 : decode cX9_project 14 = .ok (.aload_n 0, 1) := by decide +kernel
theorem dX9_project_15 : decode cX9_project 15 = .ok (.iload_n 1, 1) := by decide +kernel
theorem dX9_project_16 : decode cX9_project 16 = .ok (.iload_n 2, 1) := by decide +kernel
theorem dX9_project_17 : decode cX9_project 17 = .ok (.iload_n 3, 1) := by decide +kernel
theorem dX9_project_18 : decode cX9_project 18 = .ok (.invokevirtual 164, 3) := by decide +kernel
theorem dX9_project_21 : decode cX9_project 21 = .ok (.iload 4, 2) := by decide +kernel
theorem dX9_project_23 : decode cX9_project 23 = .ok (.if_icmp .ge 6, 3) := by decide +kernel
theorem dX9_project_26 : decode cX9_project 26 = .ok (.bipush (-2), 2) := by decide +kernel
theorem dX9_project_28 : decode cX9_project 28 = .ok (.ireturn, 1) := by decide +kernel
theorem dX9_project_29 : decode cX9_project 29 = .ok (.aload_n 0, 1) := by decide +kernel
theorem dX9_project_30 : decode cX9_project 30 = .ok (.invokevirtual 154, 3) := by decide +kernel
theorem dX9_project_33 : decode cX9_project 33 = .ok (.aload_n 0, 1) := by decide +kernel
theorem dX9_project_34 : decode cX9_project 34 = .ok (.iload_n 1, 1) := by decide +kernel
theorem dX9_project_35 : decode cX9_project 35 = .ok (.iload_n 2, 1) := by decide +kernel
theorem dX9_project_36 : decode cX9_project 36 = .ok (.iload_n 3, 1) := by decide +kernel
theorem dX9_project_37 : decode cX9_project 37 = .ok (.iload 4, 2) := by decide +kernel
theorem dX9_project_39 : decode cX9_project 39 = .ok (.invokevirtual 168, 3) := by decide +kernel
theorem dX9_project_42 : decode cX9_project 42 = .ok (.aload_n 0, 1) := by decide +kernel
theorem dX9_project_43 : decode cX9_project 43 = .ok (.getfield 25, 3) := by decide +kernel
theorem dX9_project_46 : decode cX9_project 46 = .ok (.iconst 4, 1) := by decide +kernel
theorem dX9_project_47 : decode cX9_project 47 = .ok (.aload_n 0, 1) := by decide +kernel
theorem dX9_project_48 : decode cX9_project 48 = .ok (.iload_n 1, 1) := by decide +kernel
theorem dX9_project_49 : decode cX9_project 49 = .ok (.iload_n 2, 1) := by decide +kernel
theorem dX9_project_50 : decode cX9_project 50 = .ok (.invokevirtual 147, 3) := by decide +kernel
theorem dX9_project_53 : decode cX9_project 53 = .ok (.imul, 1) := by decide +kernel
theorem dX9_project_54 : decode cX9_project 54 = .ok (.iload_n 3, 1) := by decide +kernel
theorem dX9_project_55 : decode cX9_project 55 = .ok (.iadd, 1) := by decide +kernel
theorem dX9_project_56 : decode cX9_project 56 = .ok (.iaload, 1) := by decide +kernel
theorem dX9_project_57 : decode cX9_project 57 = .ok (.ireturn, 1) := by decide +kernel
theorem dX9_extend_0 : decode cX9_extend 0 = .ok (.aload_n 0, 1) := by decide +kernel
theorem dX9_extend_1 : decode cX9_extend 1 = .ok (.iload_n 1, 1) := by decide +kernel
theorem dX9_extend_2 : decode cX9_extend 2 = .ok (.iload_n 2, 1) := by decide +kernel
theorem dX9_extend_3 : decode cX9_extend 3 = .ok (.iload_n 3, 1) := by decide +kernel
theorem dX9_extend_4 : decode cX9_extend 4 = .ok (.iload 4, 2) := by decide +kernel
theorem dX9_extend_6 : decode cX9_extend 6 = .ok (.invokevirtual 160, 3) := by decide +kernel
theorem dX9_extend_9 : decode cX9_extend 9 = .ok (.ifCond .ne 5, 3) := by decide +kernel
theorem dX9_extend_12 : decode cX9_extend 12 = .ok (.iconst (-1), 1) := by decide +kernel
theorem dX9_extend_13 : decode cX9_extend 13 = .ok (.ireturn, 1) := by decide +kernel
theorem dX9_extend_14 : decode cX9_extend 14 = .ok (.aload_n 0, 1) := by decide +kernel
theorem dX9_extend_15 : decode cX9_extend 15 = .ok (.getfield 25, 3) := by decide +kernel
theorem dX9_extend_18 : decode cX9_extend 18 = .ok (.iconst 4, 1) := by decide +kernel
theorem dX9_extend_19 : decode cX9_extend 19 = .ok (.aload_n 0, 1) := by decide +kernel
theorem dX9_extend_20 : decode cX9_extend 20 = .ok (.iload_n 1, 1) := by decide +kernel
theorem dX9_extend_21 : decode cX9_extend 21 = .ok (.iload_n 2, 1) := by decide +kernel
theorem dX9_extend_22 : decode cX9_extend 22 = .ok (.invokevirtual 147, 3) := by decide +kernel
theorem dX9_extend_25 : decode cX9_extend 25 = .ok (.imul, 1) := by decide +kernel
theorem dX9_extend_26 : decode cX9_extend 26 = .ok (.iload_n 3, 1) := by decide +kernel
theorem dX9_extend_27 : decode cX9_extend 27 = .ok (.iadd, 1) := by decide +kernel
theorem dX9_extend_28 : decode cX9_extend 28 = .ok (.iaload, 1) := by decide +kernel
theorem dX9_extend_29 : decode cX9_extend 29 = .ok (.iload 4, 2) := by decide +kernel
theorem dX9_extend_31 : decode cX9_extend 31 = .ok (.if_icmp .ge 6, 3) := by decide +kernel
theorem dX9_extend_34 : decode cX9_extend 34 = .ok (.bipush (-2), 2) := by decide +kernel
theorem dX9_extend_36 : decode cX9_extend 36 = .ok (.ireturn, 1) := by decide +kernel
theorem dX9_extend_37 : decode cX9_extend 37 = .ok (.aload_n 0, 1) := by decide +kernel
theorem dX9_extend_38 : decode cX9_extend 38 = .ok (.invokevirtual 154, 3) := by decide +kernel
theorem dX9_extend_41 : decode cX9_extend 41 = .ok (.aload_n 0, 1) := by decide +kernel
theorem dX9_extend_42 : decode cX9_extend 42 = .ok (.iload_n 1, 1) := by decide +kernel
theorem dX9_extend_43 : decode cX9_extend 43 = .ok (.iload_n 2, 1) := by decide +kernel
theorem dX9_extend_44 : decode cX9_extend 44 = .ok (.iload_n 3, 1) := by decide +kernel
theorem dX9_extend_45 : decode cX9_extend 45 = .ok (.iload 4, 2) := by decide +kernel
theorem dX9_extend_47 : decode cX9_extend 47 = .ok (.invokevirtual 171, 3) := by decide +kernel
theorem dX9_extend_50 : decode cX9_extend 50 = .ok (.aload_n 0, 1) := by decide +kernel
theorem dX9_extend_51 : decode cX9_extend 51 = .ok (.getfield 25, 3) := by decide +kernel
theorem dX9_extend_54 : decode cX9_extend 54 = .ok (.iconst 4, 1) := by decide +kernel
theorem dX9_extend_55 : decode cX9_extend 55 = .ok (.aload_n 0, 1) := by decide +kernel
theorem dX9_extend_56 : decode cX9_extend 56 = .ok (.iload_n 1, 1) := by decide +kernel
theorem dX9_extend_57 : decode cX9_extend 57 = .ok (.iload_n 2, 1) := by decide +kernel
theorem dX9_extend_58 : decode cX9_extend 58 = .ok (.invokevirtual 147, 3) := by decide +kernel
theorem dX9_extend_61 : decode cX9_extend 61 = .ok (.imul, 1) := by decide +kernel
theorem dX9_extend_62 : decode cX9_extend 62 = .ok (.iload_n 3, 1) := by decide +kernel
theorem dX9_extend_63 : decode cX9_extend 63 = .ok (.iadd, 1) := by decide +kernel
theorem dX9_extend_64 : decode cX9_extend 64 = .ok (.iaload, 1) := by decide +kernel
theorem dX9_extend_65 : decode cX9_extend 65 = .ok (.ireturn, 1) := by decide +kernel
theorem dX9_raise_0 : decode cX9_raise 0 = .ok (.aload_n 0, 1) := by decide +kernel
theorem dX9_raise_1 : decode cX9_raise 1 = .ok (.iload_n 1, 1) := by decide +kernel
theorem dX9_raise_2 : decode cX9_raise 2 = .ok (.invokevirtual 132, 3) := by decide +kernel
theorem dX9_raise_5 : decode cX9_raise 5 = .ok (.ifCond .eq 13, 3) := by decide +kernel
theorem dX9_raise_8 : decode cX9_raise 8 = .ok (.iload_n 2, 1) := by decide +kernel
theorem dX9_raise_9 : decode cX9_raise 9 = .ok (.iconst 1, 1) := by decide +kernel
theorem dX9_raise_10 : decode cX9_raise 10 = .ok (.bipush 99, 2) := by decide +kernel
theorem dX9_raise_12 : decode cX9_raise 12 = .ok (.invokestatic 85, 3) := by decide +kernel
theorem dX9_raise_15 : decode cX9_raise 15 = .ok (.ifCond .ne 5, 3) := by decide +kernel
theorem dX9_raise_18 : decode cX9_raise 18 = .ok (.iconst (-1), 1) := by decide +kernel
theorem dX9_raise_19 : decode cX9_raise 19 = .ok (.ireturn, 1) := by decide +kernel
theorem dX9_raise_20 : decode cX9_raise 20 = .ok (.aload_n 0, 1) := by decide +kernel
theorem dX9_raise_21 : decode cX9_raise 21 = .ok (.iload_n 1, 1) := by decide +kernel
theorem dX9_raise_22 : decode cX9_raise 22 = .ok (.invokevirtual 135, 3) := by decide +kernel
theorem dX9_raise_25 : decode cX9_raise 25 = .ok (.iload_n 2, 1) := by decide +kernel
theorem dX9_raise_26 : decode cX9_raise 26 = .ok (.if_icmp .ge 6, 3) := by decide +kernel
theorem dX9_raise_29 : decode cX9_raise 29 = .ok (.bipush (-2), 2) := by decide +kernel
theorem dX9_raise_31 : decode cX9_raise 31 = .ok (.ireturn, 1) := by decide +kernel
theorem dX9_raise_32 : decode cX9_raise 32 = .ok (.aload_n 0, 1) := by decide +kernel
theorem dX9_raise_33 : decode cX9_raise 33 = .ok (.invokevirtual 154, 3) := by decide +kernel
theorem dX9_raise_36 : decode cX9_raise 36 = .ok (.aload_n 0, 1) := by decide +kernel
theorem dX9_raise_37 : decode cX9_raise 37 = .ok (.iload_n 1, 1) := by decide +kernel
theorem dX9_raise_38 : decode cX9_raise 38 = .ok (.iload_n 2, 1) := by decide +kernel
theorem dX9_raise_39 : decode cX9_raise 39 = .ok (.invokevirtual 174, 3) := by decide +kernel
theorem dX9_raise_42 : decode cX9_raise 42 = .ok (.aload_n 0, 1) := by decide +kernel
theorem dX9_raise_43 : decode cX9_raise 43 = .ok (.getfield 25, 3) := by decide +kernel
theorem dX9_raise_46 : decode cX9_raise 46 = .ok (.sipush 168, 3) := by decide +kernel
theorem dX9_raise_49 : decode cX9_raise 49 = .ok (.iaload, 1) := by decide +kernel
theorem dX9_raise_50 : decode cX9_raise 50 = .ok (.ireturn, 1) := by decide +kernel
theorem dX9_nodes_0 : decode cX9_nodes 0 = .ok (.iconst 0, 1) := by decide +kernel
theorem dX9_nodes_1 : decode cX9_nodes 1 = .ok (.istore_n 1, 1) := by decide +kernel
theorem dX9_nodes_2 : decode cX9_nodes 2 = .ok (.iload_n 1, 1) := by decide +kernel
theorem dX9_nodes_3 : decode cX9_nodes 3 = .ok (.aload_n 0, 1) := by decide +kernel
theorem dX9_nodes_4 : decode cX9_nodes 4 = .ok (.getfield 58, 3) := by decide +kernel
theorem dX9_nodes_7 : decode cX9_nodes 7 = .ok (.if_icmp .ge 79, 3) := by decide +kernel
theorem dX9_nodes_10 : decode cX9_nodes 10 = .ok (.aload_n 0, 1) := by decide +kernel
theorem dX9_nodes_11 : decode cX9_nodes 11 = .ok (.iload_n 1, 1) := by decide +kernel
theorem dX9_nodes_12 : decode cX9_nodes 12 = .ok (.invokevirtual 135, 3) := by decide +kernel
theorem dX9_nodes_15 : decode cX9_nodes 15 = .ok (.istore_n 2, 1) := by decide +kernel
theorem dX9_nodes_16 : decode cX9_nodes 16 = .ok (.iload_n 2, 1) := by decide +kernel
theorem dX9_nodes_17 : decode cX9_nodes 17 = .ok (.ifCond .le 9, 3) := by decide +kernel
theorem dX9_nodes_20 : decode cX9_nodes 20 = .ok (.aload_n 0, 1) := by decide +kernel
theorem dX9_nodes_21 : decode cX9_nodes 21 = .ok (.iload_n 1, 1) := by decide +kernel
theorem dX9_nodes_22 : decode cX9_nodes 22 = .ok (.iload_n 2, 1) := by decide +kernel
theorem dX9_nodes_23 : decode cX9_nodes 23 = .ok (.invokevirtual 174, 3) := by decide +kernel
theorem dX9_nodes_26 : decode cX9_nodes 26 = .ok (.iconst 0, 1) := by decide +kernel
theorem dX9_nodes_27 : decode cX9_nodes 27 = .ok (.istore_n 3, 1) := by decide +kernel
theorem dX9_nodes_28 : decode cX9_nodes 28 = .ok (.iload_n 3, 1) := by decide +kernel
theorem dX9_nodes_29 : decode cX9_nodes 29 = .ok (.aload_n 0, 1) := by decide +kernel
theorem dX9_nodes_30 : decode cX9_nodes 30 = .ok (.getfield 13, 3) := by decide +kernel
theorem dX9_nodes_33 : decode cX9_nodes 33 = .ok (.iload_n 1, 1) := by decide +kernel
theorem dX9_nodes_34 : decode cX9_nodes 34 = .ok (.iaload, 1) := by decide +kernel
theorem dX9_nodes_35 : decode cX9_nodes 35 = .ok (.if_icmp .ge 45, 3) := by decide +kernel
theorem dX9_nodes_38 : decode cX9_nodes 38 = .ok (.aload_n 0, 1) := by decide +kernel
theorem dX9_nodes_39 : decode cX9_nodes 39 = .ok (.getfield 25, 3) := by decide +kernel
theorem dX9_nodes_42 : decode cX9_nodes 42 = .ok (.iconst 4, 1) := by decide +kernel
theorem dX9_nodes_43 : decode cX9_nodes 43 = .ok (.iload_n 1, 1) := by decide +kernel
theorem dX9_nodes_44 : decode cX9_nodes 44 = .ok (.imul, 1) := by decide +kernel
theorem dX9_nodes_45 : decode cX9_nodes 45 = .ok (.iload_n 3, 1) := by decide +kernel
theorem dX9_nodes_46 : decode cX9_nodes 46 = .ok (.iadd, 1) := by decide +kernel
theorem dX9_nodes_47 : decode cX9_nodes 47 = .ok (.aload_n 0, 1) := by decide +kernel
theorem dX9_nodes_48 : decode cX9_nodes 48 = .ok (.iload_n 1, 1) := by decide +kernel
theorem dX9_nodes_49 : decode cX9_nodes 49 = .ok (.iload_n 3, 1) := by decide +kernel
theorem dX9_nodes_50 : decode cX9_nodes 50 = .ok (.invokevirtual 138, 3) := by decide +kernel
theorem dX9_nodes_53 : decode cX9_nodes 53 = .ok (.ifCond .eq 10, 3) := by decide +kernel
theorem dX9_nodes_56 : decode cX9_nodes 56 = .ok (.aload_n 0, 1) := by decide +kernel
theorem dX9_nodes_57 : decode cX9_nodes 57 = .ok (.getfield 62, 3) := by decide +kernel
theorem dX9_nodes_60 : decode cX9_nodes 60 = .ok (.goto 13, 3) := by decide +kernel
theorem dX9_nodes_63 : decode cX9_nodes 63 = .ok (.aload_n 0, 1) := by decide +kernel
theorem dX9_nodes_64 : decode cX9_nodes 64 = .ok (.getfield 25, 3) := by decide +kernel
theorem dX9_nodes_67 : decode cX9_nodes 67 = .ok (.iconst 4, 1) := by decide +kernel
theorem dX9_nodes_68 : decode cX9_nodes 68 = .ok (.iload_n 1, 1) := by decide +kernel
theorem dX9_nodes_69 : decode cX9_nodes 69 = .ok (.imul, 1) := by decide +kernel
theorem dX9_nodes_70 : decode cX9_nodes 70 = .ok (.iload_n 3, 1) := by decide +kernel
theorem dX9_nodes_71 : decode cX9_nodes 71 = .ok (.iadd, 1) := by decide +kernel
theorem dX9_nodes_72 : decode cX9_nodes 72 = .ok (.iaload, 1) := by decide +kernel
theorem dX9_nodes_73 : decode cX9_nodes 73 = .ok (.iastore, 1) := by decide +kernel
theorem dX9_nodes_74 : decode cX9_nodes 74 = .ok (.iinc 3 1, 3) := by decide +kernel
theorem dX9_nodes_77 : decode cX9_nodes 77 = .ok (.goto (-49), 3) := by decide +kernel
theorem dX9_nodes_80 : decode cX9_nodes 80 = .ok (.iinc 1 1, 3) := by decide +kernel
theorem dX9_nodes_83 : decode cX9_nodes 83 = .ok (.goto (-81), 3) := by decide +kernel
theorem dX9_nodes_86 : decode cX9_nodes 86 = .ok (.return_, 1) := by decide +kernel
theorem dX9_shuts_0 : decode cX9_shuts 0 = .ok (.iconst 0, 1) := by decide +kernel
theorem dX9_shuts_1 : decode cX9_shuts 1 = .ok (.istore_n 2, 1) := by decide +kernel
theorem dX9_shuts_2 : decode cX9_shuts 2 = .ok (.iload_n 2, 1) := by decide +kernel
theorem dX9_shuts_3 : decode cX9_shuts 3 = .ok (.aload_n 0, 1) := by decide +kernel
theorem dX9_shuts_4 : decode cX9_shuts 4 = .ok (.getfield 13, 3) := by decide +kernel
theorem dX9_shuts_7 : decode cX9_shuts 7 = .ok (.aload_n 0, 1) := by decide +kernel
theorem dX9_shuts_8 : decode cX9_shuts 8 = .ok (.getfield 16, 3) := by decide +kernel
theorem dX9_shuts_11 : decode cX9_shuts 11 = .ok (.iload_n 1, 1) := by decide +kernel
theorem dX9_shuts_12 : decode cX9_shuts 12 = .ok (.iaload, 1) := by decide +kernel
theorem dX9_shuts_13 : decode cX9_shuts 13 = .ok (.iaload, 1) := by decide +kernel
theorem dX9_shuts_14 : decode cX9_shuts 14 = .ok (.if_icmp .ge 92, 3) := by decide +kernel
theorem dX9_shuts_17 : decode cX9_shuts 17 = .ok (.iconst 0, 1) := by decide +kernel
theorem dX9_shuts_18 : decode cX9_shuts 18 = .ok (.istore_n 3, 1) := by decide +kernel
theorem dX9_shuts_19 : decode cX9_shuts 19 = .ok (.iload_n 3, 1) := by decide +kernel
theorem dX9_shuts_20 : decode cX9_shuts 20 = .ok (.aload_n 0, 1) := by decide +kernel
theorem dX9_shuts_21 : decode cX9_shuts 21 = .ok (.getfield 13, 3) := by decide +kernel
theorem dX9_shuts_24 : decode cX9_shuts 24 = .ok (.aload_n 0, 1) := by decide +kernel
theorem dX9_shuts_25 : decode cX9_shuts 25 = .ok (.getfield 19, 3) := by decide +kernel
theorem dX9_shuts_28 : decode cX9_shuts 28 = .ok (.iload_n 1, 1) := by decide +kernel
theorem dX9_shuts_29 : decode cX9_shuts 29 = .ok (.iaload, 1) := by decide +kernel
theorem dX9_shuts_30 : decode cX9_shuts 30 = .ok (.iaload, 1) := by decide +kernel
theorem dX9_shuts_31 : decode cX9_shuts 31 = .ok (.if_icmp .ge 69, 3) := by decide +kernel
theorem dX9_shuts_34 : decode cX9_shuts 34 = .ok (.aload_n 0, 1) := by decide +kernel
theorem dX9_shuts_35 : decode cX9_shuts 35 = .ok (.getfield 25, 3) := by decide +kernel
theorem dX9_shuts_38 : decode cX9_shuts 38 = .ok (.iconst 4, 1) := by decide +kernel
theorem dX9_shuts_39 : decode cX9_shuts 39 = .ok (.aload_n 0, 1) := by decide +kernel
theorem dX9_shuts_40 : decode cX9_shuts 40 = .ok (.getfield 16, 3) := by decide +kernel
theorem dX9_shuts_43 : decode cX9_shuts 43 = .ok (.iload_n 1, 1) := by decide +kernel
theorem dX9_shuts_44 : decode cX9_shuts 44 = .ok (.iaload, 1) := by decide +kernel
theorem dX9_shuts_45 : decode cX9_shuts 45 = .ok (.imul, 1) := by decide +kernel
theorem dX9_shuts_46 : decode cX9_shuts 46 = .ok (.iload_n 2, 1) := by decide +kernel
theorem dX9_shuts_47 : decode cX9_shuts 47 = .ok (.iadd, 1) := by decide +kernel
theorem dX9_shuts_48 : decode cX9_shuts 48 = .ok (.iaload, 1) := by decide +kernel
theorem dX9_shuts_49 : decode cX9_shuts 49 = .ok (.aload_n 0, 1) := by decide +kernel
theorem dX9_shuts_50 : decode cX9_shuts 50 = .ok (.getfield 62, 3) := by decide +kernel
theorem dX9_shuts_53 : decode cX9_shuts 53 = .ok (.if_icmp .eq 25, 3) := by decide +kernel
theorem dX9_shuts_56 : decode cX9_shuts 56 = .ok (.aload_n 0, 1) := by decide +kernel
theorem dX9_shuts_57 : decode cX9_shuts 57 = .ok (.getfield 25, 3) := by decide +kernel
theorem dX9_shuts_60 : decode cX9_shuts 60 = .ok (.iconst 4, 1) := by decide +kernel
theorem dX9_shuts_61 : decode cX9_shuts 61 = .ok (.aload_n 0, 1) := by decide +kernel
theorem dX9_shuts_62 : decode cX9_shuts 62 = .ok (.getfield 19, 3) := by decide +kernel
theorem dX9_shuts_65 : decode cX9_shuts 65 = .ok (.iload_n 1, 1) := by decide +kernel
theorem dX9_shuts_66 : decode cX9_shuts 66 = .ok (.iaload, 1) := by decide +kernel
theorem dX9_shuts_67 : decode cX9_shuts 67 = .ok (.imul, 1) := by decide +kernel
theorem dX9_shuts_68 : decode cX9_shuts 68 = .ok (.iload_n 3, 1) := by decide +kernel
theorem dX9_shuts_69 : decode cX9_shuts 69 = .ok (.iadd, 1) := by decide +kernel
theorem dX9_shuts_70 : decode cX9_shuts 70 = .ok (.iaload, 1) := by decide +kernel
theorem dX9_shuts_71 : decode cX9_shuts 71 = .ok (.aload_n 0, 1) := by decide +kernel
theorem dX9_shuts_72 : decode cX9_shuts 72 = .ok (.getfield 62, 3) := by decide +kernel
theorem dX9_shuts_75 : decode cX9_shuts 75 = .ok (.if_icmp .ne 19, 3) := by decide +kernel
theorem dX9_shuts_78 : decode cX9_shuts 78 = .ok (.aload_n 0, 1) := by decide +kernel
theorem dX9_shuts_79 : decode cX9_shuts 79 = .ok (.getfield 25, 3) := by decide +kernel
theorem dX9_shuts_82 : decode cX9_shuts 82 = .ok (.iload_n 1, 1) := by decide +kernel
theorem dX9_shuts_83 : decode cX9_shuts 83 = .ok (.iconst 0, 1) := by decide +kernel
theorem dX9_shuts_84 : decode cX9_shuts 84 = .ok (.iload_n 2, 1) := by decide +kernel
theorem dX9_shuts_85 : decode cX9_shuts 85 = .ok (.iload_n 3, 1) := by decide +kernel
theorem dX9_shuts_86 : decode cX9_shuts 86 = .ok (.invokestatic 150, 3) := by decide +kernel
theorem dX9_shuts_89 : decode cX9_shuts 89 = .ok (.aload_n 0, 1) := by decide +kernel
theorem dX9_shuts_90 : decode cX9_shuts 90 = .ok (.getfield 62, 3) := by decide +kernel
theorem dX9_shuts_93 : decode cX9_shuts 93 = .ok (.iastore, 1) := by decide +kernel
theorem dX9_shuts_94 : decode cX9_shuts 94 = .ok (.iinc 3 1, 3) := by decide +kernel
theorem dX9_shuts_97 : decode cX9_shuts 97 = .ok (.goto (-78), 3) := by decide +kernel
theorem dX9_shuts_100 : decode cX9_shuts 100 = .ok (.iinc 2 1, 3) := by decide +kernel
theorem dX9_shuts_103 : decode cX9_shuts 103 = .ok (.goto (-101), 3) := by decide +kernel
theorem dX9_shuts_106 : decode cX9_shuts 106 = .ok (.return_, 1) := by decide +kernel
theorem dX9_arcs_0 : decode cX9_arcs 0 = .ok (.aload_n 0, 1) := by decide +kernel
theorem dX9_arcs_1 : decode cX9_arcs 1 = .ok (.iload_n 1, 1) := by decide +kernel
theorem dX9_arcs_2 : decode cX9_arcs 2 = .ok (.invokevirtual 178, 3) := by decide +kernel
theorem dX9_arcs_5 : decode cX9_arcs 5 = .ok (.iconst 0, 1) := by decide +kernel
theorem dX9_arcs_6 : decode cX9_arcs 6 = .ok (.istore_n 2, 1) := by decide +kernel
theorem dX9_arcs_7 : decode cX9_arcs 7 = .ok (.iload_n 2, 1) := by decide +kernel
theorem dX9_arcs_8 : decode cX9_arcs 8 = .ok (.iconst 2, 1) := by decide +kernel
theorem dX9_arcs_9 : decode cX9_arcs 9 = .ok (.if_icmp .ge 55, 3) := by decide +kernel
theorem dX9_arcs_12 : decode cX9_arcs 12 = .ok (.iconst 0, 1) := by decide +kernel
theorem dX9_arcs_13 : decode cX9_arcs 13 = .ok (.istore_n 3, 1) := by decide +kernel
theorem dX9_arcs_14 : decode cX9_arcs 14 = .ok (.iload_n 3, 1) := by decide +kernel
theorem dX9_arcs_15 : decode cX9_arcs 15 = .ok (.aload_n 0, 1) := by decide +kernel
theorem dX9_arcs_16 : decode cX9_arcs 16 = .ok (.getfield 13, 3) := by decide +kernel
theorem dX9_arcs_19 : decode cX9_arcs 19 = .ok (.aload_n 0, 1) := by decide +kernel
theorem dX9_arcs_20 : decode cX9_arcs 20 = .ok (.iload_n 1, 1) := by decide +kernel
theorem dX9_arcs_21 : decode cX9_arcs 21 = .ok (.iload_n 2, 1) := by decide +kernel
theorem dX9_arcs_22 : decode cX9_arcs 22 = .ok (.invokevirtual 147, 3) := by decide +kernel
theorem dX9_arcs_25 : decode cX9_arcs 25 = .ok (.iaload, 1) := by decide +kernel
theorem dX9_arcs_26 : decode cX9_arcs 26 = .ok (.if_icmp .ge 32, 3) := by decide +kernel
theorem dX9_arcs_29 : decode cX9_arcs 29 = .ok (.aload_n 0, 1) := by decide +kernel
theorem dX9_arcs_30 : decode cX9_arcs 30 = .ok (.iload_n 1, 1) := by decide +kernel
theorem dX9_arcs_31 : decode cX9_arcs 31 = .ok (.iload_n 2, 1) := by decide +kernel
theorem dX9_arcs_32 : decode cX9_arcs 32 = .ok (.iload_n 3, 1) := by decide +kernel
theorem dX9_arcs_33 : decode cX9_arcs 33 = .ok (.invokevirtual 164, 3) := by decide +kernel
theorem dX9_arcs_36 : decode cX9_arcs 36 = .ok (.istore 4, 2) := by decide +kernel
theorem dX9_arcs_38 : decode cX9_arcs 38 = .ok (.iload 4, 2) := by decide +kernel
theorem dX9_arcs_40 : decode cX9_arcs 40 = .ok (.ifCond .le 12, 3) := by decide +kernel
theorem dX9_arcs_43 : decode cX9_arcs 43 = .ok (.aload_n 0, 1) := by decide +kernel
theorem dX9_arcs_44 : decode cX9_arcs 44 = .ok (.iload_n 1, 1) := by decide +kernel
theorem dX9_arcs_45 : decode cX9_arcs 45 = .ok (.iload_n 2, 1) := by decide +kernel
theorem dX9_arcs_46 : decode cX9_arcs 46 = .ok (.iload_n 3, 1) := by decide +kernel
theorem dX9_arcs_47 : decode cX9_arcs 47 = .ok (.iload 4, 2) := by decide +kernel
theorem dX9_arcs_49 : decode cX9_arcs 49 = .ok (.invokevirtual 168, 3) := by decide +kernel
theorem dX9_arcs_52 : decode cX9_arcs 52 = .ok (.iinc 3 1, 3) := by decide +kernel
theorem dX9_arcs_55 : decode cX9_arcs 55 = .ok (.goto (-41), 3) := by decide +kernel
theorem dX9_arcs_58 : decode cX9_arcs 58 = .ok (.iinc 2 1, 3) := by decide +kernel
theorem dX9_arcs_61 : decode cX9_arcs 61 = .ok (.goto (-54), 3) := by decide +kernel
theorem dX9_arcs_64 : decode cX9_arcs 64 = .ok (.return_, 1) := by decide +kernel
theorem dX9_directs_0 : decode cX9_directs 0 = .ok (.aload_n 0, 1) := by decide +kernel
theorem dX9_directs_1 : decode cX9_directs 1 = .ok (.iload_n 1, 1) := by decide +kernel
theorem dX9_directs_2 : decode cX9_directs 2 = .ok (.invokevirtual 178, 3) := by decide +kernel
theorem dX9_directs_5 : decode cX9_directs 5 = .ok (.aload_n 0, 1) := by decide +kernel
theorem dX9_directs_6 : decode cX9_directs 6 = .ok (.getfield 16, 3) := by decide +kernel
theorem dX9_directs_9 : decode cX9_directs 9 = .ok (.iload_n 1, 1) := by decide +kernel
theorem dX9_directs_10 : decode cX9_directs 10 = .ok (.iaload, 1) := by decide +kernel
theorem dX9_directs_11 : decode cX9_directs 11 = .ok (.istore_n 2, 1) := by decide +kernel
theorem dX9_directs_12 : decode cX9_directs 12 = .ok (.aload_n 0, 1) := by decide +kernel
theorem dX9_directs_13 : decode cX9_directs 13 = .ok (.getfield 19, 3) := by decide +kernel
theorem dX9_directs_16 : decode cX9_directs 16 = .ok (.iload_n 1, 1) := by decide +kernel
theorem dX9_directs_17 : decode cX9_directs 17 = .ok (.iaload, 1) := by decide +kernel
theorem dX9_directs_18 : decode cX9_directs 18 = .ok (.istore_n 3, 1) := by decide +kernel
theorem dX9_directs_19 : decode cX9_directs 19 = .ok (.iconst 0, 1) := by decide +kernel
theorem dX9_directs_20 : decode cX9_directs 20 = .ok (.istore 4, 2) := by decide +kernel
theorem dX9_directs_22 : decode cX9_directs 22 = .ok (.iload 4, 2) := by decide +kernel
theorem dX9_directs_24 : decode cX9_directs 24 = .ok (.aload_n 0, 1) := by decide +kernel
theorem dX9_directs_25 : decode cX9_directs 25 = .ok (.getfield 13, 3) := by decide +kernel
theorem dX9_directs_28 : decode cX9_directs 28 = .ok (.iload_n 2, 1) := by decide +kernel
theorem dX9_directs_29 : decode cX9_directs 29 = .ok (.iaload, 1) := by decide +kernel
theorem dX9_directs_30 : decode cX9_directs 30 = .ok (.if_icmp .ge 102, 3) := by decide +kernel
theorem dX9_directs_33 : decode cX9_directs 33 = .ok (.aload_n 0, 1) := by decide +kernel
theorem dX9_directs_34 : decode cX9_directs 34 = .ok (.getfield 46, 3) := by decide +kernel
theorem dX9_directs_37 : decode cX9_directs 37 = .ok (.iload 4, 2) := by decide +kernel
theorem dX9_directs_39 : decode cX9_directs 39 = .ok (.aload_n 0, 1) := by decide +kernel
theorem dX9_directs_40 : decode cX9_directs 40 = .ok (.getfield 62, 3) := by decide +kernel
theorem dX9_directs_43 : decode cX9_directs 43 = .ok (.iastore, 1) := by decide +kernel
theorem dX9_directs_44 : decode cX9_directs 44 = .ok (.iconst 0, 1) := by decide +kernel
theorem dX9_directs_45 : decode cX9_directs 45 = .ok (.istore 5, 2) := by decide +kernel
theorem dX9_directs_47 : decode cX9_directs 47 = .ok (.iload 5, 2) := by decide +kernel
theorem dX9_directs_49 : decode cX9_directs 49 = .ok (.aload_n 0, 1) := by decide +kernel
theorem dX9_directs_50 : decode cX9_directs 50 = .ok (.getfield 13, 3) := by decide +kernel
theorem dX9_directs_53 : decode cX9_directs 53 = .ok (.iload_n 3, 1) := by decide +kernel
theorem dX9_directs_54 : decode cX9_directs 54 = .ok (.iaload, 1) := by decide +kernel
theorem dX9_directs_55 : decode cX9_directs 55 = .ok (.if_icmp .ge 71, 3) := by decide +kernel
theorem dX9_directs_58 : decode cX9_directs 58 = .ok (.aload_n 0, 1) := by decide +kernel
theorem dX9_directs_59 : decode cX9_directs 59 = .ok (.aload_n 0, 1) := by decide +kernel
theorem dX9_directs_60 : decode cX9_directs 60 = .ok (.getfield 25, 3) := by decide +kernel
theorem dX9_directs_63 : decode cX9_directs 63 = .ok (.iload_n 1, 1) := by decide +kernel
theorem dX9_directs_64 : decode cX9_directs 64 = .ok (.iconst 0, 1) := by decide +kernel
theorem dX9_directs_65 : decode cX9_directs 65 = .ok (.iload 4, 2) := by decide +kernel
theorem dX9_directs_67 : decode cX9_directs 67 = .ok (.iload 5, 2) := by decide +kernel
theorem dX9_directs_69 : decode cX9_directs 69 = .ok (.invokestatic 150, 3) := by decide +kernel
theorem dX9_directs_72 : decode cX9_directs 72 = .ok (.iaload, 1) := by decide +kernel
theorem dX9_directs_73 : decode cX9_directs 73 = .ok (.aload_n 0, 1) := by decide +kernel
theorem dX9_directs_74 : decode cX9_directs 74 = .ok (.getfield 25, 3) := by decide +kernel
theorem dX9_directs_77 : decode cX9_directs 77 = .ok (.iconst 4, 1) := by decide +kernel
theorem dX9_directs_78 : decode cX9_directs 78 = .ok (.iload_n 3, 1) := by decide +kernel
theorem dX9_directs_79 : decode cX9_directs 79 = .ok (.imul, 1) := by decide +kernel
theorem dX9_directs_80 : decode cX9_directs 80 = .ok (.iload 5, 2) := by decide +kernel
theorem dX9_directs_82 : decode cX9_directs 82 = .ok (.iadd, 1) := by decide +kernel
theorem dX9_directs_83 : decode cX9_directs 83 = .ok (.iaload, 1) := by decide +kernel
theorem dX9_directs_84 : decode cX9_directs 84 = .ok (.invokevirtual 125, 3) := by decide +kernel
theorem dX9_directs_87 : decode cX9_directs 87 = .ok (.istore 6, 2) := by decide +kernel
theorem dX9_directs_89 : decode cX9_directs 89 = .ok (.aload_n 0, 1) := by decide +kernel
theorem dX9_directs_90 : decode cX9_directs 90 = .ok (.getfield 46, 3) := by decide +kernel
theorem dX9_directs_93 : decode cX9_directs 93 = .ok (.iload 4, 2) := by decide +kernel
theorem dX9_directs_95 : decode cX9_directs 95 = .ok (.iload 6, 2) := by decide +kernel
theorem dX9_directs_97 : decode cX9_directs 97 = .ok (.aload_n 0, 1) := by decide +kernel
theorem dX9_directs_98 : decode cX9_directs 98 = .ok (.getfield 46, 3) := by decide +kernel
theorem dX9_directs_101 : decode cX9_directs 101 = .ok (.iload 4, 2) := by decide +kernel
theorem dX9_directs_103 : decode cX9_directs 103 = .ok (.iaload, 1) := by decide +kernel
theorem dX9_directs_104 : decode cX9_directs 104 = .ok (.if_icmp .ge 8, 3) := by decide +kernel
theorem dX9_directs_107 : decode cX9_directs 107 = .ok (.iload 6, 2) := by decide +kernel
theorem dX9_directs_109 : decode cX9_directs 109 = .ok (.goto 10, 3) := by decide +kernel
theorem dX9_directs_112 : decode cX9_directs 112 = .ok (.aload_n 0, 1) := by decide +kernel
theorem dX9_directs_113 : decode cX9_directs 113 = .ok (.getfield 46, 3) := by decide +kernel
theorem dX9_directs_116 : decode cX9_directs 116 = .ok (.iload 4, 2) := by decide +kernel
theorem dX9_directs_118 : decode cX9_directs 118 = .ok (.iaload, 1) := by decide +kernel
theorem dX9_directs_119 : decode cX9_directs 119 = .ok (.iastore, 1) := by decide +kernel
theorem dX9_directs_120 : decode cX9_directs 120 = .ok (.iinc 5 1, 3) := by decide +kernel
theorem dX9_directs_123 : decode cX9_directs 123 = .ok (.goto (-76), 3) := by decide +kernel
theorem dX9_directs_126 : decode cX9_directs 126 = .ok (.iinc 4 1, 3) := by decide +kernel
theorem dX9_directs_129 : decode cX9_directs 129 = .ok (.goto (-107), 3) := by decide +kernel
theorem dX9_directs_132 : decode cX9_directs 132 = .ok (.iconst 0, 1) := by decide +kernel
theorem dX9_directs_133 : decode cX9_directs 133 = .ok (.istore 4, 2) := by decide +kernel
theorem dX9_directs_135 : decode cX9_directs 135 = .ok (.iload 4, 2) := by decide +kernel
theorem dX9_directs_137 : decode cX9_directs 137 = .ok (.aload_n 0, 1) := by decide +kernel
theorem dX9_directs_138 : decode cX9_directs 138 = .ok (.getfield 13, 3) := by decide +kernel
theorem dX9_directs_141 : decode cX9_directs 141 = .ok (.iload_n 3, 1) := by decide +kernel
theorem dX9_directs_142 : decode cX9_directs 142 = .ok (.iaload, 1) := by decide +kernel
theorem dX9_directs_143 : decode cX9_directs 143 = .ok (.if_icmp .ge 87, 3) := by decide +kernel
theorem dX9_directs_146 : decode cX9_directs 146 = .ok (.iconst 0, 1) := by decide +kernel
theorem dX9_directs_147 : decode cX9_directs 147 = .ok (.istore 5, 2) := by decide +kernel
theorem dX9_directs_149 : decode cX9_directs 149 = .ok (.iconst 0, 1) := by decide +kernel
theorem dX9_directs_150 : decode cX9_directs 150 = .ok (.istore 6, 2) := by decide +kernel
theorem dX9_directs_152 : decode cX9_directs 152 = .ok (.iload 6, 2) := by decide +kernel
theorem dX9_directs_154 : decode cX9_directs 154 = .ok (.aload_n 0, 1) := by decide +kernel
theorem dX9_directs_155 : decode cX9_directs 155 = .ok (.getfield 13, 3) := by decide +kernel
theorem dX9_directs_158 : decode cX9_directs 158 = .ok (.iload_n 2, 1) := by decide +kernel
theorem dX9_directs_159 : decode cX9_directs 159 = .ok (.iaload, 1) := by decide +kernel
theorem dX9_directs_160 : decode cX9_directs 160 = .ok (.if_icmp .ge 49, 3) := by decide +kernel
theorem dX9_directs_163 : decode cX9_directs 163 = .ok (.aload_n 0, 1) := by decide +kernel
theorem dX9_directs_164 : decode cX9_directs 164 = .ok (.getfield 46, 3) := by decide +kernel
theorem dX9_directs_167 : decode cX9_directs 167 = .ok (.iload 6, 2) := by decide +kernel
theorem dX9_directs_169 : decode cX9_directs 169 = .ok (.iaload, 1) := by decide +kernel
theorem dX9_directs_170 : decode cX9_directs 170 = .ok (.aload_n 0, 1) := by decide +kernel
theorem dX9_directs_171 : decode cX9_directs 171 = .ok (.getfield 25, 3) := by decide +kernel
theorem dX9_directs_174 : decode cX9_directs 174 = .ok (.iload_n 1, 1) := by decide +kernel
theorem dX9_directs_175 : decode cX9_directs 175 = .ok (.iconst 0, 1) := by decide +kernel
theorem dX9_directs_176 : decode cX9_directs 176 = .ok (.iload 6, 2) := by decide +kernel
theorem dX9_directs_178 : decode cX9_directs 178 = .ok (.iload 4, 2) := by decide +kernel
theorem dX9_directs_180 : decode cX9_directs 180 = .ok (.invokestatic 150, 3) := by decide +kernel
theorem dX9_directs_183 : decode cX9_directs 183 = .ok (.iaload, 1) := by decide +kernel
theorem dX9_directs_184 : decode cX9_directs 184 = .ok (.isub, 1) := by decide +kernel
theorem dX9_directs_185 : decode cX9_directs 185 = .ok (.istore 7, 2) := by decide +kernel
theorem dX9_directs_187 : decode cX9_directs 187 = .ok (.iload 7, 2) := by decide +kernel
theorem dX9_directs_189 : decode cX9_directs 189 = .ok (.iload 5, 2) := by decide +kernel
theorem dX9_directs_191 : decode cX9_directs 191 = .ok (.if_icmp .le 8, 3) := by decide +kernel
theorem dX9_directs_194 : decode cX9_directs 194 = .ok (.iload 7, 2) := by decide +kernel
theorem dX9_directs_196 : decode cX9_directs 196 = .ok (.goto 5, 3) := by decide +kernel
theorem dX9_directs_199 : decode cX9_directs 199 = .ok (.iload 5, 2) := by decide +kernel
theorem dX9_directs_201 : decode cX9_directs 201 = .ok (.istore 5, 2) := by decide +kernel
theorem dX9_directs_203 : decode cX9_directs 203 = .ok (.iinc 6 1, 3) := by decide +kernel
theorem dX9_directs_206 : decode cX9_directs 206 = .ok (.goto (-54), 3) := by decide +kernel
theorem dX9_directs_209 : decode cX9_directs 209 = .ok (.iload 5, 2) := by decide +kernel
theorem dX9_directs_211 : decode cX9_directs 211 = .ok (.ifCond .le 13, 3) := by decide +kernel
theorem dX9_directs_214 : decode cX9_directs 214 = .ok (.aload_n 0, 1) := by decide +kernel
theorem dX9_directs_215 : decode cX9_directs 215 = .ok (.iload_n 1, 1) := by decide +kernel
theorem dX9_directs_216 : decode cX9_directs 216 = .ok (.iconst 1, 1) := by decide +kernel
theorem dX9_directs_217 : decode cX9_directs 217 = .ok (.iload 4, 2) := by decide +kernel
theorem dX9_directs_219 : decode cX9_directs 219 = .ok (.iload 5, 2) := by decide +kernel
theorem dX9_directs_221 : decode cX9_directs 221 = .ok (.invokevirtual 171, 3) := by decide +kernel
theorem dX9_directs_224 : decode cX9_directs 224 = .ok (.iinc 4 1, 3) := by decide +kernel
theorem dX9_directs_227 : decode cX9_directs 227 = .ok (.goto (-92), 3) := by decide +kernel
theorem dX9_directs_230 : decode cX9_directs 230 = .ok (.iconst 0, 1) := by decide +kernel
theorem dX9_directs_231 : decode cX9_directs 231 = .ok (.istore 4, 2) := by decide +kernel
theorem dX9_directs_233 : decode cX9_directs 233 = .ok (.iload 4, 2) := by decide +kernel
theorem dX9_directs_235 : decode cX9_directs 235 = .ok (.aload_n 0, 1) := by decide +kernel
theorem dX9_directs_236 : decode cX9_directs 236 = .ok (.getfield 13, 3) := by decide +kernel
theorem dX9_directs_239 : decode cX9_directs 239 = .ok (.iload_n 2, 1) := by decide +kernel
theorem dX9_directs_240 : decode cX9_directs 240 = .ok (.iaload, 1) := by decide +kernel
theorem dX9_directs_241 : decode cX9_directs 241 = .ok (.if_icmp .ge 34, 3) := by decide +kernel
theorem dX9_directs_244 : decode cX9_directs 244 = .ok (.aload_n 0, 1) := by decide +kernel
theorem dX9_directs_245 : decode cX9_directs 245 = .ok (.getfield 46, 3) := by decide +kernel
theorem dX9_directs_248 : decode cX9_directs 248 = .ok (.iload 4, 2) := by decide +kernel
theorem dX9_directs_250 : decode cX9_directs 250 = .ok (.iaload, 1) := by decide +kernel
theorem dX9_directs_251 : decode cX9_directs 251 = .ok (.ifCond .le 18, 3) := by decide +kernel
theorem dX9_directs_254 : decode cX9_directs 254 = .ok (.aload_n 0, 1) := by decide +kernel
theorem dX9_directs_255 : decode cX9_directs 255 = .ok (.iload_n 1, 1) := by decide +kernel
theorem dX9_directs_256 : decode cX9_directs 256 = .ok (.iconst 0, 1) := by decide +kernel
theorem dX9_directs_257 : decode cX9_directs 257 = .ok (.iload 4, 2) := by decide +kernel
theorem dX9_directs_259 : decode cX9_directs 259 = .ok (.aload_n 0, 1) := by decide +kernel
theorem dX9_directs_260 : decode cX9_directs 260 = .ok (.getfield 46, 3) := by decide +kernel
theorem dX9_directs_263 : decode cX9_directs 263 = .ok (.iload 4, 2) := by decide +kernel
theorem dX9_directs_265 : decode cX9_directs 265 = .ok (.iaload, 1) := by decide +kernel
theorem dX9_directs_266 : decode cX9_directs 266 = .ok (.invokevirtual 168, 3) := by decide +kernel
theorem dX9_directs_269 : decode cX9_directs 269 = .ok (.iinc 4 1, 3) := by decide +kernel
theorem dX9_directs_272 : decode cX9_directs 272 = .ok (.goto (-39), 3) := by decide +kernel
theorem dX9_directs_275 : decode cX9_directs 275 = .ok (.return_, 1) := by decide +kernel
theorem dX9_sweeps_0 : decode cX9_sweeps 0 = .ok (.iconst 0, 1) := by decide +kernel
theorem dX9_sweeps_1 : decode cX9_sweeps 1 = .ok (.istore_n 2, 1) := by decide +kernel
theorem dX9_sweeps_2 : decode cX9_sweeps 2 = .ok (.iload_n 2, 1) := by decide +kernel
theorem dX9_sweeps_3 : decode cX9_sweeps 3 = .ok (.aload_n 0, 1) := by decide +kernel
theorem dX9_sweeps_4 : decode cX9_sweeps 4 = .ok (.getfield 65, 3) := by decide +kernel
theorem dX9_sweeps_7 : decode cX9_sweeps 7 = .ok (.if_icmp .ge 19, 3) := by decide +kernel
theorem dX9_sweeps_10 : decode cX9_sweeps 10 = .ok (.iload_n 1, 1) := by decide +kernel
theorem dX9_sweeps_11 : decode cX9_sweeps 11 = .ok (.iconst 1, 1) := by decide +kernel
theorem dX9_sweeps_12 : decode cX9_sweeps 12 = .ok (.if_icmp .ne 14, 3) := by decide +kernel
theorem dX9_sweeps_15 : decode cX9_sweeps 15 = .ok (.aload_n 0, 1) := by decide +kernel
theorem dX9_sweeps_16 : decode cX9_sweeps 16 = .ok (.iload_n 2, 1) := by decide +kernel
theorem dX9_sweeps_17 : decode cX9_sweeps 17 = .ok (.invokevirtual 182, 3) := by decide +kernel
theorem dX9_sweeps_20 : decode cX9_sweeps 20 = .ok (.iinc 2 1, 3) := by decide +kernel
theorem dX9_sweeps_23 : decode cX9_sweeps 23 = .ok (.goto (-21), 3) := by decide +kernel
theorem dX9_sweeps_26 : decode cX9_sweeps 26 = .ok (.aload_n 0, 1) := by decide +kernel
theorem dX9_sweeps_27 : decode cX9_sweeps 27 = .ok (.getfield 58, 3) := by decide +kernel
theorem dX9_sweeps_30 : decode cX9_sweeps 30 = .ok (.iconst 1, 1) := by decide +kernel
theorem dX9_sweeps_31 : decode cX9_sweeps 31 = .ok (.isub, 1) := by decide +kernel
theorem dX9_sweeps_32 : decode cX9_sweeps 32 = .ok (.istore_n 2, 1) := by decide +kernel
theorem dX9_sweeps_33 : decode cX9_sweeps 33 = .ok (.iload_n 2, 1) := by decide +kernel
theorem dX9_sweeps_34 : decode cX9_sweeps 34 = .ok (.ifCond .lt 45, 3) := by decide +kernel
theorem dX9_sweeps_37 : decode cX9_sweeps 37 = .ok (.iload_n 1, 1) := by decide +kernel
theorem dX9_sweeps_38 : decode cX9_sweeps 38 = .ok (.iconst 2, 1) := by decide +kernel
theorem dX9_sweeps_39 : decode cX9_sweeps 39 = .ok (.if_icmp .ne 40, 3) := by decide +kernel
theorem dX9_sweeps_42 : decode cX9_sweeps 42 = .ok (.iconst 0, 1) := by decide +kernel
theorem dX9_sweeps_43 : decode cX9_sweeps 43 = .ok (.istore_n 3, 1) := by decide +kernel
theorem dX9_sweeps_44 : decode cX9_sweeps 44 = .ok (.iload_n 3, 1) := by decide +kernel
theorem dX9_sweeps_45 : decode cX9_sweeps 45 = .ok (.aload_n 0, 1) := by decide +kernel
theorem dX9_sweeps_46 : decode cX9_sweeps 46 = .ok (.getfield 65, 3) := by decide +kernel
theorem dX9_sweeps_49 : decode cX9_sweeps 49 = .ok (.if_icmp .ge 24, 3) := by decide +kernel
theorem dX9_sweeps_52 : decode cX9_sweeps 52 = .ok (.aload_n 0, 1) := by decide +kernel
theorem dX9_sweeps_53 : decode cX9_sweeps 53 = .ok (.getfield 19, 3) := by decide +kernel
theorem dX9_sweeps_56 : decode cX9_sweeps 56 = .ok (.iload_n 3, 1) := by decide +kernel
theorem dX9_sweeps_57 : decode cX9_sweeps 57 = .ok (.iaload, 1) := by decide +kernel
theorem dX9_sweeps_58 : decode cX9_sweeps 58 = .ok (.iload_n 2, 1) := by decide +kernel
theorem dX9_sweeps_59 : decode cX9_sweeps 59 = .ok (.if_icmp .ne 8, 3) := by decide +kernel
theorem dX9_sweeps_62 : decode cX9_sweeps 62 = .ok (.aload_n 0, 1) := by decide +kernel
theorem dX9_sweeps_63 : decode cX9_sweeps 63 = .ok (.iload_n 3, 1) := by decide +kernel
theorem dX9_sweeps_64 : decode cX9_sweeps 64 = .ok (.invokevirtual 185, 3) := by decide +kernel
theorem dX9_sweeps_67 : decode cX9_sweeps 67 = .ok (.iinc 3 1, 3) := by decide +kernel
theorem dX9_sweeps_70 : decode cX9_sweeps 70 = .ok (.goto (-26), 3) := by decide +kernel
theorem dX9_sweeps_73 : decode cX9_sweeps 73 = .ok (.iinc 2 (-1), 3) := by decide +kernel
theorem dX9_sweeps_76 : decode cX9_sweeps 76 = .ok (.goto (-43), 3) := by decide +kernel
theorem dX9_sweeps_79 : decode cX9_sweeps 79 = .ok (.aload_n 0, 1) := by decide +kernel
theorem dX9_sweeps_80 : decode cX9_sweeps 80 = .ok (.invokevirtual 188, 3) := by decide +kernel
theorem dX9_sweeps_83 : decode cX9_sweeps 83 = .ok (.return_, 1) := by decide +kernel
theorem dX9_sweep_0 : decode cX9_sweep 0 = .ok (.iload_n 1, 1) := by decide +kernel
theorem dX9_sweep_1 : decode cX9_sweep 1 = .ok (.iconst 0, 1) := by decide +kernel
theorem dX9_sweep_2 : decode cX9_sweep 2 = .ok (.iconst 2, 1) := by decide +kernel
theorem dX9_sweep_3 : decode cX9_sweep 3 = .ok (.invokestatic 85, 3) := by decide +kernel
theorem dX9_sweep_6 : decode cX9_sweep 6 = .ok (.ifCond .eq 13, 3) := by decide +kernel
theorem dX9_sweep_9 : decode cX9_sweep 9 = .ok (.iload_n 2, 1) := by decide +kernel
theorem dX9_sweep_10 : decode cX9_sweep 10 = .ok (.iconst 1, 1) := by decide +kernel
theorem dX9_sweep_11 : decode cX9_sweep 11 = .ok (.bipush 9, 2) := by decide +kernel
theorem dX9_sweep_13 : decode cX9_sweep 13 = .ok (.invokestatic 85, 3) := by decide +kernel
theorem dX9_sweep_16 : decode cX9_sweep 16 = .ok (.ifCond .ne 5, 3) := by decide +kernel
theorem dX9_sweep_19 : decode cX9_sweep 19 = .ok (.iconst (-1), 1) := by decide +kernel
theorem dX9_sweep_20 : decode cX9_sweep 20 = .ok (.ireturn, 1) := by decide +kernel
theorem dX9_sweep_21 : decode cX9_sweep 21 = .ok (.aload_n 0, 1) := by decide +kernel
theorem dX9_sweep_22 : decode cX9_sweep 22 = .ok (.invokevirtual 154, 3) := by decide +kernel
theorem dX9_sweep_25 : decode cX9_sweep 25 = .ok (.iconst 0, 1) := by decide +kernel
theorem dX9_sweep_26 : decode cX9_sweep 26 = .ok (.istore_n 3, 1) := by decide +kernel
theorem dX9_sweep_27 : decode cX9_sweep 27 = .ok (.iload_n 3, 1) := by decide +kernel
theorem dX9_sweep_28 : decode cX9_sweep 28 = .ok (.iload_n 2, 1) := by decide +kernel
theorem dX9_sweep_29 : decode cX9_sweep 29 = .ok (.if_icmp .ge 14, 3) := by decide +kernel
theorem dX9_sweep_32 : decode cX9_sweep 32 = .ok (.aload_n 0, 1) := by decide +kernel
theorem dX9_sweep_33 : decode cX9_sweep 33 = .ok (.iload_n 1, 1) := by decide +kernel
theorem dX9_sweep_34 : decode cX9_sweep 34 = .ok (.invokevirtual 191, 3) := by decide +kernel
theorem dX9_sweep_37 : decode cX9_sweep 37 = .ok (.iinc 3 1, 3) := by decide +kernel
theorem dX9_sweep_40 : decode cX9_sweep 40 = .ok (.goto (-13), 3) := by decide +kernel
theorem dX9_sweep_43 : decode cX9_sweep 43 = .ok (.aload_n 0, 1) := by decide +kernel
theorem dX9_sweep_44 : decode cX9_sweep 44 = .ok (.getfield 25, 3) := by decide +kernel
theorem dX9_sweep_47 : decode cX9_sweep 47 = .ok (.sipush 168, 3) := by decide +kernel
theorem dX9_sweep_50 : decode cX9_sweep 50 = .ok (.iaload, 1) := by decide +kernel
theorem dX9_sweep_51 : decode cX9_sweep 51 = .ok (.ireturn, 1) := by decide +kernel
theorem dX9_settles_0 : decode cX9_settles 0 = .ok (.iconst 0, 1) := by decide +kernel
theorem dX9_settles_1 : decode cX9_settles 1 = .ok (.istore_n 2, 1) := by decide +kernel
theorem dX9_settles_2 : decode cX9_settles 2 = .ok (.iconst 1, 1) := by decide +kernel
theorem dX9_settles_3 : decode cX9_settles 3 = .ok (.istore_n 3, 1) := by decide +kernel
theorem dX9_settles_4 : decode cX9_settles 4 = .ok (.iconst 0, 1) := by decide +kernel
theorem dX9_settles_5 : decode cX9_settles 5 = .ok (.istore 4, 2) := by decide +kernel
theorem dX9_settles_7 : decode cX9_settles 7 = .ok (.iload 4, 2) := by decide +kernel
theorem dX9_settles_9 : decode cX9_settles 9 = .ok (.bipush 20, 2) := by decide +kernel
theorem dX9_settles_11 : decode cX9_settles 11 = .ok (.if_icmp .ge 107, 3) := by decide +kernel
theorem dX9_settles_14 : decode cX9_settles 14 = .ok (.iload_n 3, 1) := by decide +kernel
theorem dX9_settles_15 : decode cX9_settles 15 = .ok (.ifCond .eq 103, 3) := by decide +kernel
theorem dX9_settles_18 : decode cX9_settles 18 = .ok (.iconst 0, 1) := by decide +kernel
theorem dX9_settles_19 : decode cX9_settles 19 = .ok (.istore 5, 2) := by decide +kernel
theorem dX9_settles_21 : decode cX9_settles 21 = .ok (.iload 5, 2) := by decide +kernel
theorem dX9_settles_23 : decode cX9_settles 23 = .ok (.sipush 169, 3) := by decide +kernel
theorem dX9_settles_26 : decode cX9_settles 26 = .ok (.if_icmp .ge 23, 3) := by decide +kernel
theorem dX9_settles_29 : decode cX9_settles 29 = .ok (.aload_n 0, 1) := by decide +kernel
theorem dX9_settles_30 : decode cX9_settles 30 = .ok (.getfield 49, 3) := by decide +kernel
theorem dX9_settles_33 : decode cX9_settles 33 = .ok (.iload 5, 2) := by decide +kernel
theorem dX9_settles_35 : decode cX9_settles 35 = .ok (.aload_n 0, 1) := by decide +kernel
theorem dX9_settles_36 : decode cX9_settles 36 = .ok (.getfield 25, 3) := by decide +kernel
theorem dX9_settles_39 : decode cX9_settles 39 = .ok (.iload 5, 2) := by decide +kernel
theorem dX9_settles_41 : decode cX9_settles 41 = .ok (.iaload, 1) := by decide +kernel
theorem dX9_settles_42 : decode cX9_settles 42 = .ok (.iastore, 1) := by decide +kernel
theorem dX9_settles_43 : decode cX9_settles 43 = .ok (.iinc 5 1, 3) := by decide +kernel
theorem dX9_settles_46 : decode cX9_settles 46 = .ok (.goto (-25), 3) := by decide +kernel
theorem dX9_settles_49 : decode cX9_settles 49 = .ok (.aload_n 0, 1) := by decide +kernel
theorem dX9_settles_50 : decode cX9_settles 50 = .ok (.iload_n 1, 1) := by decide +kernel
theorem dX9_settles_51 : decode cX9_settles 51 = .ok (.invokevirtual 191, 3) := by decide +kernel
theorem dX9_settles_54 : decode cX9_settles 54 = .ok (.iconst 0, 1) := by decide +kernel
theorem dX9_settles_55 : decode cX9_settles 55 = .ok (.istore_n 3, 1) := by decide +kernel
theorem dX9_settles_56 : decode cX9_settles 56 = .ok (.iconst 0, 1) := by decide +kernel
theorem dX9_settles_57 : decode cX9_settles 57 = .ok (.istore 5, 2) := by decide +kernel
theorem dX9_settles_59 : decode cX9_settles 59 = .ok (.iload 5, 2) := by decide +kernel
theorem dX9_settles_61 : decode cX9_settles 61 = .ok (.sipush 169, 3) := by decide +kernel
theorem dX9_settles_64 : decode cX9_settles 64 = .ok (.if_icmp .ge 36, 3) := by decide +kernel
theorem dX9_settles_67 : decode cX9_settles 67 = .ok (.iload_n 3, 1) := by decide +kernel
theorem dX9_settles_68 : decode cX9_settles 68 = .ok (.ifCond .ne 20, 3) := by decide +kernel
theorem dX9_settles_71 : decode cX9_settles 71 = .ok (.aload_n 0, 1) := by decide +kernel
theorem dX9_settles_72 : decode cX9_settles 72 = .ok (.getfield 49, 3) := by decide +kernel
theorem dX9_settles_75 : decode cX9_settles 75 = .ok (.iload 5, 2) := by decide +kernel
theorem dX9_settles_77 : decode cX9_settles 77 = .ok (.iaload, 1) := by decide +kernel
theorem dX9_settles_78 : decode cX9_settles 78 = .ok (.aload_n 0, 1) := by decide +kernel
theorem dX9_settles_79 : decode cX9_settles 79 = .ok (.getfield 25, 3) := by decide +kernel
theorem dX9_settles_82 : decode cX9_settles 82 = .ok (.iload 5, 2) := by decide +kernel
theorem dX9_settles_84 : decode cX9_settles 84 = .ok (.iaload, 1) := by decide +kernel
theorem dX9_settles_85 : decode cX9_settles 85 = .ok (.if_icmp .eq 7, 3) := by decide +kernel
theorem dX9_settles_88 : decode cX9_settles 88 = .ok (.iconst 1, 1) := by decide +kernel
theorem dX9_settles_89 : decode cX9_settles 89 = .ok (.goto 4, 3) := by decide +kernel
theorem dX9_settles_92 : decode cX9_settles 92 = .ok (.iconst 0, 1) := by decide +kernel
theorem dX9_settles_93 : decode cX9_settles 93 = .ok (.istore_n 3, 1) := by decide +kernel
theorem dX9_settles_94 : decode cX9_settles 94 = .ok (.iinc 5 1, 3) := by decide +kernel
theorem dX9_settles_97 : decode cX9_settles 97 = .ok (.goto (-38), 3) := by decide +kernel
theorem dX9_settles_100 : decode cX9_settles 100 = .ok (.iload_n 2, 1) := by decide +kernel
theorem dX9_settles_101 : decode cX9_settles 101 = .ok (.iload_n 3, 1) := by decide +kernel
theorem dX9_settles_102 : decode cX9_settles 102 = .ok (.ifCond .eq 7, 3) := by decide +kernel
theorem dX9_settles_105 : decode cX9_settles 105 = .ok (.iconst 1, 1) := by decide +kernel
theorem dX9_settles_106 : decode cX9_settles 106 = .ok (.goto 4, 3) := by decide +kernel
theorem dX9_settles_109 : decode cX9_settles 109 = .ok (.iconst 0, 1) := by decide +kernel
theorem dX9_settles_110 : decode cX9_settles 110 = .ok (.iadd, 1) := by decide +kernel
theorem dX9_settles_111 : decode cX9_settles 111 = .ok (.istore_n 2, 1) := by decide +kernel
theorem dX9_settles_112 : decode cX9_settles 112 = .ok (.iinc 4 1, 3) := by decide +kernel
theorem dX9_settles_115 : decode cX9_settles 115 = .ok (.goto (-108), 3) := by decide +kernel
theorem dX9_settles_118 : decode cX9_settles 118 = .ok (.iload_n 2, 1) := by decide +kernel
theorem dX9_settles_119 : decode cX9_settles 119 = .ok (.ireturn, 1) := by decide +kernel
theorem dX9_settle_0 : decode cX9_settle 0 = .ok (.iload_n 1, 1) := by decide +kernel
theorem dX9_settle_1 : decode cX9_settle 1 = .ok (.iconst 0, 1) := by decide +kernel
theorem dX9_settle_2 : decode cX9_settle 2 = .ok (.iconst 2, 1) := by decide +kernel
theorem dX9_settle_3 : decode cX9_settle 3 = .ok (.invokestatic 85, 3) := by decide +kernel
theorem dX9_settle_6 : decode cX9_settle 6 = .ok (.ifCond .ne 5, 3) := by decide +kernel
theorem dX9_settle_9 : decode cX9_settle 9 = .ok (.iconst (-1), 1) := by decide +kernel
theorem dX9_settle_10 : decode cX9_settle 10 = .ok (.ireturn, 1) := by decide +kernel
theorem dX9_settle_11 : decode cX9_settle 11 = .ok (.aload_n 0, 1) := by decide +kernel
theorem dX9_settle_12 : decode cX9_settle 12 = .ok (.invokevirtual 154, 3) := by decide +kernel
theorem dX9_settle_15 : decode cX9_settle 15 = .ok (.aload_n 0, 1) := by decide +kernel
theorem dX9_settle_16 : decode cX9_settle 16 = .ok (.iload_n 1, 1) := by decide +kernel
theorem dX9_settle_17 : decode cX9_settle 17 = .ok (.invokevirtual 194, 3) := by decide +kernel
theorem dX9_settle_20 : decode cX9_settle 20 = .ok (.ireturn, 1) := by decide +kernel
theorem dX9_bound_0 : decode cX9_bound 0 = .ok (.iload_n 1, 1) := by decide +kernel
theorem dX9_bound_1 : decode cX9_bound 1 = .ok (.iconst 0, 1) := by decide +kernel
theorem dX9_bound_2 : decode cX9_bound 2 = .ok (.iconst 2, 1) := by decide +kernel
theorem dX9_bound_3 : decode cX9_bound 3 = .ok (.invokestatic 85, 3) := by decide +kernel
theorem dX9_bound_6 : decode cX9_bound 6 = .ok (.ifCond .ne 5, 3) := by decide +kernel
theorem dX9_bound_9 : decode cX9_bound 9 = .ok (.iconst (-1), 1) := by decide +kernel
theorem dX9_bound_10 : decode cX9_bound 10 = .ok (.ireturn, 1) := by decide +kernel
theorem dX9_bound_11 : decode cX9_bound 11 = .ok (.iconst 0, 1) := by decide +kernel
theorem dX9_bound_12 : decode cX9_bound 12 = .ok (.istore_n 2, 1) := by decide +kernel
theorem dX9_bound_13 : decode cX9_bound 13 = .ok (.iload_n 2, 1) := by decide +kernel
theorem dX9_bound_14 : decode cX9_bound 14 = .ok (.sipush 169, 3) := by decide +kernel
theorem dX9_bound_17 : decode cX9_bound 17 = .ok (.if_icmp .ge 21, 3) := by decide +kernel
theorem dX9_bound_20 : decode cX9_bound 20 = .ok (.aload_n 0, 1) := by decide +kernel
theorem dX9_bound_21 : decode cX9_bound 21 = .ok (.getfield 31, 3) := by decide +kernel
theorem dX9_bound_24 : decode cX9_bound 24 = .ok (.iload_n 2, 1) := by decide +kernel
theorem dX9_bound_25 : decode cX9_bound 25 = .ok (.aload_n 0, 1) := by decide +kernel
theorem dX9_bound_26 : decode cX9_bound 26 = .ok (.getfield 25, 3) := by decide +kernel
theorem dX9_bound_29 : decode cX9_bound 29 = .ok (.iload_n 2, 1) := by decide +kernel
theorem dX9_bound_30 : decode cX9_bound 30 = .ok (.iaload, 1) := by decide +kernel
theorem dX9_bound_31 : decode cX9_bound 31 = .ok (.iastore, 1) := by decide +kernel
theorem dX9_bound_32 : decode cX9_bound 32 = .ok (.iinc 2 1, 3) := by decide +kernel
theorem dX9_bound_35 : decode cX9_bound 35 = .ok (.goto (-22), 3) := by decide +kernel
theorem dX9_bound_38 : decode cX9_bound 38 = .ok (.aload_n 0, 1) := by decide +kernel
theorem dX9_bound_39 : decode cX9_bound 39 = .ok (.iload_n 1, 1) := by decide +kernel
theorem dX9_bound_40 : decode cX9_bound 40 = .ok (.invokevirtual 194, 3) := by decide +kernel
theorem dX9_bound_43 : decode cX9_bound 43 = .ok (.pop, 1) := by decide +kernel
theorem dX9_bound_44 : decode cX9_bound 44 = .ok (.aload_n 0, 1) := by decide +kernel
theorem dX9_bound_45 : decode cX9_bound 45 = .ok (.getfield 25, 3) := by decide +kernel
theorem dX9_bound_48 : decode cX9_bound 48 = .ok (.sipush 168, 3) := by decide +kernel
theorem dX9_bound_51 : decode cX9_bound 51 = .ok (.iaload, 1) := by decide +kernel
theorem dX9_bound_52 : decode cX9_bound 52 = .ok (.istore_n 2, 1) := by decide +kernel
theorem dX9_bound_53 : decode cX9_bound 53 = .ok (.iconst 0, 1) := by decide +kernel
theorem dX9_bound_54 : decode cX9_bound 54 = .ok (.istore_n 3, 1) := by decide +kernel
theorem dX9_bound_55 : decode cX9_bound 55 = .ok (.iload_n 3, 1) := by decide +kernel
theorem dX9_bound_56 : decode cX9_bound 56 = .ok (.sipush 169, 3) := by decide +kernel
theorem dX9_bound_59 : decode cX9_bound 59 = .ok (.if_icmp .ge 21, 3) := by decide +kernel
theorem dX9_bound_62 : decode cX9_bound 62 = .ok (.aload_n 0, 1) := by decide +kernel
theorem dX9_bound_63 : decode cX9_bound 63 = .ok (.getfield 25, 3) := by decide +kernel
theorem dX9_bound_66 : decode cX9_bound 66 = .ok (.iload_n 3, 1) := by decide +kernel
theorem dX9_bound_67 : decode cX9_bound 67 = .ok (.aload_n 0, 1) := by decide +kernel
theorem dX9_bound_68 : decode cX9_bound 68 = .ok (.getfield 31, 3) := by decide +kernel
theorem dX9_bound_71 : decode cX9_bound 71 = .ok (.iload_n 3, 1) := by decide +kernel
theorem dX9_bound_72 : decode cX9_bound 72 = .ok (.iaload, 1) := by decide +kernel
theorem dX9_bound_73 : decode cX9_bound 73 = .ok (.iastore, 1) := by decide +kernel
theorem dX9_bound_74 : decode cX9_bound 74 = .ok (.iinc 3 1, 3) := by decide +kernel
theorem dX9_bound_77 : decode cX9_bound 77 = .ok (.goto (-22), 3) := by decide +kernel
theorem dX9_bound_80 : decode cX9_bound 80 = .ok (.iload_n 2, 1) := by decide +kernel
theorem dX9_bound_81 : decode cX9_bound 81 = .ok (.ireturn, 1) := by decide +kernel
theorem dX9_totalOf_0 : decode cX9_totalOf 0 = .ok (.aload_n 0, 1) := by decide +kernel
theorem dX9_totalOf_1 : decode cX9_totalOf 1 = .ok (.getfield 25, 3) := by decide +kernel
theorem dX9_totalOf_4 : decode cX9_totalOf 4 = .ok (.sipush 168, 3) := by decide +kernel
theorem dX9_totalOf_7 : decode cX9_totalOf 7 = .ok (.iaload, 1) := by decide +kernel
theorem dX9_totalOf_8 : decode cX9_totalOf 8 = .ok (.istore_n 2, 1) := by decide +kernel
theorem dX9_totalOf_9 : decode cX9_totalOf 9 = .ok (.iconst 0, 1) := by decide +kernel
theorem dX9_totalOf_10 : decode cX9_totalOf 10 = .ok (.istore_n 3, 1) := by decide +kernel
theorem dX9_totalOf_11 : decode cX9_totalOf 11 = .ok (.iload_n 3, 1) := by decide +kernel
theorem dX9_totalOf_12 : decode cX9_totalOf 12 = .ok (.aload_n 0, 1) := by decide +kernel
theorem dX9_totalOf_13 : decode cX9_totalOf 13 = .ok (.getfield 58, 3) := by decide +kernel
theorem dX9_totalOf_16 : decode cX9_totalOf 16 = .ok (.if_icmp .ge 30, 3) := by decide +kernel
theorem dX9_totalOf_19 : decode cX9_totalOf 19 = .ok (.aload_n 0, 1) := by decide +kernel
theorem dX9_totalOf_20 : decode cX9_totalOf 20 = .ok (.iload_n 2, 1) := by decide +kernel
theorem dX9_totalOf_21 : decode cX9_totalOf 21 = .ok (.aload_n 0, 1) := by decide +kernel
theorem dX9_totalOf_22 : decode cX9_totalOf 22 = .ok (.getfield 25, 3) := by decide +kernel
theorem dX9_totalOf_25 : decode cX9_totalOf 25 = .ok (.iconst 4, 1) := by decide +kernel
theorem dX9_totalOf_26 : decode cX9_totalOf 26 = .ok (.iload_n 3, 1) := by decide +kernel
theorem dX9_totalOf_27 : decode cX9_totalOf 27 = .ok (.imul, 1) := by decide +kernel
theorem dX9_totalOf_28 : decode cX9_totalOf 28 = .ok (.aload_n 0, 1) := by decide +kernel
theorem dX9_totalOf_29 : decode cX9_totalOf 29 = .ok (.getfield 52, 3) := by decide +kernel
theorem dX9_totalOf_32 : decode cX9_totalOf 32 = .ok (.iload_n 3, 1) := by decide +kernel
theorem dX9_totalOf_33 : decode cX9_totalOf 33 = .ok (.iaload, 1) := by decide +kernel
theorem dX9_totalOf_34 : decode cX9_totalOf 34 = .ok (.iadd, 1) := by decide +kernel
theorem dX9_totalOf_35 : decode cX9_totalOf 35 = .ok (.iaload, 1) := by decide +kernel
theorem dX9_totalOf_36 : decode cX9_totalOf 36 = .ok (.invokevirtual 125, 3) := by decide +kernel
theorem dX9_totalOf_39 : decode cX9_totalOf 39 = .ok (.istore_n 2, 1) := by decide +kernel
theorem dX9_totalOf_40 : decode cX9_totalOf 40 = .ok (.iinc 3 1, 3) := by decide +kernel
theorem dX9_totalOf_43 : decode cX9_totalOf 43 = .ok (.goto (-32), 3) := by decide +kernel
theorem dX9_totalOf_46 : decode cX9_totalOf 46 = .ok (.iconst 0, 1) := by decide +kernel
theorem dX9_totalOf_47 : decode cX9_totalOf 47 = .ok (.istore_n 3, 1) := by decide +kernel
theorem dX9_totalOf_48 : decode cX9_totalOf 48 = .ok (.iload_n 3, 1) := by decide +kernel
theorem dX9_totalOf_49 : decode cX9_totalOf 49 = .ok (.aload_n 0, 1) := by decide +kernel
theorem dX9_totalOf_50 : decode cX9_totalOf 50 = .ok (.getfield 65, 3) := by decide +kernel
theorem dX9_totalOf_53 : decode cX9_totalOf 53 = .ok (.if_icmp .ge 56, 3) := by decide +kernel
theorem dX9_totalOf_56 : decode cX9_totalOf 56 = .ok (.aload_n 0, 1) := by decide +kernel
theorem dX9_totalOf_57 : decode cX9_totalOf 57 = .ok (.iload_n 2, 1) := by decide +kernel
theorem dX9_totalOf_58 : decode cX9_totalOf 58 = .ok (.iload_n 3, 1) := by decide +kernel
theorem dX9_totalOf_59 : decode cX9_totalOf 59 = .ok (.iload_n 1, 1) := by decide +kernel
theorem dX9_totalOf_60 : decode cX9_totalOf 60 = .ok (.if_icmp .ne 7, 3) := by decide +kernel
theorem dX9_totalOf_63 : decode cX9_totalOf 63 = .ok (.iconst 0, 1) := by decide +kernel
theorem dX9_totalOf_64 : decode cX9_totalOf 64 = .ok (.goto 35, 3) := by decide +kernel
theorem dX9_totalOf_67 : decode cX9_totalOf 67 = .ok (.aload_n 0, 1) := by decide +kernel
theorem dX9_totalOf_68 : decode cX9_totalOf 68 = .ok (.getfield 25, 3) := by decide +kernel
theorem dX9_totalOf_71 : decode cX9_totalOf 71 = .ok (.iload_n 3, 1) := by decide +kernel
theorem dX9_totalOf_72 : decode cX9_totalOf 72 = .ok (.iconst 0, 1) := by decide +kernel
theorem dX9_totalOf_73 : decode cX9_totalOf 73 = .ok (.aload_n 0, 1) := by decide +kernel
theorem dX9_totalOf_74 : decode cX9_totalOf 74 = .ok (.getfield 52, 3) := by decide +kernel
theorem dX9_totalOf_77 : decode cX9_totalOf 77 = .ok (.aload_n 0, 1) := by decide +kernel
theorem dX9_totalOf_78 : decode cX9_totalOf 78 = .ok (.getfield 16, 3) := by decide +kernel
theorem dX9_totalOf_81 : decode cX9_totalOf 81 = .ok (.iload_n 3, 1) := by decide +kernel
theorem dX9_totalOf_82 : decode cX9_totalOf 82 = .ok (.iaload, 1) := by decide +kernel
theorem dX9_totalOf_83 : decode cX9_totalOf 83 = .ok (.iaload, 1) := by decide +kernel
theorem dX9_totalOf_84 : decode cX9_totalOf 84 = .ok (.aload_n 0, 1) := by decide +kernel
theorem dX9_totalOf_85 : decode cX9_totalOf 85 = .ok (.getfield 52, 3) := by decide +kernel
theorem dX9_totalOf_88 : decode cX9_totalOf 88 = .ok (.aload_n 0, 1) := by decide +kernel
theorem dX9_totalOf_89 : decode cX9_totalOf 89 = .ok (.getfield 19, 3) := by decide +kernel
theorem dX9_totalOf_92 : decode cX9_totalOf 92 = .ok (.iload_n 3, 1) := by decide +kernel
theorem dX9_totalOf_93 : decode cX9_totalOf 93 = .ok (.iaload, 1) := by decide +kernel
theorem dX9_totalOf_94 : decode cX9_totalOf 94 = .ok (.iaload, 1) := by decide +kernel
theorem dX9_totalOf_95 : decode cX9_totalOf 95 = .ok (.invokestatic 150, 3) := by decide +kernel
theorem dX9_totalOf_98 : decode cX9_totalOf 98 = .ok (.iaload, 1) := by decide +kernel
theorem dX9_totalOf_99 : decode cX9_totalOf 99 = .ok (.invokevirtual 125, 3) := by decide +kernel
theorem dX9_totalOf_102 : decode cX9_totalOf 102 = .ok (.istore_n 2, 1) := by decide +kernel
theorem dX9_totalOf_103 : decode cX9_totalOf 103 = .ok (.iinc 3 1, 3) := by decide +kernel
theorem dX9_totalOf_106 : decode cX9_totalOf 106 = .ok (.goto (-58), 3) := by decide +kernel
theorem dX9_totalOf_109 : decode cX9_totalOf 109 = .ok (.iload_n 2, 1) := by decide +kernel
theorem dX9_totalOf_110 : decode cX9_totalOf 110 = .ok (.ireturn, 1) := by decide +kernel
theorem dX9_total_0 : decode cX9_total 0 = .ok (.iconst 0, 1) := by decide +kernel
theorem dX9_total_1 : decode cX9_total 1 = .ok (.istore_n 1, 1) := by decide +kernel
theorem dX9_total_2 : decode cX9_total 2 = .ok (.iload_n 1, 1) := by decide +kernel
theorem dX9_total_3 : decode cX9_total 3 = .ok (.aload_n 0, 1) := by decide +kernel
theorem dX9_total_4 : decode cX9_total 4 = .ok (.getfield 58, 3) := by decide +kernel
theorem dX9_total_7 : decode cX9_total 7 = .ok (.if_icmp .ge 21, 3) := by decide +kernel
theorem dX9_total_10 : decode cX9_total 10 = .ok (.aload_n 0, 1) := by decide +kernel
theorem dX9_total_11 : decode cX9_total 11 = .ok (.getfield 52, 3) := by decide +kernel
theorem dX9_total_14 : decode cX9_total 14 = .ok (.iload_n 1, 1) := by decide +kernel
theorem dX9_total_15 : decode cX9_total 15 = .ok (.aload_n 0, 1) := by decide +kernel
theorem dX9_total_16 : decode cX9_total 16 = .ok (.getfield 22, 3) := by decide +kernel
theorem dX9_total_19 : decode cX9_total 19 = .ok (.iload_n 1, 1) := by decide +kernel
theorem dX9_total_20 : decode cX9_total 20 = .ok (.iaload, 1) := by decide +kernel
theorem dX9_total_21 : decode cX9_total 21 = .ok (.iastore, 1) := by decide +kernel
theorem dX9_total_22 : decode cX9_total 22 = .ok (.iinc 1 1, 3) := by decide +kernel
theorem dX9_total_25 : decode cX9_total 25 = .ok (.goto (-23), 3) := by decide +kernel
theorem dX9_total_28 : decode cX9_total 28 = .ok (.aload_n 0, 1) := by decide +kernel
theorem dX9_total_29 : decode cX9_total 29 = .ok (.bipush (-4), 2) := by decide +kernel
theorem dX9_total_31 : decode cX9_total 31 = .ok (.invokevirtual 197, 3) := by decide +kernel
theorem dX9_total_34 : decode cX9_total 34 = .ok (.ireturn, 1) := by decide +kernel
theorem dX9_choices_0 : decode cX9_choices 0 = .ok (.iconst 1, 1) := by decide +kernel
theorem dX9_choices_1 : decode cX9_choices 1 = .ok (.istore_n 1, 1) := by decide +kernel
theorem dX9_choices_2 : decode cX9_choices 2 = .ok (.iconst 0, 1) := by decide +kernel
theorem dX9_choices_3 : decode cX9_choices 3 = .ok (.istore_n 2, 1) := by decide +kernel
theorem dX9_choices_4 : decode cX9_choices 4 = .ok (.iload_n 2, 1) := by decide +kernel
theorem dX9_choices_5 : decode cX9_choices 5 = .ok (.aload_n 0, 1) := by decide +kernel
theorem dX9_choices_6 : decode cX9_choices 6 = .ok (.getfield 58, 3) := by decide +kernel
theorem dX9_choices_9 : decode cX9_choices 9 = .ok (.if_icmp .ge 18, 3) := by decide +kernel
theorem dX9_choices_12 : decode cX9_choices 12 = .ok (.iload_n 1, 1) := by decide +kernel
theorem dX9_choices_13 : decode cX9_choices 13 = .ok (.aload_n 0, 1) := by decide +kernel
theorem dX9_choices_14 : decode cX9_choices 14 = .ok (.getfield 13, 3) := by decide +kernel
theorem dX9_choices_17 : decode cX9_choices 17 = .ok (.iload_n 2, 1) := by decide +kernel
theorem dX9_choices_18 : decode cX9_choices 18 = .ok (.iaload, 1) := by decide +kernel
theorem dX9_choices_19 : decode cX9_choices 19 = .ok (.imul, 1) := by decide +kernel
theorem dX9_choices_20 : decode cX9_choices 20 = .ok (.istore_n 1, 1) := by decide +kernel
theorem dX9_choices_21 : decode cX9_choices 21 = .ok (.iinc 2 1, 3) := by decide +kernel
theorem dX9_choices_24 : decode cX9_choices 24 = .ok (.goto (-20), 3) := by decide +kernel
theorem dX9_choices_27 : decode cX9_choices 27 = .ok (.iload_n 1, 1) := by decide +kernel
theorem dX9_choices_28 : decode cX9_choices 28 = .ok (.ireturn, 1) := by decide +kernel
theorem dX9_takes_0 : decode cX9_takes 0 = .ok (.iload_n 1, 1) := by decide +kernel
theorem dX9_takes_1 : decode cX9_takes 1 = .ok (.istore_n 2, 1) := by decide +kernel
theorem dX9_takes_2 : decode cX9_takes 2 = .ok (.aload_n 0, 1) := by decide +kernel
theorem dX9_takes_3 : decode cX9_takes 3 = .ok (.getfield 58, 3) := by decide +kernel
theorem dX9_takes_6 : decode cX9_takes 6 = .ok (.iconst 1, 1) := by decide +kernel
theorem dX9_takes_7 : decode cX9_takes 7 = .ok (.isub, 1) := by decide +kernel
theorem dX9_takes_8 : decode cX9_takes 8 = .ok (.istore_n 3, 1) := by decide +kernel
theorem dX9_takes_9 : decode cX9_takes 9 = .ok (.iload_n 3, 1) := by decide +kernel
theorem dX9_takes_10 : decode cX9_takes 10 = .ok (.ifCond .lt 32, 3) := by decide +kernel
theorem dX9_takes_13 : decode cX9_takes 13 = .ok (.aload_n 0, 1) := by decide +kernel
theorem dX9_takes_14 : decode cX9_takes 14 = .ok (.getfield 52, 3) := by decide +kernel
theorem dX9_takes_17 : decode cX9_takes 17 = .ok (.iload_n 3, 1) := by decide +kernel
theorem dX9_takes_18 : decode cX9_takes 18 = .ok (.iload_n 2, 1) := by decide +kernel
theorem dX9_takes_19 : decode cX9_takes 19 = .ok (.aload_n 0, 1) := by decide +kernel
theorem dX9_takes_20 : decode cX9_takes 20 = .ok (.getfield 13, 3) := by decide +kernel
theorem dX9_takes_23 : decode cX9_takes 23 = .ok (.iload_n 3, 1) := by decide +kernel
theorem dX9_takes_24 : decode cX9_takes 24 = .ok (.iaload, 1) := by decide +kernel
theorem dX9_takes_25 : decode cX9_takes 25 = .ok (.irem, 1) := by decide +kernel
theorem dX9_takes_26 : decode cX9_takes 26 = .ok (.iastore, 1) := by decide +kernel
theorem dX9_takes_27 : decode cX9_takes 27 = .ok (.iload_n 2, 1) := by decide +kernel
theorem dX9_takes_28 : decode cX9_takes 28 = .ok (.aload_n 0, 1) := by decide +kernel
theorem dX9_takes_29 : decode cX9_takes 29 = .ok (.getfield 13, 3) := by decide +kernel
theorem dX9_takes_32 : decode cX9_takes 32 = .ok (.iload_n 3, 1) := by decide +kernel
theorem dX9_takes_33 : decode cX9_takes 33 = .ok (.iaload, 1) := by decide +kernel
theorem dX9_takes_34 : decode cX9_takes 34 = .ok (.idiv, 1) := by decide +kernel
theorem dX9_takes_35 : decode cX9_takes 35 = .ok (.istore_n 2, 1) := by decide +kernel
theorem dX9_takes_36 : decode cX9_takes 36 = .ok (.iinc 3 (-1), 3) := by decide +kernel
theorem dX9_takes_39 : decode cX9_takes 39 = .ok (.goto (-30), 3) := by decide +kernel
theorem dX9_takes_42 : decode cX9_takes 42 = .ok (.return_, 1) := by decide +kernel
theorem dX9_meets_0 : decode cX9_meets 0 = .ok (.iconst 0, 1) := by decide +kernel
theorem dX9_meets_1 : decode cX9_meets 1 = .ok (.istore_n 2, 1) := by decide +kernel
theorem dX9_meets_2 : decode cX9_meets 2 = .ok (.iconst 0, 1) := by decide +kernel
theorem dX9_meets_3 : decode cX9_meets 3 = .ok (.istore_n 3, 1) := by decide +kernel
theorem dX9_meets_4 : decode cX9_meets 4 = .ok (.iload_n 3, 1) := by decide +kernel
theorem dX9_meets_5 : decode cX9_meets 5 = .ok (.aload_n 0, 1) := by decide +kernel
theorem dX9_meets_6 : decode cX9_meets 6 = .ok (.getfield 58, 3) := by decide +kernel
theorem dX9_meets_9 : decode cX9_meets 9 = .ok (.if_icmp .ge 24, 3) := by decide +kernel
theorem dX9_meets_12 : decode cX9_meets 12 = .ok (.iload_n 2, 1) := by decide +kernel
theorem dX9_meets_13 : decode cX9_meets 13 = .ok (.iconst 1, 1) := by decide +kernel
theorem dX9_meets_14 : decode cX9_meets 14 = .ok (.iconst 4, 1) := by decide +kernel
theorem dX9_meets_15 : decode cX9_meets 15 = .ok (.iload_n 3, 1) := by decide +kernel
theorem dX9_meets_16 : decode cX9_meets 16 = .ok (.imul, 1) := by decide +kernel
theorem dX9_meets_17 : decode cX9_meets 17 = .ok (.aload_n 0, 1) := by decide +kernel
theorem dX9_meets_18 : decode cX9_meets 18 = .ok (.getfield 52, 3) := by decide +kernel
theorem dX9_meets_21 : decode cX9_meets 21 = .ok (.iload_n 3, 1) := by decide +kernel
theorem dX9_meets_22 : decode cX9_meets 22 = .ok (.iaload, 1) := by decide +kernel
theorem dX9_meets_23 : decode cX9_meets 23 = .ok (.iadd, 1) := by decide +kernel
theorem dX9_meets_24 : decode cX9_meets 24 = .ok (.ishl, 1) := by decide +kernel
theorem dX9_meets_25 : decode cX9_meets 25 = .ok (.ior, 1) := by decide +kernel
theorem dX9_meets_26 : decode cX9_meets 26 = .ok (.istore_n 2, 1) := by decide +kernel
theorem dX9_meets_27 : decode cX9_meets 27 = .ok (.iinc 3 1, 3) := by decide +kernel
theorem dX9_meets_30 : decode cX9_meets 30 = .ok (.goto (-26), 3) := by decide +kernel
theorem dX9_meets_33 : decode cX9_meets 33 = .ok (.iload_n 1, 1) := by decide +kernel
theorem dX9_meets_34 : decode cX9_meets 34 = .ok (.aload_n 0, 1) := by decide +kernel
theorem dX9_meets_35 : decode cX9_meets 35 = .ok (.getfield 200, 3) := by decide +kernel
theorem dX9_meets_38 : decode cX9_meets 38 = .ok (.if_icmp .ge 54, 3) := by decide +kernel
theorem dX9_meets_41 : decode cX9_meets 41 = .ok (.aload_n 0, 1) := by decide +kernel
theorem dX9_meets_42 : decode cX9_meets 42 = .ok (.aload_n 0, 1) := by decide +kernel
theorem dX9_meets_43 : decode cX9_meets 43 = .ok (.getfield 200, 3) := by decide +kernel
theorem dX9_meets_46 : decode cX9_meets 46 = .ok (.putfield 203, 3) := by decide +kernel
theorem dX9_meets_49 : decode cX9_meets 49 = .ok (.aload_n 0, 1) := by decide +kernel
theorem dX9_meets_50 : decode cX9_meets 50 = .ok (.iload_n 1, 1) := by decide +kernel
theorem dX9_meets_51 : decode cX9_meets 51 = .ok (.putfield 200, 3) := by decide +kernel
theorem dX9_meets_54 : decode cX9_meets 54 = .ok (.aload_n 0, 1) := by decide +kernel
theorem dX9_meets_55 : decode cX9_meets 55 = .ok (.iconst 0, 1) := by decide +kernel
theorem dX9_meets_56 : decode cX9_meets 56 = .ok (.putfield 206, 3) := by decide +kernel
theorem dX9_meets_59 : decode cX9_meets 59 = .ok (.aload_n 0, 1) := by decide +kernel
theorem dX9_meets_60 : decode cX9_meets 60 = .ok (.iload_n 2, 1) := by decide +kernel
theorem dX9_meets_61 : decode cX9_meets 61 = .ok (.putfield 209, 3) := by decide +kernel
theorem dX9_meets_64 : decode cX9_meets 64 = .ok (.iconst 0, 1) := by decide +kernel
theorem dX9_meets_65 : decode cX9_meets 65 = .ok (.istore_n 3, 1) := by decide +kernel
theorem dX9_meets_66 : decode cX9_meets 66 = .ok (.iload_n 3, 1) := by decide +kernel
theorem dX9_meets_67 : decode cX9_meets 67 = .ok (.aload_n 0, 1) := by decide +kernel
theorem dX9_meets_68 : decode cX9_meets 68 = .ok (.getfield 58, 3) := by decide +kernel
theorem dX9_meets_71 : decode cX9_meets 71 = .ok (.if_icmp .ge 21, 3) := by decide +kernel
theorem dX9_meets_74 : decode cX9_meets 74 = .ok (.aload_n 0, 1) := by decide +kernel
theorem dX9_meets_75 : decode cX9_meets 75 = .ok (.getfield 55, 3) := by decide +kernel
theorem dX9_meets_78 : decode cX9_meets 78 = .ok (.iload_n 3, 1) := by decide +kernel
theorem dX9_meets_79 : decode cX9_meets 79 = .ok (.aload_n 0, 1) := by decide +kernel
theorem dX9_meets_80 : decode cX9_meets 80 = .ok (.getfield 52, 3) := by decide +kernel
theorem dX9_meets_83 : decode cX9_meets 83 = .ok (.iload_n 3, 1) := by decide +kernel
theorem dX9_meets_84 : decode cX9_meets 84 = .ok (.iaload, 1) := by decide +kernel
theorem dX9_meets_85 : decode cX9_meets 85 = .ok (.iastore, 1) := by decide +kernel
theorem dX9_meets_86 : decode cX9_meets 86 = .ok (.iinc 3 1, 3) := by decide +kernel
theorem dX9_meets_89 : decode cX9_meets 89 = .ok (.goto (-23), 3) := by decide +kernel
theorem dX9_meets_92 : decode cX9_meets 92 = .ok (.aload_n 0, 1) := by decide +kernel
theorem dX9_meets_93 : decode cX9_meets 93 = .ok (.iload_n 1, 1) := by decide +kernel
theorem dX9_meets_94 : decode cX9_meets 94 = .ok (.aload_n 0, 1) := by decide +kernel
theorem dX9_meets_95 : decode cX9_meets 95 = .ok (.getfield 200, 3) := by decide +kernel
theorem dX9_meets_98 : decode cX9_meets 98 = .ok (.if_icmp .le 15, 3) := by decide +kernel
theorem dX9_meets_101 : decode cX9_meets 101 = .ok (.iload_n 1, 1) := by decide +kernel
theorem dX9_meets_102 : decode cX9_meets 102 = .ok (.aload_n 0, 1) := by decide +kernel
theorem dX9_meets_103 : decode cX9_meets 103 = .ok (.getfield 203, 3) := by decide +kernel
theorem dX9_meets_106 : decode cX9_meets 106 = .ok (.if_icmp .ge 7, 3) := by decide +kernel
theorem dX9_meets_109 : decode cX9_meets 109 = .ok (.iload_n 1, 1) := by decide +kernel
theorem dX9_meets_110 : decode cX9_meets 110 = .ok (.goto 7, 3) := by decide +kernel
theorem dX9_meets_113 : decode cX9_meets 113 = .ok (.aload_n 0, 1) := by decide +kernel
theorem dX9_meets_114 : decode cX9_meets 114 = .ok (.getfield 203, 3) := by decide +kernel
theorem dX9_meets_117 : decode cX9_meets 117 = .ok (.putfield 203, 3) := by decide +kernel
theorem dX9_meets_120 : decode cX9_meets 120 = .ok (.aload_n 0, 1) := by decide +kernel
theorem dX9_meets_121 : decode cX9_meets 121 = .ok (.dup, 1) := by decide +kernel
theorem dX9_meets_122 : decode cX9_meets 122 = .ok (.getfield 206, 3) := by decide +kernel
theorem dX9_meets_125 : decode cX9_meets 125 = .ok (.iload_n 1, 1) := by decide +kernel
theorem dX9_meets_126 : decode cX9_meets 126 = .ok (.aload_n 0, 1) := by decide +kernel
theorem dX9_meets_127 : decode cX9_meets 127 = .ok (.getfield 200, 3) := by decide +kernel
theorem dX9_meets_130 : decode cX9_meets 130 = .ok (.if_icmp .ne 7, 3) := by decide +kernel
theorem dX9_meets_133 : decode cX9_meets 133 = .ok (.iconst 1, 1) := by decide +kernel
theorem dX9_meets_134 : decode cX9_meets 134 = .ok (.goto 4, 3) := by decide +kernel
theorem dX9_meets_137 : decode cX9_meets 137 = .ok (.iconst 0, 1) := by decide +kernel
theorem dX9_meets_138 : decode cX9_meets 138 = .ok (.iadd, 1) := by decide +kernel
theorem dX9_meets_139 : decode cX9_meets 139 = .ok (.putfield 206, 3) := by decide +kernel
theorem dX9_meets_142 : decode cX9_meets 142 = .ok (.aload_n 0, 1) := by decide +kernel
theorem dX9_meets_143 : decode cX9_meets 143 = .ok (.iload_n 1, 1) := by decide +kernel
theorem dX9_meets_144 : decode cX9_meets 144 = .ok (.aload_n 0, 1) := by decide +kernel
theorem dX9_meets_145 : decode cX9_meets 145 = .ok (.getfield 200, 3) := by decide +kernel
theorem dX9_meets_148 : decode cX9_meets 148 = .ok (.if_icmp .ne 12, 3) := by decide +kernel
theorem dX9_meets_151 : decode cX9_meets 151 = .ok (.aload_n 0, 1) := by decide +kernel
theorem dX9_meets_152 : decode cX9_meets 152 = .ok (.getfield 209, 3) := by decide +kernel
theorem dX9_meets_155 : decode cX9_meets 155 = .ok (.iload_n 2, 1) := by decide +kernel
theorem dX9_meets_156 : decode cX9_meets 156 = .ok (.iand, 1) := by decide +kernel
theorem dX9_meets_157 : decode cX9_meets 157 = .ok (.goto 7, 3) := by decide +kernel
theorem dX9_meets_160 : decode cX9_meets 160 = .ok (.aload_n 0, 1) := by decide +kernel
theorem dX9_meets_161 : decode cX9_meets 161 = .ok (.getfield 209, 3) := by decide +kernel
theorem dX9_meets_164 : decode cX9_meets 164 = .ok (.putfield 209, 3) := by decide +kernel
theorem dX9_meets_167 : decode cX9_meets 167 = .ok (.return_, 1) := by decide +kernel
theorem dX9_looks_0 : decode cX9_looks 0 = .ok (.aload_n 0, 1) := by decide +kernel
theorem dX9_looks_1 : decode cX9_looks 1 = .ok (.aload_n 0, 1) := by decide +kernel
theorem dX9_looks_2 : decode cX9_looks 2 = .ok (.getfield 62, 3) := by decide +kernel
theorem dX9_looks_5 : decode cX9_looks 5 = .ok (.putfield 200, 3) := by decide +kernel
theorem dX9_looks_8 : decode cX9_looks 8 = .ok (.aload_n 0, 1) := by decide +kernel
theorem dX9_looks_9 : decode cX9_looks 9 = .ok (.aload_n 0, 1) := by decide +kernel
theorem dX9_looks_10 : decode cX9_looks 10 = .ok (.getfield 62, 3) := by decide +kernel
theorem dX9_looks_13 : decode cX9_looks 13 = .ok (.putfield 203, 3) := by decide +kernel
theorem dX9_looks_16 : decode cX9_looks 16 = .ok (.aload_n 0, 1) := by decide +kernel
theorem dX9_looks_17 : decode cX9_looks 17 = .ok (.iconst 0, 1) := by decide +kernel
theorem dX9_looks_18 : decode cX9_looks 18 = .ok (.putfield 212, 3) := by decide +kernel
theorem dX9_looks_21 : decode cX9_looks 21 = .ok (.aload_n 0, 1) := by decide +kernel
theorem dX9_looks_22 : decode cX9_looks 22 = .ok (.iconst 0, 1) := by decide +kernel
theorem dX9_looks_23 : decode cX9_looks 23 = .ok (.putfield 206, 3) := by decide +kernel
theorem dX9_looks_26 : decode cX9_looks 26 = .ok (.aload_n 0, 1) := by decide +kernel
theorem dX9_looks_27 : decode cX9_looks 27 = .ok (.invokevirtual 215, 3) := by decide +kernel
theorem dX9_looks_30 : decode cX9_looks 30 = .ok (.istore_n 1, 1) := by decide +kernel
theorem dX9_looks_31 : decode cX9_looks 31 = .ok (.iconst 0, 1) := by decide +kernel
theorem dX9_looks_32 : decode cX9_looks 32 = .ok (.istore_n 2, 1) := by decide +kernel
theorem dX9_looks_33 : decode cX9_looks 33 = .ok (.iload_n 2, 1) := by decide +kernel
theorem dX9_looks_34 : decode cX9_looks 34 = .ok (.iload_n 1, 1) := by decide +kernel
theorem dX9_looks_35 : decode cX9_looks 35 = .ok (.if_icmp .ge 44, 3) := by decide +kernel
theorem dX9_looks_38 : decode cX9_looks 38 = .ok (.aload_n 0, 1) := by decide +kernel
theorem dX9_looks_39 : decode cX9_looks 39 = .ok (.iload_n 2, 1) := by decide +kernel
theorem dX9_looks_40 : decode cX9_looks 40 = .ok (.invokevirtual 218, 3) := by decide +kernel
theorem dX9_looks_43 : decode cX9_looks 43 = .ok (.aload_n 0, 1) := by decide +kernel
theorem dX9_looks_44 : decode cX9_looks 44 = .ok (.bipush (-4), 2) := by decide +kernel
theorem dX9_looks_46 : decode cX9_looks 46 = .ok (.invokevirtual 197, 3) := by decide +kernel
theorem dX9_looks_49 : decode cX9_looks 49 = .ok (.istore_n 3, 1) := by decide +kernel
theorem dX9_looks_50 : decode cX9_looks 50 = .ok (.iload_n 3, 1) := by decide +kernel
theorem dX9_looks_51 : decode cX9_looks 51 = .ok (.aload_n 0, 1) := by decide +kernel
theorem dX9_looks_52 : decode cX9_looks 52 = .ok (.getfield 62, 3) := by decide +kernel
theorem dX9_looks_55 : decode cX9_looks 55 = .ok (.if_icmp .ge 18, 3) := by decide +kernel
theorem dX9_looks_58 : decode cX9_looks 58 = .ok (.aload_n 0, 1) := by decide +kernel
theorem dX9_looks_59 : decode cX9_looks 59 = .ok (.dup, 1) := by decide +kernel
theorem dX9_looks_60 : decode cX9_looks 60 = .ok (.getfield 212, 3) := by decide +kernel
theorem dX9_looks_63 : decode cX9_looks 63 = .ok (.iconst 1, 1) := by decide +kernel
theorem dX9_looks_64 : decode cX9_looks 64 = .ok (.iadd, 1) := by decide +kernel
theorem dX9_looks_65 : decode cX9_looks 65 = .ok (.putfield 212, 3) := by decide +kernel
theorem dX9_looks_68 : decode cX9_looks 68 = .ok (.aload_n 0, 1) := by decide +kernel
theorem dX9_looks_69 : decode cX9_looks 69 = .ok (.iload_n 3, 1) := by decide +kernel
theorem dX9_looks_70 : decode cX9_looks 70 = .ok (.invokevirtual 221, 3) := by decide +kernel
theorem dX9_looks_73 : decode cX9_looks 73 = .ok (.iinc 2 1, 3) := by decide +kernel
theorem dX9_looks_76 : decode cX9_looks 76 = .ok (.goto (-43), 3) := by decide +kernel
theorem dX9_looks_79 : decode cX9_looks 79 = .ok (.return_, 1) := by decide +kernel
theorem dX9_best_0 : decode cX9_best 0 = .ok (.iload_n 1, 1) := by decide +kernel
theorem dX9_best_1 : decode cX9_best 1 = .ok (.bipush (-2), 2) := by decide +kernel
theorem dX9_best_3 : decode cX9_best 3 = .ok (.aload_n 0, 1) := by decide +kernel
theorem dX9_best_4 : decode cX9_best 4 = .ok (.getfield 58, 3) := by decide +kernel
theorem dX9_best_7 : decode cX9_best 7 = .ok (.iconst 1, 1) := by decide +kernel
theorem dX9_best_8 : decode cX9_best 8 = .ok (.isub, 1) := by decide +kernel
theorem dX9_best_9 : decode cX9_best 9 = .ok (.invokestatic 85, 3) := by decide +kernel
theorem dX9_best_12 : decode cX9_best 12 = .ok (.ifCond .ne 5, 3) := by decide +kernel
theorem dX9_best_15 : decode cX9_best 15 = .ok (.iconst (-1), 1) := by decide +kernel
theorem dX9_best_16 : decode cX9_best 16 = .ok (.ireturn, 1) := by decide +kernel
theorem dX9_best_17 : decode cX9_best 17 = .ok (.aload_n 0, 1) := by decide +kernel
theorem dX9_best_18 : decode cX9_best 18 = .ok (.invokevirtual 224, 3) := by decide +kernel
theorem dX9_best_21 : decode cX9_best 21 = .ok (.aload_n 0, 1) := by decide +kernel
theorem dX9_best_22 : decode cX9_best 22 = .ok (.getfield 212, 3) := by decide +kernel
theorem dX9_best_25 : decode cX9_best 25 = .ok (.ifCond .ne 6, 3) := by decide +kernel
theorem dX9_best_28 : decode cX9_best 28 = .ok (.bipush (-4), 2) := by decide +kernel
theorem dX9_best_30 : decode cX9_best 30 = .ok (.ireturn, 1) := by decide +kernel
theorem dX9_best_31 : decode cX9_best 31 = .ok (.iload_n 1, 1) := by decide +kernel
theorem dX9_best_32 : decode cX9_best 32 = .ok (.iconst (-1), 1) := by decide +kernel
theorem dX9_best_33 : decode cX9_best 33 = .ok (.if_icmp .ne 10, 3) := by decide +kernel
theorem dX9_best_36 : decode cX9_best 36 = .ok (.aload_n 0, 1) := by decide +kernel
theorem dX9_best_37 : decode cX9_best 37 = .ok (.getfield 200, 3) := by decide +kernel
theorem dX9_best_40 : decode cX9_best 40 = .ok (.goto 22, 3) := by decide +kernel
theorem dX9_best_43 : decode cX9_best 43 = .ok (.iload_n 1, 1) := by decide +kernel
theorem dX9_best_44 : decode cX9_best 44 = .ok (.bipush (-2), 2) := by decide +kernel
theorem dX9_best_46 : decode cX9_best 46 = .ok (.if_icmp .ne 10, 3) := by decide +kernel
theorem dX9_best_49 : decode cX9_best 49 = .ok (.aload_n 0, 1) := by decide +kernel
theorem dX9_best_50 : decode cX9_best 50 = .ok (.getfield 206, 3) := by decide +kernel
theorem dX9_best_53 : decode cX9_best 53 = .ok (.goto 9, 3) := by decide +kernel
theorem dX9_best_56 : decode cX9_best 56 = .ok (.aload_n 0, 1) := by decide +kernel
theorem dX9_best_57 : decode cX9_best 57 = .ok (.getfield 55, 3) := by decide +kernel
theorem dX9_best_60 : decode cX9_best 60 = .ok (.iload_n 1, 1) := by decide +kernel
theorem dX9_best_61 : decode cX9_best 61 = .ok (.iaload, 1) := by decide +kernel
theorem dX9_best_62 : decode cX9_best 62 = .ok (.ireturn, 1) := by decide +kernel
theorem dX9_next_0 : decode cX9_next 0 = .ok (.iload_n 1, 1) := by decide +kernel
theorem dX9_next_1 : decode cX9_next 1 = .ok (.iconst 0, 1) := by decide +kernel
theorem dX9_next_2 : decode cX9_next 2 = .ok (.iconst 1, 1) := by decide +kernel
theorem dX9_next_3 : decode cX9_next 3 = .ok (.invokestatic 85, 3) := by decide +kernel
theorem dX9_next_6 : decode cX9_next 6 = .ok (.ifCond .ne 5, 3) := by decide +kernel
theorem dX9_next_9 : decode cX9_next 9 = .ok (.iconst (-1), 1) := by decide +kernel
theorem dX9_next_10 : decode cX9_next 10 = .ok (.ireturn, 1) := by decide +kernel
theorem dX9_next_11 : decode cX9_next 11 = .ok (.aload_n 0, 1) := by decide +kernel
theorem dX9_next_12 : decode cX9_next 12 = .ok (.invokevirtual 224, 3) := by decide +kernel
theorem dX9_next_15 : decode cX9_next 15 = .ok (.iload_n 1, 1) := by decide +kernel
theorem dX9_next_16 : decode cX9_next 16 = .ok (.iconst 1, 1) := by decide +kernel
theorem dX9_next_17 : decode cX9_next 17 = .ok (.if_icmp .ne 10, 3) := by decide +kernel
theorem dX9_next_20 : decode cX9_next 20 = .ok (.aload_n 0, 1) := by decide +kernel
theorem dX9_next_21 : decode cX9_next 21 = .ok (.getfield 212, 3) := by decide +kernel
theorem dX9_next_24 : decode cX9_next 24 = .ok (.goto 23, 3) := by decide +kernel
theorem dX9_next_27 : decode cX9_next 27 = .ok (.aload_n 0, 1) := by decide +kernel
theorem dX9_next_28 : decode cX9_next 28 = .ok (.getfield 203, 3) := by decide +kernel
theorem dX9_next_31 : decode cX9_next 31 = .ok (.aload_n 0, 1) := by decide +kernel
theorem dX9_next_32 : decode cX9_next 32 = .ok (.getfield 62, 3) := by decide +kernel
theorem dX9_next_35 : decode cX9_next 35 = .ok (.if_icmp .ge 10, 3) := by decide +kernel
theorem dX9_next_38 : decode cX9_next 38 = .ok (.aload_n 0, 1) := by decide +kernel
theorem dX9_next_39 : decode cX9_next 39 = .ok (.getfield 203, 3) := by decide +kernel
theorem dX9_next_42 : decode cX9_next 42 = .ok (.goto 5, 3) := by decide +kernel
theorem dX9_next_45 : decode cX9_next 45 = .ok (.bipush (-4), 2) := by decide +kernel
theorem dX9_next_47 : decode cX9_next 47 = .ok (.ireturn, 1) := by decide +kernel
theorem dX9_backbone_0 : decode cX9_backbone 0 = .ok (.aload_n 0, 1) := by decide +kernel
theorem dX9_backbone_1 : decode cX9_backbone 1 = .ok (.invokevirtual 224, 3) := by decide +kernel
theorem dX9_backbone_4 : decode cX9_backbone 4 = .ok (.aload_n 0, 1) := by decide +kernel
theorem dX9_backbone_5 : decode cX9_backbone 5 = .ok (.getfield 212, 3) := by decide +kernel
theorem dX9_backbone_8 : decode cX9_backbone 8 = .ok (.ifCond .ne 8, 3) := by decide +kernel
theorem dX9_backbone_11 : decode cX9_backbone 11 = .ok (.bipush (-4), 2) := by decide +kernel
theorem dX9_backbone_13 : decode cX9_backbone 13 = .ok (.goto 7, 3) := by decide +kernel
theorem dX9_backbone_16 : decode cX9_backbone 16 = .ok (.aload_n 0, 1) := by decide +kernel
theorem dX9_backbone_17 : decode cX9_backbone 17 = .ok (.getfield 209, 3) := by decide +kernel
theorem dX9_backbone_20 : decode cX9_backbone 20 = .ok (.ireturn, 1) := by decide +kernel
theorem dX9_least_0 : decode cX9_least 0 = .ok (.aload_n 0, 1) := by decide +kernel
theorem dX9_least_1 : decode cX9_least 1 = .ok (.getfield 62, 3) := by decide +kernel
theorem dX9_least_4 : decode cX9_least 4 = .ok (.istore 4, 2) := by decide +kernel
theorem dX9_least_6 : decode cX9_least 6 = .ok (.aload_n 0, 1) := by decide +kernel
theorem dX9_least_7 : decode cX9_least 7 = .ok (.invokevirtual 215, 3) := by decide +kernel
theorem dX9_least_10 : decode cX9_least 10 = .ok (.istore 5, 2) := by decide +kernel
theorem dX9_least_12 : decode cX9_least 12 = .ok (.iconst 0, 1) := by decide +kernel
theorem dX9_least_13 : decode cX9_least 13 = .ok (.istore 6, 2) := by decide +kernel
theorem dX9_least_15 : decode cX9_least 15 = .ok (.iload 6, 2) := by decide +kernel
theorem dX9_least_17 : decode cX9_least 17 = .ok (.iload 5, 2) := by decide +kernel
theorem dX9_least_19 : decode cX9_least 19 = .ok (.if_icmp .ge 52, 3) := by decide +kernel
theorem dX9_least_22 : decode cX9_least 22 = .ok (.aload_n 0, 1) := by decide +kernel
theorem dX9_least_23 : decode cX9_least 23 = .ok (.iload 6, 2) := by decide +kernel
theorem dX9_least_25 : decode cX9_least 25 = .ok (.invokevirtual 218, 3) := by decide +kernel
theorem dX9_least_28 : decode cX9_least 28 = .ok (.iload_n 1, 1) := by decide +kernel
theorem dX9_least_29 : decode cX9_least 29 = .ok (.ifCond .lt 13, 3) := by decide +kernel
theorem dX9_least_32 : decode cX9_least 32 = .ok (.aload_n 0, 1) := by decide +kernel
theorem dX9_least_33 : decode cX9_least 33 = .ok (.getfield 52, 3) := by decide +kernel
theorem dX9_least_36 : decode cX9_least 36 = .ok (.iload_n 1, 1) := by decide +kernel
theorem dX9_least_37 : decode cX9_least 37 = .ok (.iaload, 1) := by decide +kernel
theorem dX9_least_38 : decode cX9_least 38 = .ok (.iload_n 2, 1) := by decide +kernel
theorem dX9_least_39 : decode cX9_least 39 = .ok (.if_icmp .ne 26, 3) := by decide +kernel
theorem dX9_least_42 : decode cX9_least 42 = .ok (.aload_n 0, 1) := by decide +kernel
theorem dX9_least_43 : decode cX9_least 43 = .ok (.iload_n 3, 1) := by decide +kernel
theorem dX9_least_44 : decode cX9_least 44 = .ok (.invokevirtual 197, 3) := by decide +kernel
theorem dX9_least_47 : decode cX9_least 47 = .ok (.istore 7, 2) := by decide +kernel
theorem dX9_least_49 : decode cX9_least 49 = .ok (.iload 7, 2) := by decide +kernel
theorem dX9_least_51 : decode cX9_least 51 = .ok (.iload 4, 2) := by decide +kernel
theorem dX9_least_53 : decode cX9_least 53 = .ok (.if_icmp .ge 8, 3) := by decide +kernel
theorem dX9_least_56 : decode cX9_least 56 = .ok (.iload 7, 2) := by decide +kernel
theorem dX9_least_58 : decode cX9_least 58 = .ok (.goto 5, 3) := by decide +kernel
theorem dX9_least_61 : decode cX9_least 61 = .ok (.iload 4, 2) := by decide +kernel
theorem dX9_least_63 : decode cX9_least 63 = .ok (.istore 4, 2) := by decide +kernel
theorem dX9_least_65 : decode cX9_least 65 = .ok (.iinc 6 1, 3) := by decide +kernel
theorem dX9_least_68 : decode cX9_least 68 = .ok (.goto (-53), 3) := by decide +kernel
theorem dX9_least_71 : decode cX9_least 71 = .ok (.iload 4, 2) := by decide +kernel
theorem dX9_least_73 : decode cX9_least 73 = .ok (.aload_n 0, 1) := by decide +kernel
theorem dX9_least_74 : decode cX9_least 74 = .ok (.getfield 62, 3) := by decide +kernel
theorem dX9_least_77 : decode cX9_least 77 = .ok (.if_icmp .ge 8, 3) := by decide +kernel
theorem dX9_least_80 : decode cX9_least 80 = .ok (.iload 4, 2) := by decide +kernel
theorem dX9_least_82 : decode cX9_least 82 = .ok (.goto 5, 3) := by decide +kernel
theorem dX9_least_85 : decode cX9_least 85 = .ok (.bipush (-4), 2) := by decide +kernel
theorem dX9_least_87 : decode cX9_least 87 = .ok (.ireturn, 1) := by decide +kernel
theorem dX9_with_0 : decode cX9_with 0 = .ok (.aload_n 0, 1) := by decide +kernel
theorem dX9_with_1 : decode cX9_with 1 = .ok (.iload_n 1, 1) := by decide +kernel
theorem dX9_with_2 : decode cX9_with 2 = .ok (.iload_n 2, 1) := by decide +kernel
theorem dX9_with_3 : decode cX9_with 3 = .ok (.invokevirtual 141, 3) := by decide +kernel
theorem dX9_with_6 : decode cX9_with 6 = .ok (.ifCond .eq 14, 3) := by decide +kernel
theorem dX9_with_9 : decode cX9_with 9 = .ok (.aload_n 0, 1) := by decide +kernel
theorem dX9_with_10 : decode cX9_with 10 = .ok (.iload_n 1, 1) := by decide +kernel
theorem dX9_with_11 : decode cX9_with 11 = .ok (.iload_n 2, 1) := by decide +kernel
theorem dX9_with_12 : decode cX9_with 12 = .ok (.bipush (-4), 2) := by decide +kernel
theorem dX9_with_14 : decode cX9_with 14 = .ok (.invokevirtual 227, 3) := by decide +kernel
theorem dX9_with_17 : decode cX9_with 17 = .ok (.goto 4, 3) := by decide +kernel
theorem dX9_with_20 : decode cX9_with 20 = .ok (.iconst (-1), 1) := by decide +kernel
theorem dX9_with_21 : decode cX9_with 21 = .ok (.ireturn, 1) := by decide +kernel
theorem dX9_without_0 : decode cX9_without 0 = .ok (.aload_n 0, 1) := by decide +kernel
theorem dX9_without_1 : decode cX9_without 1 = .ok (.iload_n 1, 1) := by decide +kernel
theorem dX9_without_2 : decode cX9_without 2 = .ok (.invokevirtual 144, 3) := by decide +kernel
theorem dX9_without_5 : decode cX9_without 5 = .ok (.ifCond .eq 14, 3) := by decide +kernel
theorem dX9_without_8 : decode cX9_without 8 = .ok (.aload_n 0, 1) := by decide +kernel
theorem dX9_without_9 : decode cX9_without 9 = .ok (.bipush (-4), 2) := by decide +kernel
theorem dX9_without_11 : decode cX9_without 11 = .ok (.iconst 0, 1) := by decide +kernel
theorem dX9_without_12 : decode cX9_without 12 = .ok (.iload_n 1, 1) := by decide +kernel
theorem dX9_without_13 : decode cX9_without 13 = .ok (.invokevirtual 227, 3) := by decide +kernel
theorem dX9_without_16 : decode cX9_without 16 = .ok (.goto 4, 3) := by decide +kernel
theorem dX9_without_19 : decode cX9_without 19 = .ok (.iconst (-1), 1) := by decide +kernel
theorem dX9_without_20 : decode cX9_without 20 = .ok (.ireturn, 1) := by decide +kernel
theorem dX9_pairsWith_0 : decode cX9_pairsWith 0 = .ok (.iconst 0, 1) := by decide +kernel
theorem dX9_pairsWith_1 : decode cX9_pairsWith 1 = .ok (.istore 4, 2) := by decide +kernel
theorem dX9_pairsWith_3 : decode cX9_pairsWith 3 = .ok (.iconst 0, 1) := by decide +kernel
theorem dX9_pairsWith_4 : decode cX9_pairsWith 4 = .ok (.istore 5, 2) := by decide +kernel
theorem dX9_pairsWith_6 : decode cX9_pairsWith 6 = .ok (.iload 5, 2) := by decide +kernel
theorem dX9_pairsWith_8 : decode cX9_pairsWith 8 = .ok (.aload_n 0, 1) := by decide +kernel
theorem dX9_pairsWith_9 : decode cX9_pairsWith 9 = .ok (.getfield 65, 3) := by decide +kernel
theorem dX9_pairsWith_12 : decode cX9_pairsWith 12 = .ok (.if_icmp .ge 108, 3) := by decide +kernel
theorem dX9_pairsWith_15 : decode cX9_pairsWith 15 = .ok (.aload_n 0, 1) := by decide +kernel
theorem dX9_pairsWith_16 : decode cX9_pairsWith 16 = .ok (.getfield 16, 3) := by decide +kernel
theorem dX9_pairsWith_19 : decode cX9_pairsWith 19 = .ok (.iload 5, 2) := by decide +kernel
theorem dX9_pairsWith_21 : decode cX9_pairsWith 21 = .ok (.iaload, 1) := by decide +kernel
theorem dX9_pairsWith_22 : decode cX9_pairsWith 22 = .ok (.iload_n 1, 1) := by decide +kernel
theorem dX9_pairsWith_23 : decode cX9_pairsWith 23 = .ok (.if_icmp .ne 13, 3) := by decide +kernel
theorem dX9_pairsWith_26 : decode cX9_pairsWith 26 = .ok (.aload_n 0, 1) := by decide +kernel
theorem dX9_pairsWith_27 : decode cX9_pairsWith 27 = .ok (.getfield 19, 3) := by decide +kernel
theorem dX9_pairsWith_30 : decode cX9_pairsWith 30 = .ok (.iload 5, 2) := by decide +kernel
theorem dX9_pairsWith_32 : decode cX9_pairsWith 32 = .ok (.iaload, 1) := by decide +kernel
theorem dX9_pairsWith_33 : decode cX9_pairsWith 33 = .ok (.goto 26, 3) := by decide +kernel
theorem dX9_pairsWith_36 : decode cX9_pairsWith 36 = .ok (.aload_n 0, 1) := by decide +kernel
theorem dX9_pairsWith_37 : decode cX9_pairsWith 37 = .ok (.getfield 19, 3) := by decide +kernel
theorem dX9_pairsWith_40 : decode cX9_pairsWith 40 = .ok (.iload 5, 2) := by decide +kernel
theorem dX9_pairsWith_42 : decode cX9_pairsWith 42 = .ok (.iaload, 1) := by decide +kernel
theorem dX9_pairsWith_43 : decode cX9_pairsWith 43 = .ok (.iload_n 1, 1) := by decide +kernel
theorem dX9_pairsWith_44 : decode cX9_pairsWith 44 = .ok (.if_icmp .ne 13, 3) := by decide +kernel
theorem dX9_pairsWith_47 : decode cX9_pairsWith 47 = .ok (.aload_n 0, 1) := by decide +kernel
theorem dX9_pairsWith_48 : decode cX9_pairsWith 48 = .ok (.getfield 16, 3) := by decide +kernel
theorem dX9_pairsWith_51 : decode cX9_pairsWith 51 = .ok (.iload 5, 2) := by decide +kernel
theorem dX9_pairsWith_53 : decode cX9_pairsWith 53 = .ok (.iaload, 1) := by decide +kernel
theorem dX9_pairsWith_54 : decode cX9_pairsWith 54 = .ok (.goto 5, 3) := by decide +kernel
theorem dX9_pairsWith_57 : decode cX9_pairsWith 57 = .ok (.bipush (-4), 2) := by decide +kernel
theorem dX9_pairsWith_59 : decode cX9_pairsWith 59 = .ok (.istore 6, 2) := by decide +kernel
theorem dX9_pairsWith_61 : decode cX9_pairsWith 61 = .ok (.iload 6, 2) := by decide +kernel
theorem dX9_pairsWith_63 : decode cX9_pairsWith 63 = .ok (.ifCond .lt 51, 3) := by decide +kernel
theorem dX9_pairsWith_66 : decode cX9_pairsWith 66 = .ok (.iload 6, 2) := by decide +kernel
theorem dX9_pairsWith_68 : decode cX9_pairsWith 68 = .ok (.iload_n 3, 1) := by decide +kernel
theorem dX9_pairsWith_69 : decode cX9_pairsWith 69 = .ok (.if_icmp .gt 45, 3) := by decide +kernel
theorem dX9_pairsWith_72 : decode cX9_pairsWith 72 = .ok (.aload_n 0, 1) := by decide +kernel
theorem dX9_pairsWith_73 : decode cX9_pairsWith 73 = .ok (.iload 4, 2) := by decide +kernel
theorem dX9_pairsWith_75 : decode cX9_pairsWith 75 = .ok (.aload_n 0, 1) := by decide +kernel
theorem dX9_pairsWith_76 : decode cX9_pairsWith 76 = .ok (.getfield 25, 3) := by decide +kernel
theorem dX9_pairsWith_79 : decode cX9_pairsWith 79 = .ok (.iload 5, 2) := by decide +kernel
theorem dX9_pairsWith_81 : decode cX9_pairsWith 81 = .ok (.aload_n 0, 1) := by decide +kernel
theorem dX9_pairsWith_82 : decode cX9_pairsWith 82 = .ok (.getfield 16, 3) := by decide +kernel
theorem dX9_pairsWith_85 : decode cX9_pairsWith 85 = .ok (.iload 5, 2) := by decide +kernel
theorem dX9_pairsWith_87 : decode cX9_pairsWith 87 = .ok (.iaload, 1) := by decide +kernel
theorem dX9_pairsWith_88 : decode cX9_pairsWith 88 = .ok (.iload_n 1, 1) := by decide +kernel
theorem dX9_pairsWith_89 : decode cX9_pairsWith 89 = .ok (.if_icmp .ne 7, 3) := by decide +kernel
theorem dX9_pairsWith_92 : decode cX9_pairsWith 92 = .ok (.iconst 0, 1) := by decide +kernel
theorem dX9_pairsWith_93 : decode cX9_pairsWith 93 = .ok (.goto 4, 3) := by decide +kernel
theorem dX9_pairsWith_96 : decode cX9_pairsWith 96 = .ok (.iconst 1, 1) := by decide +kernel
theorem dX9_pairsWith_97 : decode cX9_pairsWith 97 = .ok (.iload_n 2, 1) := by decide +kernel
theorem dX9_pairsWith_98 : decode cX9_pairsWith 98 = .ok (.aload_n 0, 1) := by decide +kernel
theorem dX9_pairsWith_99 : decode cX9_pairsWith 99 = .ok (.getfield 52, 3) := by decide +kernel
theorem dX9_pairsWith_102 : decode cX9_pairsWith 102 = .ok (.iload 6, 2) := by decide +kernel
theorem dX9_pairsWith_104 : decode cX9_pairsWith 104 = .ok (.iaload, 1) := by decide +kernel
theorem dX9_pairsWith_105 : decode cX9_pairsWith 105 = .ok (.invokestatic 150, 3) := by decide +kernel
theorem dX9_pairsWith_108 : decode cX9_pairsWith 108 = .ok (.iaload, 1) := by decide +kernel
theorem dX9_pairsWith_109 : decode cX9_pairsWith 109 = .ok (.invokevirtual 125, 3) := by decide +kernel
theorem dX9_pairsWith_112 : decode cX9_pairsWith 112 = .ok (.istore 4, 2) := by decide +kernel
theorem dX9_pairsWith_114 : decode cX9_pairsWith 114 = .ok (.iinc 5 1, 3) := by decide +kernel
theorem dX9_pairsWith_117 : decode cX9_pairsWith 117 = .ok (.goto (-111), 3) := by decide +kernel
theorem dX9_pairsWith_120 : decode cX9_pairsWith 120 = .ok (.iload 4, 2) := by decide +kernel
theorem dX9_pairsWith_122 : decode cX9_pairsWith 122 = .ok (.ireturn, 1) := by decide +kernel
theorem dX9_lowOf_0 : decode cX9_lowOf 0 = .ok (.aload_n 0, 1) := by decide +kernel
theorem dX9_lowOf_1 : decode cX9_lowOf 1 = .ok (.getfield 25, 3) := by decide +kernel
theorem dX9_lowOf_4 : decode cX9_lowOf 4 = .ok (.sipush 168, 3) := by decide +kernel
theorem dX9_lowOf_7 : decode cX9_lowOf 7 = .ok (.iaload, 1) := by decide +kernel
theorem dX9_lowOf_8 : decode cX9_lowOf 8 = .ok (.istore_n 2, 1) := by decide +kernel
theorem dX9_lowOf_9 : decode cX9_lowOf 9 = .ok (.iconst 0, 1) := by decide +kernel
theorem dX9_lowOf_10 : decode cX9_lowOf 10 = .ok (.istore_n 3, 1) := by decide +kernel
theorem dX9_lowOf_11 : decode cX9_lowOf 11 = .ok (.iload_n 3, 1) := by decide +kernel
theorem dX9_lowOf_12 : decode cX9_lowOf 12 = .ok (.aload_n 0, 1) := by decide +kernel
theorem dX9_lowOf_13 : decode cX9_lowOf 13 = .ok (.getfield 58, 3) := by decide +kernel
theorem dX9_lowOf_16 : decode cX9_lowOf 16 = .ok (.if_icmp .ge 131, 3) := by decide +kernel
theorem dX9_lowOf_19 : decode cX9_lowOf 19 = .ok (.iload_n 3, 1) := by decide +kernel
theorem dX9_lowOf_20 : decode cX9_lowOf 20 = .ok (.iload_n 1, 1) := by decide +kernel
theorem dX9_lowOf_21 : decode cX9_lowOf 21 = .ok (.if_icmp .gt 45, 3) := by decide +kernel
theorem dX9_lowOf_24 : decode cX9_lowOf 24 = .ok (.aload_n 0, 1) := by decide +kernel
theorem dX9_lowOf_25 : decode cX9_lowOf 25 = .ok (.iload_n 2, 1) := by decide +kernel
theorem dX9_lowOf_26 : decode cX9_lowOf 26 = .ok (.aload_n 0, 1) := by decide +kernel
theorem dX9_lowOf_27 : decode cX9_lowOf 27 = .ok (.aload_n 0, 1) := by decide +kernel
theorem dX9_lowOf_28 : decode cX9_lowOf 28 = .ok (.getfield 25, 3) := by decide +kernel
theorem dX9_lowOf_31 : decode cX9_lowOf 31 = .ok (.iconst 4, 1) := by decide +kernel
theorem dX9_lowOf_32 : decode cX9_lowOf 32 = .ok (.iload_n 3, 1) := by decide +kernel
theorem dX9_lowOf_33 : decode cX9_lowOf 33 = .ok (.imul, 1) := by decide +kernel
theorem dX9_lowOf_34 : decode cX9_lowOf 34 = .ok (.aload_n 0, 1) := by decide +kernel
theorem dX9_lowOf_35 : decode cX9_lowOf 35 = .ok (.getfield 52, 3) := by decide +kernel
theorem dX9_lowOf_38 : decode cX9_lowOf 38 = .ok (.iload_n 3, 1) := by decide +kernel
theorem dX9_lowOf_39 : decode cX9_lowOf 39 = .ok (.iaload, 1) := by decide +kernel
theorem dX9_lowOf_40 : decode cX9_lowOf 40 = .ok (.iadd, 1) := by decide +kernel
theorem dX9_lowOf_41 : decode cX9_lowOf 41 = .ok (.iaload, 1) := by decide +kernel
theorem dX9_lowOf_42 : decode cX9_lowOf 42 = .ok (.aload_n 0, 1) := by decide +kernel
theorem dX9_lowOf_43 : decode cX9_lowOf 43 = .ok (.iload_n 3, 1) := by decide +kernel
theorem dX9_lowOf_44 : decode cX9_lowOf 44 = .ok (.aload_n 0, 1) := by decide +kernel
theorem dX9_lowOf_45 : decode cX9_lowOf 45 = .ok (.getfield 52, 3) := by decide +kernel
theorem dX9_lowOf_48 : decode cX9_lowOf 48 = .ok (.iload_n 3, 1) := by decide +kernel
theorem dX9_lowOf_49 : decode cX9_lowOf 49 = .ok (.iaload, 1) := by decide +kernel
theorem dX9_lowOf_50 : decode cX9_lowOf 50 = .ok (.iload_n 3, 1) := by decide +kernel
theorem dX9_lowOf_51 : decode cX9_lowOf 51 = .ok (.iconst 1, 1) := by decide +kernel
theorem dX9_lowOf_52 : decode cX9_lowOf 52 = .ok (.isub, 1) := by decide +kernel
theorem dX9_lowOf_53 : decode cX9_lowOf 53 = .ok (.invokevirtual 230, 3) := by decide +kernel
theorem dX9_lowOf_56 : decode cX9_lowOf 56 = .ok (.invokevirtual 125, 3) := by decide +kernel
theorem dX9_lowOf_59 : decode cX9_lowOf 59 = .ok (.invokevirtual 125, 3) := by decide +kernel
theorem dX9_lowOf_62 : decode cX9_lowOf 62 = .ok (.istore_n 2, 1) := by decide +kernel
theorem dX9_lowOf_63 : decode cX9_lowOf 63 = .ok (.goto 78, 3) := by decide +kernel
theorem dX9_lowOf_66 : decode cX9_lowOf 66 = .ok (.aload_n 0, 1) := by decide +kernel
theorem dX9_lowOf_67 : decode cX9_lowOf 67 = .ok (.getfield 62, 3) := by decide +kernel
theorem dX9_lowOf_70 : decode cX9_lowOf 70 = .ok (.istore 4, 2) := by decide +kernel
theorem dX9_lowOf_72 : decode cX9_lowOf 72 = .ok (.iconst 0, 1) := by decide +kernel
theorem dX9_lowOf_73 : decode cX9_lowOf 73 = .ok (.istore 5, 2) := by decide +kernel
theorem dX9_lowOf_75 : decode cX9_lowOf 75 = .ok (.iload 5, 2) := by decide +kernel
theorem dX9_lowOf_77 : decode cX9_lowOf 77 = .ok (.aload_n 0, 1) := by decide +kernel
theorem dX9_lowOf_78 : decode cX9_lowOf 78 = .ok (.getfield 13, 3) := by decide +kernel
theorem dX9_lowOf_81 : decode cX9_lowOf 81 = .ok (.iload_n 3, 1) := by decide +kernel
theorem dX9_lowOf_82 : decode cX9_lowOf 82 = .ok (.iaload, 1) := by decide +kernel
theorem dX9_lowOf_83 : decode cX9_lowOf 83 = .ok (.if_icmp .ge 50, 3) := by decide +kernel
theorem dX9_lowOf_86 : decode cX9_lowOf 86 = .ok (.aload_n 0, 1) := by decide +kernel
theorem dX9_lowOf_87 : decode cX9_lowOf 87 = .ok (.aload_n 0, 1) := by decide +kernel
theorem dX9_lowOf_88 : decode cX9_lowOf 88 = .ok (.getfield 25, 3) := by decide +kernel
theorem dX9_lowOf_91 : decode cX9_lowOf 91 = .ok (.iconst 4, 1) := by decide +kernel
theorem dX9_lowOf_92 : decode cX9_lowOf 92 = .ok (.iload_n 3, 1) := by decide +kernel
theorem dX9_lowOf_93 : decode cX9_lowOf 93 = .ok (.imul, 1) := by decide +kernel
theorem dX9_lowOf_94 : decode cX9_lowOf 94 = .ok (.iload 5, 2) := by decide +kernel
theorem dX9_lowOf_96 : decode cX9_lowOf 96 = .ok (.iadd, 1) := by decide +kernel
theorem dX9_lowOf_97 : decode cX9_lowOf 97 = .ok (.iaload, 1) := by decide +kernel
theorem dX9_lowOf_98 : decode cX9_lowOf 98 = .ok (.aload_n 0, 1) := by decide +kernel
theorem dX9_lowOf_99 : decode cX9_lowOf 99 = .ok (.iload_n 3, 1) := by decide +kernel
theorem dX9_lowOf_100 : decode cX9_lowOf 100 = .ok (.iload 5, 2) := by decide +kernel
theorem dX9_lowOf_102 : decode cX9_lowOf 102 = .ok (.iload_n 1, 1) := by decide +kernel
theorem dX9_lowOf_103 : decode cX9_lowOf 103 = .ok (.invokevirtual 230, 3) := by decide +kernel
theorem dX9_lowOf_106 : decode cX9_lowOf 106 = .ok (.invokevirtual 125, 3) := by decide +kernel
theorem dX9_lowOf_109 : decode cX9_lowOf 109 = .ok (.istore 6, 2) := by decide +kernel
theorem dX9_lowOf_111 : decode cX9_lowOf 111 = .ok (.iload 6, 2) := by decide +kernel
theorem dX9_lowOf_113 : decode cX9_lowOf 113 = .ok (.iload 4, 2) := by decide +kernel
theorem dX9_lowOf_115 : decode cX9_lowOf 115 = .ok (.if_icmp .ge 8, 3) := by decide +kernel
theorem dX9_lowOf_118 : decode cX9_lowOf 118 = .ok (.iload 6, 2) := by decide +kernel
theorem dX9_lowOf_120 : decode cX9_lowOf 120 = .ok (.goto 5, 3) := by decide +kernel
theorem dX9_lowOf_123 : decode cX9_lowOf 123 = .ok (.iload 4, 2) := by decide +kernel
theorem dX9_lowOf_125 : decode cX9_lowOf 125 = .ok (.istore 4, 2) := by decide +kernel
theorem dX9_lowOf_127 : decode cX9_lowOf 127 = .ok (.iinc 5 1, 3) := by decide +kernel
theorem dX9_lowOf_130 : decode cX9_lowOf 130 = .ok (.goto (-55), 3) := by decide +kernel
theorem dX9_lowOf_133 : decode cX9_lowOf 133 = .ok (.aload_n 0, 1) := by decide +kernel
theorem dX9_lowOf_134 : decode cX9_lowOf 134 = .ok (.iload_n 2, 1) := by decide +kernel
theorem dX9_lowOf_135 : decode cX9_lowOf 135 = .ok (.iload 4, 2) := by decide +kernel
theorem dX9_lowOf_137 : decode cX9_lowOf 137 = .ok (.invokevirtual 125, 3) := by decide +kernel
theorem dX9_lowOf_140 : decode cX9_lowOf 140 = .ok (.istore_n 2, 1) := by decide +kernel
theorem dX9_lowOf_141 : decode cX9_lowOf 141 = .ok (.iinc 3 1, 3) := by decide +kernel
theorem dX9_lowOf_144 : decode cX9_lowOf 144 = .ok (.goto (-133), 3) := by decide +kernel
theorem dX9_lowOf_147 : decode cX9_lowOf 147 = .ok (.iload_n 2, 1) := by decide +kernel
theorem dX9_lowOf_148 : decode cX9_lowOf 148 = .ok (.ireturn, 1) := by decide +kernel
theorem dX9_tries_0 : decode cX9_tries 0 = .ok (.iconst 0, 1) := by decide +kernel
theorem dX9_tries_1 : decode cX9_tries 1 = .ok (.istore_n 1, 1) := by decide +kernel
theorem dX9_tries_2 : decode cX9_tries 2 = .ok (.aload_n 0, 1) := by decide +kernel
theorem dX9_tries_3 : decode cX9_tries 3 = .ok (.getfield 62, 3) := by decide +kernel
theorem dX9_tries_6 : decode cX9_tries 6 = .ok (.istore_n 2, 1) := by decide +kernel
theorem dX9_tries_7 : decode cX9_tries 7 = .ok (.iconst 0, 1) := by decide +kernel
theorem dX9_tries_8 : decode cX9_tries 8 = .ok (.istore_n 3, 1) := by decide +kernel
theorem dX9_tries_9 : decode cX9_tries 9 = .ok (.aload_n 0, 1) := by decide +kernel
theorem dX9_tries_10 : decode cX9_tries 10 = .ok (.getfield 52, 3) := by decide +kernel
theorem dX9_tries_13 : decode cX9_tries 13 = .ok (.iconst 0, 1) := by decide +kernel
theorem dX9_tries_14 : decode cX9_tries 14 = .ok (.iconst (-1), 1) := by decide +kernel
theorem dX9_tries_15 : decode cX9_tries 15 = .ok (.iastore, 1) := by decide +kernel
theorem dX9_tries_16 : decode cX9_tries 16 = .ok (.iload_n 3, 1) := by decide +kernel
theorem dX9_tries_17 : decode cX9_tries 17 = .ok (.ifCond .lt 85, 3) := by decide +kernel
theorem dX9_tries_20 : decode cX9_tries 20 = .ok (.aload_n 0, 1) := by decide +kernel
theorem dX9_tries_21 : decode cX9_tries 21 = .ok (.getfield 52, 3) := by decide +kernel
theorem dX9_tries_24 : decode cX9_tries 24 = .ok (.iload_n 3, 1) := by decide +kernel
theorem dX9_tries_25 : decode cX9_tries 25 = .ok (.dup2, 1) := by decide +kernel
theorem dX9_tries_26 : decode cX9_tries 26 = .ok (.iaload, 1) := by decide +kernel
theorem dX9_tries_27 : decode cX9_tries 27 = .ok (.iconst 1, 1) := by decide +kernel
theorem dX9_tries_28 : decode cX9_tries 28 = .ok (.iadd, 1) := by decide +kernel
theorem dX9_tries_29 : decode cX9_tries 29 = .ok (.iastore, 1) := by decide +kernel
theorem dX9_tries_30 : decode cX9_tries 30 = .ok (.aload_n 0, 1) := by decide +kernel
theorem dX9_tries_31 : decode cX9_tries 31 = .ok (.getfield 52, 3) := by decide +kernel
theorem dX9_tries_34 : decode cX9_tries 34 = .ok (.iload_n 3, 1) := by decide +kernel
theorem dX9_tries_35 : decode cX9_tries 35 = .ok (.iaload, 1) := by decide +kernel
theorem dX9_tries_36 : decode cX9_tries 36 = .ok (.aload_n 0, 1) := by decide +kernel
theorem dX9_tries_37 : decode cX9_tries 37 = .ok (.getfield 13, 3) := by decide +kernel
theorem dX9_tries_40 : decode cX9_tries 40 = .ok (.iload_n 3, 1) := by decide +kernel
theorem dX9_tries_41 : decode cX9_tries 41 = .ok (.iaload, 1) := by decide +kernel
theorem dX9_tries_42 : decode cX9_tries 42 = .ok (.if_icmp .ne 9, 3) := by decide +kernel
theorem dX9_tries_45 : decode cX9_tries 45 = .ok (.iinc 3 (-1), 3) := by decide +kernel
theorem dX9_tries_48 : decode cX9_tries 48 = .ok (.goto (-32), 3) := by decide +kernel
theorem dX9_tries_51 : decode cX9_tries 51 = .ok (.iinc 1 1, 3) := by decide +kernel
theorem dX9_tries_54 : decode cX9_tries 54 = .ok (.aload_n 0, 1) := by decide +kernel
theorem dX9_tries_55 : decode cX9_tries 55 = .ok (.iload_n 3, 1) := by decide +kernel
theorem dX9_tries_56 : decode cX9_tries 56 = .ok (.invokevirtual 233, 3) := by decide +kernel
theorem dX9_tries_59 : decode cX9_tries 59 = .ok (.istore 4, 2) := by decide +kernel
theorem dX9_tries_61 : decode cX9_tries 61 = .ok (.iload 4, 2) := by decide +kernel
theorem dX9_tries_63 : decode cX9_tries 63 = .ok (.iload_n 2, 1) := by decide +kernel
theorem dX9_tries_64 : decode cX9_tries 64 = .ok (.if_icmp .ge 19, 3) := by decide +kernel
theorem dX9_tries_67 : decode cX9_tries 67 = .ok (.iload_n 3, 1) := by decide +kernel
theorem dX9_tries_68 : decode cX9_tries 68 = .ok (.iconst 1, 1) := by decide +kernel
theorem dX9_tries_69 : decode cX9_tries 69 = .ok (.iadd, 1) := by decide +kernel
theorem dX9_tries_70 : decode cX9_tries 70 = .ok (.aload_n 0, 1) := by decide +kernel
theorem dX9_tries_71 : decode cX9_tries 71 = .ok (.getfield 58, 3) := by decide +kernel
theorem dX9_tries_74 : decode cX9_tries 74 = .ok (.if_icmp .ne 9, 3) := by decide +kernel
theorem dX9_tries_77 : decode cX9_tries 77 = .ok (.iload 4, 2) := by decide +kernel
theorem dX9_tries_79 : decode cX9_tries 79 = .ok (.istore_n 2, 1) := by decide +kernel
theorem dX9_tries_80 : decode cX9_tries 80 = .ok (.goto 19, 3) := by decide +kernel
theorem dX9_tries_83 : decode cX9_tries 83 = .ok (.iload 4, 2) := by decide +kernel
theorem dX9_tries_85 : decode cX9_tries 85 = .ok (.iload_n 2, 1) := by decide +kernel
theorem dX9_tries_86 : decode cX9_tries 86 = .ok (.if_icmp .ge 13, 3) := by decide +kernel
theorem dX9_tries_89 : decode cX9_tries 89 = .ok (.iinc 3 1, 3) := by decide +kernel
theorem dX9_tries_92 : decode cX9_tries 92 = .ok (.aload_n 0, 1) := by decide +kernel
theorem dX9_tries_93 : decode cX9_tries 93 = .ok (.getfield 52, 3) := by decide +kernel
theorem dX9_tries_96 : decode cX9_tries 96 = .ok (.iload_n 3, 1) := by decide +kernel
theorem dX9_tries_97 : decode cX9_tries 97 = .ok (.iconst (-1), 1) := by decide +kernel
theorem dX9_tries_98 : decode cX9_tries 98 = .ok (.iastore, 1) := by decide +kernel
theorem dX9_tries_99 : decode cX9_tries 99 = .ok (.goto (-83), 3) := by decide +kernel
theorem dX9_tries_102 : decode cX9_tries 102 = .ok (.iload_n 1, 1) := by decide +kernel
theorem dX9_tries_103 : decode cX9_tries 103 = .ok (.ireturn, 1) := by decide +kernel
theorem dX9_count_0 : decode cX9_count 0 = .ok (.iload_n 1, 1) := by decide +kernel
theorem dX9_count_1 : decode cX9_count 1 = .ok (.tableswitch 135 0 6 #[43, 48, 53, 58, 67, 125, 130], 43) := by decide +kernel
theorem dX9_count_44 : decode cX9_count 44 = .ok (.aload_n 0, 1) := by decide +kernel
theorem dX9_count_45 : decode cX9_count 45 = .ok (.getfield 58, 3) := by decide +kernel
theorem dX9_count_48 : decode cX9_count 48 = .ok (.ireturn, 1) := by decide +kernel
theorem dX9_count_49 : decode cX9_count 49 = .ok (.aload_n 0, 1) := by decide +kernel
theorem dX9_count_50 : decode cX9_count 50 = .ok (.getfield 65, 3) := by decide +kernel
theorem dX9_count_53 : decode cX9_count 53 = .ok (.ireturn, 1) := by decide +kernel
theorem dX9_count_54 : decode cX9_count 54 = .ok (.aload_n 0, 1) := by decide +kernel
theorem dX9_count_55 : decode cX9_count 55 = .ok (.getfield 62, 3) := by decide +kernel
theorem dX9_count_58 : decode cX9_count 58 = .ok (.ireturn, 1) := by decide +kernel
theorem dX9_count_59 : decode cX9_count 59 = .ok (.aload_n 0, 1) := by decide +kernel
theorem dX9_count_60 : decode cX9_count 60 = .ok (.getfield 25, 3) := by decide +kernel
theorem dX9_count_63 : decode cX9_count 63 = .ok (.sipush 168, 3) := by decide +kernel
theorem dX9_count_66 : decode cX9_count 66 = .ok (.iaload, 1) := by decide +kernel
theorem dX9_count_67 : decode cX9_count 67 = .ok (.ireturn, 1) := by decide +kernel
theorem dX9_count_68 : decode cX9_count 68 = .ok (.iconst 0, 1) := by decide +kernel
theorem dX9_count_69 : decode cX9_count 69 = .ok (.istore_n 2, 1) := by decide +kernel
theorem dX9_count_70 : decode cX9_count 70 = .ok (.iconst 0, 1) := by decide +kernel
theorem dX9_count_71 : decode cX9_count 71 = .ok (.istore_n 3, 1) := by decide +kernel
theorem dX9_count_72 : decode cX9_count 72 = .ok (.iload_n 3, 1) := by decide +kernel
theorem dX9_count_73 : decode cX9_count 73 = .ok (.aload_n 0, 1) := by decide +kernel
theorem dX9_count_74 : decode cX9_count 74 = .ok (.getfield 58, 3) := by decide +kernel
theorem dX9_count_77 : decode cX9_count 77 = .ok (.if_icmp .ge 47, 3) := by decide +kernel
theorem dX9_count_80 : decode cX9_count 80 = .ok (.iconst 0, 1) := by decide +kernel
theorem dX9_count_81 : decode cX9_count 81 = .ok (.istore 4, 2) := by decide +kernel
theorem dX9_count_83 : decode cX9_count 83 = .ok (.iload 4, 2) := by decide +kernel
theorem dX9_count_85 : decode cX9_count 85 = .ok (.aload_n 0, 1) := by decide +kernel
theorem dX9_count_86 : decode cX9_count 86 = .ok (.getfield 13, 3) := by decide +kernel
theorem dX9_count_89 : decode cX9_count 89 = .ok (.iload_n 3, 1) := by decide +kernel
theorem dX9_count_90 : decode cX9_count 90 = .ok (.iaload, 1) := by decide +kernel
theorem dX9_count_91 : decode cX9_count 91 = .ok (.if_icmp .ge 27, 3) := by decide +kernel
theorem dX9_count_94 : decode cX9_count 94 = .ok (.iload_n 2, 1) := by decide +kernel
theorem dX9_count_95 : decode cX9_count 95 = .ok (.aload_n 0, 1) := by decide +kernel
theorem dX9_count_96 : decode cX9_count 96 = .ok (.iload_n 3, 1) := by decide +kernel
theorem dX9_count_97 : decode cX9_count 97 = .ok (.iload 4, 2) := by decide +kernel
theorem dX9_count_99 : decode cX9_count 99 = .ok (.invokevirtual 138, 3) := by decide +kernel
theorem dX9_count_102 : decode cX9_count 102 = .ok (.ifCond .eq 7, 3) := by decide +kernel
theorem dX9_count_105 : decode cX9_count 105 = .ok (.iconst 1, 1) := by decide +kernel
theorem dX9_count_106 : decode cX9_count 106 = .ok (.goto 4, 3) := by decide +kernel
theorem dX9_count_109 : decode cX9_count 109 = .ok (.iconst 0, 1) := by decide +kernel
theorem dX9_count_110 : decode cX9_count 110 = .ok (.iadd, 1) := by decide +kernel
theorem dX9_count_111 : decode cX9_count 111 = .ok (.istore_n 2, 1) := by decide +kernel
theorem dX9_count_112 : decode cX9_count 112 = .ok (.iinc 4 1, 3) := by decide +kernel
theorem dX9_count_115 : decode cX9_count 115 = .ok (.goto (-32), 3) := by decide +kernel
theorem dX9_count_118 : decode cX9_count 118 = .ok (.iinc 3 1, 3) := by decide +kernel
theorem dX9_count_121 : decode cX9_count 121 = .ok (.goto (-49), 3) := by decide +kernel
theorem dX9_count_124 : decode cX9_count 124 = .ok (.iload_n 2, 1) := by decide +kernel
theorem dX9_count_125 : decode cX9_count 125 = .ok (.ireturn, 1) := by decide +kernel
theorem dX9_count_126 : decode cX9_count 126 = .ok (.aload_n 0, 1) := by decide +kernel
theorem dX9_count_127 : decode cX9_count 127 = .ok (.getfield 129, 3) := by decide +kernel
theorem dX9_count_130 : decode cX9_count 130 = .ok (.ireturn, 1) := by decide +kernel
theorem dX9_count_131 : decode cX9_count 131 = .ok (.aload_n 0, 1) := by decide +kernel
theorem dX9_count_132 : decode cX9_count 132 = .ok (.getfield 72, 3) := by decide +kernel
theorem dX9_count_135 : decode cX9_count 135 = .ok (.ireturn, 1) := by decide +kernel
theorem dX9_count_136 : decode cX9_count 136 = .ok (.iconst (-1), 1) := by decide +kernel
theorem dX9_count_137 : decode cX9_count 137 = .ok (.ireturn, 1) := by decide +kernel
