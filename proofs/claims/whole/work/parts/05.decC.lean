theorem dX0_init_0 : decode cX0_init 0 = .ok (.aload_n 0, 1) := by decide +kernel
theorem dX0_init_1 : decode cX0_init 1 = .ok (.invokespecial 1, 3) := by decide +kernel
theorem dX0_init_4 : decode cX0_init 4 = .ok (.aload_n 0, 1) := by decide +kernel
theorem dX0_init_5 : decode cX0_init 5 = .ok (.new 7, 3) := by decide +kernel
theorem dX0_init_8 : decode cX0_init 8 = .ok (.dup, 1) := by decide +kernel
theorem dX0_init_9 : decode cX0_init 9 = .ok (.invokespecial 9, 3) := by decide +kernel
theorem dX0_init_12 : decode cX0_init 12 = .ok (.putfield 10, 3) := by decide +kernel
theorem dX0_init_15 : decode cX0_init 15 = .ok (.aload_n 0, 1) := by decide +kernel
theorem dX0_init_16 : decode cX0_init 16 = .ok (.new 16, 3) := by decide +kernel
theorem dX0_init_19 : decode cX0_init 19 = .ok (.dup, 1) := by decide +kernel
theorem dX0_init_20 : decode cX0_init 20 = .ok (.invokespecial 18, 3) := by decide +kernel
theorem dX0_init_23 : decode cX0_init 23 = .ok (.putfield 19, 3) := by decide +kernel
theorem dX0_init_26 : decode cX0_init 26 = .ok (.aload_n 0, 1) := by decide +kernel
theorem dX0_init_27 : decode cX0_init 27 = .ok (.new 23, 3) := by decide +kernel
theorem dX0_init_30 : decode cX0_init 30 = .ok (.dup, 1) := by decide +kernel
theorem dX0_init_31 : decode cX0_init 31 = .ok (.invokespecial 25, 3) := by decide +kernel
theorem dX0_init_34 : decode cX0_init 34 = .ok (.putfield 26, 3) := by decide +kernel
theorem dX0_init_37 : decode cX0_init 37 = .ok (.aload_n 0, 1) := by decide +kernel
theorem dX0_init_38 : decode cX0_init 38 = .ok (.new 30, 3) := by decide +kernel
theorem dX0_init_41 : decode cX0_init 41 = .ok (.dup, 1) := by decide +kernel
theorem dX0_init_42 : decode cX0_init 42 = .ok (.invokespecial 32, 3) := by decide +kernel
theorem dX0_init_45 : decode cX0_init 45 = .ok (.putfield 33, 3) := by decide +kernel
theorem dX0_init_48 : decode cX0_init 48 = .ok (.aload_n 0, 1) := by decide +kernel
theorem dX0_init_49 : decode cX0_init 49 = .ok (.new 37, 3) := by decide +kernel
theorem dX0_init_52 : decode cX0_init 52 = .ok (.dup, 1) := by decide +kernel
theorem dX0_init_53 : decode cX0_init 53 = .ok (.aload_n 0, 1) := by decide +kernel
theorem dX0_init_54 : decode cX0_init 54 = .ok (.getfield 10, 3) := by decide +kernel
theorem dX0_init_57 : decode cX0_init 57 = .ok (.aload_n 0, 1) := by decide +kernel
theorem dX0_init_58 : decode cX0_init 58 = .ok (.getfield 19, 3) := by decide +kernel
theorem dX0_init_61 : decode cX0_init 61 = .ok (.aload_n 0, 1) := by decide +kernel
theorem dX0_init_62 : decode cX0_init 62 = .ok (.getfield 26, 3) := by decide +kernel
theorem dX0_init_65 : decode cX0_init 65 = .ok (.aload_n 0, 1) := by decide +kernel
theorem dX0_init_66 : decode cX0_init 66 = .ok (.getfield 33, 3) := by decide +kernel
theorem dX0_init_69 : decode cX0_init 69 = .ok (.invokespecial 39, 3) := by decide +kernel
theorem dX0_init_72 : decode cX0_init 72 = .ok (.putfield 42, 3) := by decide +kernel
theorem dX0_init_75 : decode cX0_init 75 = .ok (.return_, 1) := by decide +kernel
theorem dX0_triple_0 : decode cX0_triple 0 = .ok (.iload_n 1, 1) := by decide +kernel
theorem dX0_triple_1 : decode cX0_triple 1 = .ok (.iload_n 2, 1) := by decide +kernel
theorem dX0_triple_2 : decode cX0_triple 2 = .ok (.iload_n 3, 1) := by decide +kernel
theorem dX0_triple_3 : decode cX0_triple 3 = .ok (.invokestatic 46, 3) := by decide +kernel
theorem dX0_triple_6 : decode cX0_triple 6 = .ok (.ifCond .ne 5, 3) := by decide +kernel
theorem dX0_triple_9 : decode cX0_triple 9 = .ok (.iconst (-1), 1) := by decide +kernel
theorem dX0_triple_10 : decode cX0_triple 10 = .ok (.ireturn, 1) := by decide +kernel
theorem dX0_triple_11 : decode cX0_triple 11 = .ok (.aload_n 0, 1) := by decide +kernel
theorem dX0_triple_12 : decode cX0_triple 12 = .ok (.getfield 10, 3) := by decide +kernel
theorem dX0_triple_15 : decode cX0_triple 15 = .ok (.iload_n 1, 1) := by decide +kernel
theorem dX0_triple_16 : decode cX0_triple 16 = .ok (.iload_n 2, 1) := by decide +kernel
theorem dX0_triple_17 : decode cX0_triple 17 = .ok (.iload_n 3, 1) := by decide +kernel
theorem dX0_triple_18 : decode cX0_triple 18 = .ok (.invokevirtual 50, 3) := by decide +kernel
theorem dX0_triple_21 : decode cX0_triple 21 = .ok (.ifCond .eq 5, 3) := by decide +kernel
theorem dX0_triple_24 : decode cX0_triple 24 = .ok (.iconst 0, 1) := by decide +kernel
theorem dX0_triple_25 : decode cX0_triple 25 = .ok (.ireturn, 1) := by decide +kernel
theorem dX0_triple_26 : decode cX0_triple 26 = .ok (.aload_n 0, 1) := by decide +kernel
theorem dX0_triple_27 : decode cX0_triple 27 = .ok (.getfield 10, 3) := by decide +kernel
theorem dX0_triple_30 : decode cX0_triple 30 = .ok (.getfield 53, 3) := by decide +kernel
theorem dX0_triple_33 : decode cX0_triple 33 = .ok (.bipush 100, 2) := by decide +kernel
theorem dX0_triple_35 : decode cX0_triple 35 = .ok (.if_icmp .lt 6, 3) := by decide +kernel
theorem dX0_triple_38 : decode cX0_triple 38 = .ok (.bipush (-3), 2) := by decide +kernel
theorem dX0_triple_40 : decode cX0_triple 40 = .ok (.ireturn, 1) := by decide +kernel
theorem dX0_triple_41 : decode cX0_triple 41 = .ok (.aload_n 0, 1) := by decide +kernel
theorem dX0_triple_42 : decode cX0_triple 42 = .ok (.getfield 10, 3) := by decide +kernel
theorem dX0_triple_45 : decode cX0_triple 45 = .ok (.iload_n 1, 1) := by decide +kernel
theorem dX0_triple_46 : decode cX0_triple 46 = .ok (.iload_n 2, 1) := by decide +kernel
theorem dX0_triple_47 : decode cX0_triple 47 = .ok (.iload_n 3, 1) := by decide +kernel
theorem dX0_triple_48 : decode cX0_triple 48 = .ok (.invokevirtual 57, 3) := by decide +kernel
theorem dX0_triple_51 : decode cX0_triple 51 = .ok (.aload_n 0, 1) := by decide +kernel
theorem dX0_triple_52 : decode cX0_triple 52 = .ok (.getfield 42, 3) := by decide +kernel
theorem dX0_triple_55 : decode cX0_triple 55 = .ok (.iconst 0, 1) := by decide +kernel
theorem dX0_triple_56 : decode cX0_triple 56 = .ok (.putfield 61, 3) := by decide +kernel
theorem dX0_triple_59 : decode cX0_triple 59 = .ok (.iconst 1, 1) := by decide +kernel
theorem dX0_triple_60 : decode cX0_triple 60 = .ok (.ireturn, 1) := by decide +kernel
theorem dX0_drop_0 : decode cX0_drop 0 = .ok (.iload_n 1, 1) := by decide +kernel
theorem dX0_drop_1 : decode cX0_drop 1 = .ok (.iload_n 2, 1) := by decide +kernel
theorem dX0_drop_2 : decode cX0_drop 2 = .ok (.iload_n 3, 1) := by decide +kernel
theorem dX0_drop_3 : decode cX0_drop 3 = .ok (.invokestatic 46, 3) := by decide +kernel
theorem dX0_drop_6 : decode cX0_drop 6 = .ok (.ifCond .ne 5, 3) := by decide +kernel
theorem dX0_drop_9 : decode cX0_drop 9 = .ok (.iconst (-1), 1) := by decide +kernel
theorem dX0_drop_10 : decode cX0_drop 10 = .ok (.ireturn, 1) := by decide +kernel
theorem dX0_drop_11 : decode cX0_drop 11 = .ok (.aload_n 0, 1) := by decide +kernel
theorem dX0_drop_12 : decode cX0_drop 12 = .ok (.getfield 10, 3) := by decide +kernel
theorem dX0_drop_15 : decode cX0_drop 15 = .ok (.iload_n 1, 1) := by decide +kernel
theorem dX0_drop_16 : decode cX0_drop 16 = .ok (.iload_n 2, 1) := by decide +kernel
theorem dX0_drop_17 : decode cX0_drop 17 = .ok (.iload_n 3, 1) := by decide +kernel
theorem dX0_drop_18 : decode cX0_drop 18 = .ok (.invokevirtual 50, 3) := by decide +kernel
theorem dX0_drop_21 : decode cX0_drop 21 = .ok (.ifCond .ne 5, 3) := by decide +kernel
theorem dX0_drop_24 : decode cX0_drop 24 = .ok (.iconst 0, 1) := by decide +kernel
theorem dX0_drop_25 : decode cX0_drop 25 = .ok (.ireturn, 1) := by decide +kernel
theorem dX0_drop_26 : decode cX0_drop 26 = .ok (.aload_n 0, 1) := by decide +kernel
theorem dX0_drop_27 : decode cX0_drop 27 = .ok (.getfield 10, 3) := by decide +kernel
theorem dX0_drop_30 : decode cX0_drop 30 = .ok (.iload_n 1, 1) := by decide +kernel
theorem dX0_drop_31 : decode cX0_drop 31 = .ok (.iload_n 2, 1) := by decide +kernel
theorem dX0_drop_32 : decode cX0_drop 32 = .ok (.iload_n 3, 1) := by decide +kernel
theorem dX0_drop_33 : decode cX0_drop 33 = .ok (.invokevirtual 65, 3) := by decide +kernel
theorem dX0_drop_36 : decode cX0_drop 36 = .ok (.aload_n 0, 1) := by decide +kernel
theorem dX0_drop_37 : decode cX0_drop 37 = .ok (.getfield 42, 3) := by decide +kernel
theorem dX0_drop_40 : decode cX0_drop 40 = .ok (.iconst 0, 1) := by decide +kernel
theorem dX0_drop_41 : decode cX0_drop 41 = .ok (.putfield 61, 3) := by decide +kernel
theorem dX0_drop_44 : decode cX0_drop 44 = .ok (.iconst 1, 1) := by decide +kernel
theorem dX0_drop_45 : decode cX0_drop 45 = .ok (.ireturn, 1) := by decide +kernel
theorem dX0_shape_0 : decode cX0_shape 0 = .ok (.iload_n 1, 1) := by decide +kernel
theorem dX0_shape_1 : decode cX0_shape 1 = .ok (.iconst (-1), 1) := by decide +kernel
theorem dX0_shape_2 : decode cX0_shape 2 = .ok (.if_icmp .lt 9, 3) := by decide +kernel
theorem dX0_shape_5 : decode cX0_shape 5 = .ok (.iload_n 1, 1) := by decide +kernel
theorem dX0_shape_6 : decode cX0_shape 6 = .ok (.bipush 16, 2) := by decide +kernel
theorem dX0_shape_8 : decode cX0_shape 8 = .ok (.if_icmp .lt 5, 3) := by decide +kernel
theorem dX0_shape_11 : decode cX0_shape 11 = .ok (.iconst (-1), 1) := by decide +kernel
theorem dX0_shape_12 : decode cX0_shape 12 = .ok (.ireturn, 1) := by decide +kernel
theorem dX0_shape_13 : decode cX0_shape 13 = .ok (.aload_n 0, 1) := by decide +kernel
theorem dX0_shape_14 : decode cX0_shape 14 = .ok (.getfield 19, 3) := by decide +kernel
theorem dX0_shape_17 : decode cX0_shape 17 = .ok (.getfield 68, 3) := by decide +kernel
theorem dX0_shape_20 : decode cX0_shape 20 = .ok (.bipush 12, 2) := by decide +kernel
theorem dX0_shape_22 : decode cX0_shape 22 = .ok (.if_icmp .lt 6, 3) := by decide +kernel
theorem dX0_shape_25 : decode cX0_shape 25 = .ok (.bipush (-3), 2) := by decide +kernel
theorem dX0_shape_27 : decode cX0_shape 27 = .ok (.ireturn, 1) := by decide +kernel
theorem dX0_shape_28 : decode cX0_shape 28 = .ok (.aload_n 0, 1) := by decide +kernel
theorem dX0_shape_29 : decode cX0_shape 29 = .ok (.getfield 42, 3) := by decide +kernel
theorem dX0_shape_32 : decode cX0_shape 32 = .ok (.iconst 0, 1) := by decide +kernel
theorem dX0_shape_33 : decode cX0_shape 33 = .ok (.putfield 61, 3) := by decide +kernel
theorem dX0_shape_36 : decode cX0_shape 36 = .ok (.aload_n 0, 1) := by decide +kernel
theorem dX0_shape_37 : decode cX0_shape 37 = .ok (.getfield 19, 3) := by decide +kernel
theorem dX0_shape_40 : decode cX0_shape 40 = .ok (.iload_n 1, 1) := by decide +kernel
theorem dX0_shape_41 : decode cX0_shape 41 = .ok (.invokevirtual 69, 3) := by decide +kernel
theorem dX0_shape_44 : decode cX0_shape 44 = .ok (.ireturn, 1) := by decide +kernel
theorem dX0_severity_0 : decode cX0_severity 0 = .ok (.aload_n 0, 1) := by decide +kernel
theorem dX0_severity_1 : decode cX0_severity 1 = .ok (.getfield 19, 3) := by decide +kernel
theorem dX0_severity_4 : decode cX0_severity 4 = .ok (.iload_n 1, 1) := by decide +kernel
theorem dX0_severity_5 : decode cX0_severity 5 = .ok (.invokevirtual 73, 3) := by decide +kernel
theorem dX0_severity_8 : decode cX0_severity 8 = .ok (.ifCond .eq 12, 3) := by decide +kernel
theorem dX0_severity_11 : decode cX0_severity 11 = .ok (.iload_n 2, 1) := by decide +kernel
theorem dX0_severity_12 : decode cX0_severity 12 = .ok (.iconst 0, 1) := by decide +kernel
theorem dX0_severity_13 : decode cX0_severity 13 = .ok (.iconst 2, 1) := by decide +kernel
theorem dX0_severity_14 : decode cX0_severity 14 = .ok (.invokestatic 76, 3) := by decide +kernel
theorem dX0_severity_17 : decode cX0_severity 17 = .ok (.ifCond .ne 5, 3) := by decide +kernel
theorem dX0_severity_20 : decode cX0_severity 20 = .ok (.iconst (-1), 1) := by decide +kernel
theorem dX0_severity_21 : decode cX0_severity 21 = .ok (.ireturn, 1) := by decide +kernel
theorem dX0_severity_22 : decode cX0_severity 22 = .ok (.aload_n 0, 1) := by decide +kernel
theorem dX0_severity_23 : decode cX0_severity 23 = .ok (.getfield 19, 3) := by decide +kernel
theorem dX0_severity_26 : decode cX0_severity 26 = .ok (.iload_n 1, 1) := by decide +kernel
theorem dX0_severity_27 : decode cX0_severity 27 = .ok (.invokevirtual 79, 3) := by decide +kernel
theorem dX0_severity_30 : decode cX0_severity 30 = .ok (.iload_n 2, 1) := by decide +kernel
theorem dX0_severity_31 : decode cX0_severity 31 = .ok (.if_icmp .ne 5, 3) := by decide +kernel
theorem dX0_severity_34 : decode cX0_severity 34 = .ok (.iconst 0, 1) := by decide +kernel
theorem dX0_severity_35 : decode cX0_severity 35 = .ok (.ireturn, 1) := by decide +kernel
theorem dX0_severity_36 : decode cX0_severity 36 = .ok (.aload_n 0, 1) := by decide +kernel
theorem dX0_severity_37 : decode cX0_severity 37 = .ok (.getfield 19, 3) := by decide +kernel
theorem dX0_severity_40 : decode cX0_severity 40 = .ok (.getfield 82, 3) := by decide +kernel
theorem dX0_severity_43 : decode cX0_severity 43 = .ok (.iload_n 1, 1) := by decide +kernel
theorem dX0_severity_44 : decode cX0_severity 44 = .ok (.iload_n 2, 1) := by decide +kernel
theorem dX0_severity_45 : decode cX0_severity 45 = .ok (.iastore, 1) := by decide +kernel
theorem dX0_severity_46 : decode cX0_severity 46 = .ok (.iconst 1, 1) := by decide +kernel
theorem dX0_severity_47 : decode cX0_severity 47 = .ok (.ireturn, 1) := by decide +kernel
theorem dX0_target_0 : decode cX0_target 0 = .ok (.aload_n 0, 1) := by decide +kernel
theorem dX0_target_1 : decode cX0_target 1 = .ok (.getfield 19, 3) := by decide +kernel
theorem dX0_target_4 : decode cX0_target 4 = .ok (.iload_n 1, 1) := by decide +kernel
theorem dX0_target_5 : decode cX0_target 5 = .ok (.invokevirtual 73, 3) := by decide +kernel
theorem dX0_target_8 : decode cX0_target 8 = .ok (.ifCond .eq 11, 3) := by decide +kernel
theorem dX0_target_11 : decode cX0_target 11 = .ok (.iload_n 2, 1) := by decide +kernel
theorem dX0_target_12 : decode cX0_target 12 = .ok (.iload_n 3, 1) := by decide +kernel
theorem dX0_target_13 : decode cX0_target 13 = .ok (.invokestatic 86, 3) := by decide +kernel
theorem dX0_target_16 : decode cX0_target 16 = .ok (.ifCond .ne 5, 3) := by decide +kernel
theorem dX0_target_19 : decode cX0_target 19 = .ok (.iconst (-1), 1) := by decide +kernel
theorem dX0_target_20 : decode cX0_target 20 = .ok (.ireturn, 1) := by decide +kernel
theorem dX0_target_21 : decode cX0_target 21 = .ok (.aload_n 0, 1) := by decide +kernel
theorem dX0_target_22 : decode cX0_target 22 = .ok (.getfield 26, 3) := by decide +kernel
theorem dX0_target_25 : decode cX0_target 25 = .ok (.getfield 90, 3) := by decide +kernel
theorem dX0_target_28 : decode cX0_target 28 = .ok (.bipush 24, 2) := by decide +kernel
theorem dX0_target_30 : decode cX0_target 30 = .ok (.if_icmp .lt 6, 3) := by decide +kernel
theorem dX0_target_33 : decode cX0_target 33 = .ok (.bipush (-3), 2) := by decide +kernel
theorem dX0_target_35 : decode cX0_target 35 = .ok (.ireturn, 1) := by decide +kernel
theorem dX0_target_36 : decode cX0_target 36 = .ok (.aload_n 0, 1) := by decide +kernel
theorem dX0_target_37 : decode cX0_target 37 = .ok (.getfield 26, 3) := by decide +kernel
theorem dX0_target_40 : decode cX0_target 40 = .ok (.iload_n 1, 1) := by decide +kernel
theorem dX0_target_41 : decode cX0_target 41 = .ok (.iload_n 2, 1) := by decide +kernel
theorem dX0_target_42 : decode cX0_target 42 = .ok (.iload_n 3, 1) := by decide +kernel
theorem dX0_target_43 : decode cX0_target 43 = .ok (.invokevirtual 91, 3) := by decide +kernel
theorem dX0_target_46 : decode cX0_target 46 = .ok (.aload_n 0, 1) := by decide +kernel
theorem dX0_target_47 : decode cX0_target 47 = .ok (.getfield 42, 3) := by decide +kernel
theorem dX0_target_50 : decode cX0_target 50 = .ok (.iconst 0, 1) := by decide +kernel
theorem dX0_target_51 : decode cX0_target 51 = .ok (.putfield 61, 3) := by decide +kernel
theorem dX0_target_54 : decode cX0_target 54 = .ok (.aload_n 0, 1) := by decide +kernel
theorem dX0_target_55 : decode cX0_target 55 = .ok (.getfield 26, 3) := by decide +kernel
theorem dX0_target_58 : decode cX0_target 58 = .ok (.getfield 90, 3) := by decide +kernel
theorem dX0_target_61 : decode cX0_target 61 = .ok (.ireturn, 1) := by decide +kernel
theorem dX0_constraint_0 : decode cX0_constraint 0 = .ok (.aload_n 0, 1) := by decide +kernel
theorem dX0_constraint_1 : decode cX0_constraint 1 = .ok (.getfield 19, 3) := by decide +kernel
theorem dX0_constraint_4 : decode cX0_constraint 4 = .ok (.iload_n 1, 1) := by decide +kernel
theorem dX0_constraint_5 : decode cX0_constraint 5 = .ok (.invokevirtual 73, 3) := by decide +kernel
theorem dX0_constraint_8 : decode cX0_constraint 8 = .ok (.ifCond .eq 14, 3) := by decide +kernel
theorem dX0_constraint_11 : decode cX0_constraint 11 = .ok (.aload_n 0, 1) := by decide +kernel
theorem dX0_constraint_12 : decode cX0_constraint 12 = .ok (.iload_n 2, 1) := by decide +kernel
theorem dX0_constraint_13 : decode cX0_constraint 13 = .ok (.iload_n 3, 1) := by decide +kernel
theorem dX0_constraint_14 : decode cX0_constraint 14 = .ok (.iload 4, 2) := by decide +kernel
theorem dX0_constraint_16 : decode cX0_constraint 16 = .ok (.invokevirtual 93, 3) := by decide +kernel
theorem dX0_constraint_19 : decode cX0_constraint 19 = .ok (.ifCond .ne 5, 3) := by decide +kernel
theorem dX0_constraint_22 : decode cX0_constraint 22 = .ok (.iconst (-1), 1) := by decide +kernel
theorem dX0_constraint_23 : decode cX0_constraint 23 = .ok (.ireturn, 1) := by decide +kernel
theorem dX0_constraint_24 : decode cX0_constraint 24 = .ok (.iload_n 2, 1) := by decide +kernel
theorem dX0_constraint_25 : decode cX0_constraint 25 = .ok (.invokestatic 96, 3) := by decide +kernel
theorem dX0_constraint_28 : decode cX0_constraint 28 = .ok (.istore 5, 2) := by decide +kernel
theorem dX0_constraint_30 : decode cX0_constraint 30 = .ok (.iload_n 2, 1) := by decide +kernel
theorem dX0_constraint_31 : decode cX0_constraint 31 = .ok (.invokestatic 99, 3) := by decide +kernel
theorem dX0_constraint_34 : decode cX0_constraint 34 = .ok (.istore 6, 2) := by decide +kernel
theorem dX0_constraint_36 : decode cX0_constraint 36 = .ok (.iload 5, 2) := by decide +kernel
theorem dX0_constraint_38 : decode cX0_constraint 38 = .ok (.ifCond .eq 15, 3) := by decide +kernel
theorem dX0_constraint_41 : decode cX0_constraint 41 = .ok (.aload_n 0, 1) := by decide +kernel
theorem dX0_constraint_42 : decode cX0_constraint 42 = .ok (.getfield 19, 3) := by decide +kernel
theorem dX0_constraint_45 : decode cX0_constraint 45 = .ok (.iload_n 3, 1) := by decide +kernel
theorem dX0_constraint_46 : decode cX0_constraint 46 = .ok (.iload_n 1, 1) := by decide +kernel
theorem dX0_constraint_47 : decode cX0_constraint 47 = .ok (.invokevirtual 102, 3) := by decide +kernel
theorem dX0_constraint_50 : decode cX0_constraint 50 = .ok (.ifCond .ne 21, 3) := by decide +kernel
theorem dX0_constraint_53 : decode cX0_constraint 53 = .ok (.iload 6, 2) := by decide +kernel
theorem dX0_constraint_55 : decode cX0_constraint 55 = .ok (.ifCond .eq 19, 3) := by decide +kernel
theorem dX0_constraint_58 : decode cX0_constraint 58 = .ok (.aload_n 0, 1) := by decide +kernel
theorem dX0_constraint_59 : decode cX0_constraint 59 = .ok (.getfield 19, 3) := by decide +kernel
theorem dX0_constraint_62 : decode cX0_constraint 62 = .ok (.iload 4, 2) := by decide +kernel
theorem dX0_constraint_64 : decode cX0_constraint 64 = .ok (.iload_n 1, 1) := by decide +kernel
theorem dX0_constraint_65 : decode cX0_constraint 65 = .ok (.invokevirtual 102, 3) := by decide +kernel
theorem dX0_constraint_68 : decode cX0_constraint 68 = .ok (.ifCond .eq 6, 3) := by decide +kernel
theorem dX0_constraint_71 : decode cX0_constraint 71 = .ok (.bipush (-2), 2) := by decide +kernel
theorem dX0_constraint_73 : decode cX0_constraint 73 = .ok (.ireturn, 1) := by decide +kernel
theorem dX0_constraint_74 : decode cX0_constraint 74 = .ok (.aload_n 0, 1) := by decide +kernel
theorem dX0_constraint_75 : decode cX0_constraint 75 = .ok (.getfield 33, 3) := by decide +kernel
theorem dX0_constraint_78 : decode cX0_constraint 78 = .ok (.getfield 105, 3) := by decide +kernel
theorem dX0_constraint_81 : decode cX0_constraint 81 = .ok (.bipush 40, 2) := by decide +kernel
theorem dX0_constraint_83 : decode cX0_constraint 83 = .ok (.if_icmp .lt 6, 3) := by decide +kernel
theorem dX0_constraint_86 : decode cX0_constraint 86 = .ok (.bipush (-3), 2) := by decide +kernel
theorem dX0_constraint_88 : decode cX0_constraint 88 = .ok (.ireturn, 1) := by decide +kernel
theorem dX0_constraint_89 : decode cX0_constraint 89 = .ok (.iload 5, 2) := by decide +kernel
theorem dX0_constraint_91 : decode cX0_constraint 91 = .ok (.ifCond .eq 12, 3) := by decide +kernel
theorem dX0_constraint_94 : decode cX0_constraint 94 = .ok (.aload_n 0, 1) := by decide +kernel
theorem dX0_constraint_95 : decode cX0_constraint 95 = .ok (.getfield 19, 3) := by decide +kernel
theorem dX0_constraint_98 : decode cX0_constraint 98 = .ok (.iload_n 1, 1) := by decide +kernel
theorem dX0_constraint_99 : decode cX0_constraint 99 = .ok (.iload_n 3, 1) := by decide +kernel
theorem dX0_constraint_100 : decode cX0_constraint 100 = .ok (.invokevirtual 106, 3) := by decide +kernel
theorem dX0_constraint_103 : decode cX0_constraint 103 = .ok (.iload 6, 2) := by decide +kernel
theorem dX0_constraint_105 : decode cX0_constraint 105 = .ok (.ifCond .eq 13, 3) := by decide +kernel
theorem dX0_constraint_108 : decode cX0_constraint 108 = .ok (.aload_n 0, 1) := by decide +kernel
theorem dX0_constraint_109 : decode cX0_constraint 109 = .ok (.getfield 19, 3) := by decide +kernel
theorem dX0_constraint_112 : decode cX0_constraint 112 = .ok (.iload_n 1, 1) := by decide +kernel
theorem dX0_constraint_113 : decode cX0_constraint 113 = .ok (.iload 4, 2) := by decide +kernel
theorem dX0_constraint_115 : decode cX0_constraint 115 = .ok (.invokevirtual 106, 3) := by decide +kernel
theorem dX0_constraint_118 : decode cX0_constraint 118 = .ok (.aload_n 0, 1) := by decide +kernel
theorem dX0_constraint_119 : decode cX0_constraint 119 = .ok (.getfield 42, 3) := by decide +kernel
theorem dX0_constraint_122 : decode cX0_constraint 122 = .ok (.iconst 0, 1) := by decide +kernel
theorem dX0_constraint_123 : decode cX0_constraint 123 = .ok (.putfield 61, 3) := by decide +kernel
theorem dX0_constraint_126 : decode cX0_constraint 126 = .ok (.aload_n 0, 1) := by decide +kernel
theorem dX0_constraint_127 : decode cX0_constraint 127 = .ok (.getfield 33, 3) := by decide +kernel
theorem dX0_constraint_130 : decode cX0_constraint 130 = .ok (.iload_n 1, 1) := by decide +kernel
theorem dX0_constraint_131 : decode cX0_constraint 131 = .ok (.iload_n 2, 1) := by decide +kernel
theorem dX0_constraint_132 : decode cX0_constraint 132 = .ok (.iload_n 3, 1) := by decide +kernel
theorem dX0_constraint_133 : decode cX0_constraint 133 = .ok (.iload 4, 2) := by decide +kernel
theorem dX0_constraint_135 : decode cX0_constraint 135 = .ok (.invokevirtual 110, 3) := by decide +kernel
theorem dX0_constraint_138 : decode cX0_constraint 138 = .ok (.ireturn, 1) := by decide +kernel
theorem dX0_run_0 : decode cX0_run 0 = .ok (.aload_n 0, 1) := by decide +kernel
theorem dX0_run_1 : decode cX0_run 1 = .ok (.getfield 42, 3) := by decide +kernel
theorem dX0_run_4 : decode cX0_run 4 = .ok (.invokevirtual 113, 3) := by decide +kernel
theorem dX0_run_7 : decode cX0_run 7 = .ok (.aload_n 0, 1) := by decide +kernel
theorem dX0_run_8 : decode cX0_run 8 = .ok (.getfield 42, 3) := by decide +kernel
theorem dX0_run_11 : decode cX0_run 11 = .ok (.getfield 116, 3) := by decide +kernel
theorem dX0_run_14 : decode cX0_run 14 = .ok (.sipush 250, 3) := by decide +kernel
theorem dX0_run_17 : decode cX0_run 17 = .ok (.if_icmp .le 8, 3) := by decide +kernel
theorem dX0_run_20 : decode cX0_run 20 = .ok (.bipush (-4), 2) := by decide +kernel
theorem dX0_run_22 : decode cX0_run 22 = .ok (.goto 10, 3) := by decide +kernel
theorem dX0_run_25 : decode cX0_run 25 = .ok (.aload_n 0, 1) := by decide +kernel
theorem dX0_run_26 : decode cX0_run 26 = .ok (.getfield 42, 3) := by decide +kernel
theorem dX0_run_29 : decode cX0_run 29 = .ok (.getfield 116, 3) := by decide +kernel
theorem dX0_run_32 : decode cX0_run 32 = .ok (.ireturn, 1) := by decide +kernel
theorem dX0_result_0 : decode cX0_result 0 = .ok (.iload_n 2, 1) := by decide +kernel
theorem dX0_result_1 : decode cX0_result 1 = .ok (.iconst 0, 1) := by decide +kernel
theorem dX0_result_2 : decode cX0_result 2 = .ok (.iconst 3, 1) := by decide +kernel
theorem dX0_result_3 : decode cX0_result 3 = .ok (.invokestatic 76, 3) := by decide +kernel
theorem dX0_result_6 : decode cX0_result 6 = .ok (.ifCond .ne 5, 3) := by decide +kernel
theorem dX0_result_9 : decode cX0_result 9 = .ok (.iconst (-1), 1) := by decide +kernel
theorem dX0_result_10 : decode cX0_result 10 = .ok (.ireturn, 1) := by decide +kernel
theorem dX0_result_11 : decode cX0_result 11 = .ok (.aload_n 0, 1) := by decide +kernel
theorem dX0_result_12 : decode cX0_result 12 = .ok (.getfield 42, 3) := by decide +kernel
theorem dX0_result_15 : decode cX0_result 15 = .ok (.invokevirtual 113, 3) := by decide +kernel
theorem dX0_result_18 : decode cX0_result 18 = .ok (.aload_n 0, 1) := by decide +kernel
theorem dX0_result_19 : decode cX0_result 19 = .ok (.getfield 42, 3) := by decide +kernel
theorem dX0_result_22 : decode cX0_result 22 = .ok (.getfield 116, 3) := by decide +kernel
theorem dX0_result_25 : decode cX0_result 25 = .ok (.sipush 250, 3) := by decide +kernel
theorem dX0_result_28 : decode cX0_result 28 = .ok (.if_icmp .le 6, 3) := by decide +kernel
theorem dX0_result_31 : decode cX0_result 31 = .ok (.bipush (-4), 2) := by decide +kernel
theorem dX0_result_33 : decode cX0_result 33 = .ok (.ireturn, 1) := by decide +kernel
theorem dX0_result_34 : decode cX0_result 34 = .ok (.iload_n 1, 1) := by decide +kernel
theorem dX0_result_35 : decode cX0_result 35 = .ok (.ifCond .lt 14, 3) := by decide +kernel
theorem dX0_result_38 : decode cX0_result 38 = .ok (.iload_n 1, 1) := by decide +kernel
theorem dX0_result_39 : decode cX0_result 39 = .ok (.aload_n 0, 1) := by decide +kernel
theorem dX0_result_40 : decode cX0_result 40 = .ok (.getfield 42, 3) := by decide +kernel
theorem dX0_result_43 : decode cX0_result 43 = .ok (.getfield 116, 3) := by decide +kernel
theorem dX0_result_46 : decode cX0_result 46 = .ok (.if_icmp .lt 6, 3) := by decide +kernel
theorem dX0_result_49 : decode cX0_result 49 = .ok (.bipush (-2), 2) := by decide +kernel
theorem dX0_result_51 : decode cX0_result 51 = .ok (.ireturn, 1) := by decide +kernel
theorem dX0_result_52 : decode cX0_result 52 = .ok (.iload_n 2, 1) := by decide +kernel
theorem dX0_result_53 : decode cX0_result 53 = .ok (.tableswitch 57 0 2 #[27, 37, 47], 27) := by decide +kernel
theorem dX0_result_80 : decode cX0_result 80 = .ok (.aload_n 0, 1) := by decide +kernel
theorem dX0_result_81 : decode cX0_result 81 = .ok (.getfield 42, 3) := by decide +kernel
theorem dX0_result_84 : decode cX0_result 84 = .ok (.getfield 117, 3) := by decide +kernel
theorem dX0_result_87 : decode cX0_result 87 = .ok (.iload_n 1, 1) := by decide +kernel
theorem dX0_result_88 : decode cX0_result 88 = .ok (.iaload, 1) := by decide +kernel
theorem dX0_result_89 : decode cX0_result 89 = .ok (.ireturn, 1) := by decide +kernel
theorem dX0_result_90 : decode cX0_result 90 = .ok (.aload_n 0, 1) := by decide +kernel
theorem dX0_result_91 : decode cX0_result 91 = .ok (.getfield 42, 3) := by decide +kernel
theorem dX0_result_94 : decode cX0_result 94 = .ok (.getfield 120, 3) := by decide +kernel
theorem dX0_result_97 : decode cX0_result 97 = .ok (.iload_n 1, 1) := by decide +kernel
theorem dX0_result_98 : decode cX0_result 98 = .ok (.iaload, 1) := by decide +kernel
theorem dX0_result_99 : decode cX0_result 99 = .ok (.ireturn, 1) := by decide +kernel
theorem dX0_result_100 : decode cX0_result 100 = .ok (.aload_n 0, 1) := by decide +kernel
theorem dX0_result_101 : decode cX0_result 101 = .ok (.getfield 42, 3) := by decide +kernel
theorem dX0_result_104 : decode cX0_result 104 = .ok (.getfield 123, 3) := by decide +kernel
theorem dX0_result_107 : decode cX0_result 107 = .ok (.iload_n 1, 1) := by decide +kernel
theorem dX0_result_108 : decode cX0_result 108 = .ok (.iaload, 1) := by decide +kernel
theorem dX0_result_109 : decode cX0_result 109 = .ok (.ireturn, 1) := by decide +kernel
theorem dX0_result_110 : decode cX0_result 110 = .ok (.aload_n 0, 1) := by decide +kernel
theorem dX0_result_111 : decode cX0_result 111 = .ok (.getfield 42, 3) := by decide +kernel
theorem dX0_result_114 : decode cX0_result 114 = .ok (.getfield 126, 3) := by decide +kernel
theorem dX0_result_117 : decode cX0_result 117 = .ok (.iload_n 1, 1) := by decide +kernel
theorem dX0_result_118 : decode cX0_result 118 = .ok (.iaload, 1) := by decide +kernel
theorem dX0_result_119 : decode cX0_result 119 = .ok (.ireturn, 1) := by decide +kernel
theorem dX0_worst_0 : decode cX0_worst 0 = .ok (.iload_n 1, 1) := by decide +kernel
theorem dX0_worst_1 : decode cX0_worst 1 = .ok (.iconst 0, 1) := by decide +kernel
theorem dX0_worst_2 : decode cX0_worst 2 = .ok (.iconst 2, 1) := by decide +kernel
theorem dX0_worst_3 : decode cX0_worst 3 = .ok (.invokestatic 76, 3) := by decide +kernel
theorem dX0_worst_6 : decode cX0_worst 6 = .ok (.ifCond .ne 5, 3) := by decide +kernel
theorem dX0_worst_9 : decode cX0_worst 9 = .ok (.iconst (-1), 1) := by decide +kernel
theorem dX0_worst_10 : decode cX0_worst 10 = .ok (.ireturn, 1) := by decide +kernel
theorem dX0_worst_11 : decode cX0_worst 11 = .ok (.aload_n 0, 1) := by decide +kernel
theorem dX0_worst_12 : decode cX0_worst 12 = .ok (.getfield 42, 3) := by decide +kernel
theorem dX0_worst_15 : decode cX0_worst 15 = .ok (.invokevirtual 113, 3) := by decide +kernel
theorem dX0_worst_18 : decode cX0_worst 18 = .ok (.aload_n 0, 1) := by decide +kernel
theorem dX0_worst_19 : decode cX0_worst 19 = .ok (.getfield 42, 3) := by decide +kernel
theorem dX0_worst_22 : decode cX0_worst 22 = .ok (.getfield 116, 3) := by decide +kernel
theorem dX0_worst_25 : decode cX0_worst 25 = .ok (.sipush 250, 3) := by decide +kernel
theorem dX0_worst_28 : decode cX0_worst 28 = .ok (.if_icmp .le 6, 3) := by decide +kernel
theorem dX0_worst_31 : decode cX0_worst 31 = .ok (.bipush (-4), 2) := by decide +kernel
theorem dX0_worst_33 : decode cX0_worst 33 = .ok (.ireturn, 1) := by decide +kernel
theorem dX0_worst_34 : decode cX0_worst 34 = .ok (.iconst 0, 1) := by decide +kernel
theorem dX0_worst_35 : decode cX0_worst 35 = .ok (.istore_n 2, 1) := by decide +kernel
theorem dX0_worst_36 : decode cX0_worst 36 = .ok (.iconst 0, 1) := by decide +kernel
theorem dX0_worst_37 : decode cX0_worst 37 = .ok (.istore_n 3, 1) := by decide +kernel
theorem dX0_worst_38 : decode cX0_worst 38 = .ok (.iload_n 3, 1) := by decide +kernel
theorem dX0_worst_39 : decode cX0_worst 39 = .ok (.aload_n 0, 1) := by decide +kernel
theorem dX0_worst_40 : decode cX0_worst 40 = .ok (.getfield 42, 3) := by decide +kernel
theorem dX0_worst_43 : decode cX0_worst 43 = .ok (.getfield 116, 3) := by decide +kernel
theorem dX0_worst_46 : decode cX0_worst 46 = .ok (.if_icmp .ge 32, 3) := by decide +kernel
theorem dX0_worst_49 : decode cX0_worst 49 = .ok (.aload_n 0, 1) := by decide +kernel
theorem dX0_worst_50 : decode cX0_worst 50 = .ok (.getfield 19, 3) := by decide +kernel
theorem dX0_worst_53 : decode cX0_worst 53 = .ok (.aload_n 0, 1) := by decide +kernel
theorem dX0_worst_54 : decode cX0_worst 54 = .ok (.getfield 42, 3) := by decide +kernel
theorem dX0_worst_57 : decode cX0_worst 57 = .ok (.getfield 120, 3) := by decide +kernel
theorem dX0_worst_60 : decode cX0_worst 60 = .ok (.iload_n 3, 1) := by decide +kernel
theorem dX0_worst_61 : decode cX0_worst 61 = .ok (.iaload, 1) := by decide +kernel
theorem dX0_worst_62 : decode cX0_worst 62 = .ok (.invokevirtual 79, 3) := by decide +kernel
theorem dX0_worst_65 : decode cX0_worst 65 = .ok (.iload_n 1, 1) := by decide +kernel
theorem dX0_worst_66 : decode cX0_worst 66 = .ok (.if_icmp .ne 6, 3) := by decide +kernel
theorem dX0_worst_69 : decode cX0_worst 69 = .ok (.iinc 2 1, 3) := by decide +kernel
theorem dX0_worst_72 : decode cX0_worst 72 = .ok (.iinc 3 1, 3) := by decide +kernel
theorem dX0_worst_75 : decode cX0_worst 75 = .ok (.goto (-37), 3) := by decide +kernel
theorem dX0_worst_78 : decode cX0_worst 78 = .ok (.iload_n 2, 1) := by decide +kernel
theorem dX0_worst_79 : decode cX0_worst 79 = .ok (.ireturn, 1) := by decide +kernel
theorem dX0_fits_0 : decode cX0_fits 0 = .ok (.iload_n 1, 1) := by decide +kernel
theorem dX0_fits_1 : decode cX0_fits 1 = .ok (.invokestatic 129, 3) := by decide +kernel
theorem dX0_fits_4 : decode cX0_fits 4 = .ok (.ifCond .eq 14, 3) := by decide +kernel
theorem dX0_fits_7 : decode cX0_fits 7 = .ok (.aload_n 0, 1) := by decide +kernel
theorem dX0_fits_8 : decode cX0_fits 8 = .ok (.getfield 19, 3) := by decide +kernel
theorem dX0_fits_11 : decode cX0_fits 11 = .ok (.iload_n 2, 1) := by decide +kernel
theorem dX0_fits_12 : decode cX0_fits 12 = .ok (.invokevirtual 73, 3) := by decide +kernel
theorem dX0_fits_15 : decode cX0_fits 15 = .ok (.ifCond .ne 5, 3) := by decide +kernel
theorem dX0_fits_18 : decode cX0_fits 18 = .ok (.iconst (-1), 1) := by decide +kernel
theorem dX0_fits_19 : decode cX0_fits 19 = .ok (.ireturn, 1) := by decide +kernel
theorem dX0_fits_20 : decode cX0_fits 20 = .ok (.aload_n 0, 1) := by decide +kernel
theorem dX0_fits_21 : decode cX0_fits 21 = .ok (.getfield 42, 3) := by decide +kernel
theorem dX0_fits_24 : decode cX0_fits 24 = .ok (.invokevirtual 113, 3) := by decide +kernel
theorem dX0_fits_27 : decode cX0_fits 27 = .ok (.aload_n 0, 1) := by decide +kernel
theorem dX0_fits_28 : decode cX0_fits 28 = .ok (.getfield 42, 3) := by decide +kernel
theorem dX0_fits_31 : decode cX0_fits 31 = .ok (.iload_n 2, 1) := by decide +kernel
theorem dX0_fits_32 : decode cX0_fits 32 = .ok (.invokevirtual 132, 3) := by decide +kernel
theorem dX0_fits_35 : decode cX0_fits 35 = .ok (.iload_n 1, 1) := by decide +kernel
theorem dX0_fits_36 : decode cX0_fits 36 = .ok (.invokestatic 135, 3) := by decide +kernel
theorem dX0_fits_39 : decode cX0_fits 39 = .ok (.ifCond .eq 7, 3) := by decide +kernel
theorem dX0_fits_42 : decode cX0_fits 42 = .ok (.iconst 1, 1) := by decide +kernel
theorem dX0_fits_43 : decode cX0_fits 43 = .ok (.goto 4, 3) := by decide +kernel
theorem dX0_fits_46 : decode cX0_fits 46 = .ok (.iconst 0, 1) := by decide +kernel
theorem dX0_fits_47 : decode cX0_fits 47 = .ok (.ireturn, 1) := by decide +kernel
theorem dX0_focus_0 : decode cX0_focus 0 = .ok (.aload_n 0, 1) := by decide +kernel
theorem dX0_focus_1 : decode cX0_focus 1 = .ok (.getfield 19, 3) := by decide +kernel
theorem dX0_focus_4 : decode cX0_focus 4 = .ok (.iload_n 1, 1) := by decide +kernel
theorem dX0_focus_5 : decode cX0_focus 5 = .ok (.invokevirtual 73, 3) := by decide +kernel
theorem dX0_focus_8 : decode cX0_focus 8 = .ok (.ifCond .ne 5, 3) := by decide +kernel
theorem dX0_focus_11 : decode cX0_focus 11 = .ok (.iconst (-1), 1) := by decide +kernel
theorem dX0_focus_12 : decode cX0_focus 12 = .ok (.ireturn, 1) := by decide +kernel
theorem dX0_focus_13 : decode cX0_focus 13 = .ok (.aload_n 0, 1) := by decide +kernel
theorem dX0_focus_14 : decode cX0_focus 14 = .ok (.getfield 26, 3) := by decide +kernel
theorem dX0_focus_17 : decode cX0_focus 17 = .ok (.iload_n 1, 1) := by decide +kernel
theorem dX0_focus_18 : decode cX0_focus 18 = .ok (.aload_n 0, 1) := by decide +kernel
theorem dX0_focus_19 : decode cX0_focus 19 = .ok (.getfield 10, 3) := by decide +kernel
theorem dX0_focus_22 : decode cX0_focus 22 = .ok (.invokevirtual 138, 3) := by decide +kernel
theorem dX0_focus_25 : decode cX0_focus 25 = .ok (.iload_n 2, 1) := by decide +kernel
theorem dX0_focus_26 : decode cX0_focus 26 = .ok (.invokestatic 142, 3) := by decide +kernel
theorem dX0_focus_29 : decode cX0_focus 29 = .ok (.ireturn, 1) := by decide +kernel
theorem dX0_value_0 : decode cX0_value 0 = .ok (.iload_n 1, 1) := by decide +kernel
theorem dX0_value_1 : decode cX0_value 1 = .ok (.invokestatic 129, 3) := by decide +kernel
theorem dX0_value_4 : decode cX0_value 4 = .ok (.ifCond .eq 14, 3) := by decide +kernel
theorem dX0_value_7 : decode cX0_value 7 = .ok (.aload_n 0, 1) := by decide +kernel
theorem dX0_value_8 : decode cX0_value 8 = .ok (.getfield 19, 3) := by decide +kernel
theorem dX0_value_11 : decode cX0_value 11 = .ok (.iload_n 2, 1) := by decide +kernel
theorem dX0_value_12 : decode cX0_value 12 = .ok (.invokevirtual 73, 3) := by decide +kernel
theorem dX0_value_15 : decode cX0_value 15 = .ok (.ifCond .ne 5, 3) := by decide +kernel
theorem dX0_value_18 : decode cX0_value 18 = .ok (.iconst (-1), 1) := by decide +kernel
theorem dX0_value_19 : decode cX0_value 19 = .ok (.ireturn, 1) := by decide +kernel
theorem dX0_value_20 : decode cX0_value 20 = .ok (.aload_n 0, 1) := by decide +kernel
theorem dX0_value_21 : decode cX0_value 21 = .ok (.getfield 10, 3) := by decide +kernel
theorem dX0_value_24 : decode cX0_value 24 = .ok (.iload_n 1, 1) := by decide +kernel
theorem dX0_value_25 : decode cX0_value 25 = .ok (.aload_n 0, 1) := by decide +kernel
theorem dX0_value_26 : decode cX0_value 26 = .ok (.getfield 19, 3) := by decide +kernel
theorem dX0_value_29 : decode cX0_value 29 = .ok (.iload_n 2, 1) := by decide +kernel
theorem dX0_value_30 : decode cX0_value 30 = .ok (.invokevirtual 146, 3) := by decide +kernel
theorem dX0_value_33 : decode cX0_value 33 = .ok (.invokevirtual 149, 3) := by decide +kernel
theorem dX0_value_36 : decode cX0_value 36 = .ok (.iload_n 3, 1) := by decide +kernel
theorem dX0_value_37 : decode cX0_value 37 = .ok (.invokestatic 142, 3) := by decide +kernel
theorem dX0_value_40 : decode cX0_value 40 = .ok (.ireturn, 1) := by decide +kernel
theorem dX0_isOf_0 : decode cX0_isOf 0 = .ok (.iload_n 1, 1) := by decide +kernel
theorem dX0_isOf_1 : decode cX0_isOf 1 = .ok (.invokestatic 129, 3) := by decide +kernel
theorem dX0_isOf_4 : decode cX0_isOf 4 = .ok (.ifCond .eq 10, 3) := by decide +kernel
theorem dX0_isOf_7 : decode cX0_isOf 7 = .ok (.iload_n 2, 1) := by decide +kernel
theorem dX0_isOf_8 : decode cX0_isOf 8 = .ok (.invokestatic 152, 3) := by decide +kernel
theorem dX0_isOf_11 : decode cX0_isOf 11 = .ok (.ifCond .ne 5, 3) := by decide +kernel
theorem dX0_isOf_14 : decode cX0_isOf 14 = .ok (.iconst (-1), 1) := by decide +kernel
theorem dX0_isOf_15 : decode cX0_isOf 15 = .ok (.ireturn, 1) := by decide +kernel
theorem dX0_isOf_16 : decode cX0_isOf 16 = .ok (.aload_n 0, 1) := by decide +kernel
theorem dX0_isOf_17 : decode cX0_isOf 17 = .ok (.getfield 10, 3) := by decide +kernel
theorem dX0_isOf_20 : decode cX0_isOf 20 = .ok (.iload_n 2, 1) := by decide +kernel
theorem dX0_isOf_21 : decode cX0_isOf 21 = .ok (.invokevirtual 155, 3) := by decide +kernel
theorem dX0_isOf_24 : decode cX0_isOf 24 = .ok (.iload_n 1, 1) := by decide +kernel
theorem dX0_isOf_25 : decode cX0_isOf 25 = .ok (.invokestatic 135, 3) := by decide +kernel
theorem dX0_isOf_28 : decode cX0_isOf 28 = .ok (.ifCond .eq 7, 3) := by decide +kernel
theorem dX0_isOf_31 : decode cX0_isOf 31 = .ok (.iconst 1, 1) := by decide +kernel
theorem dX0_isOf_32 : decode cX0_isOf 32 = .ok (.goto 4, 3) := by decide +kernel
theorem dX0_isOf_35 : decode cX0_isOf 35 = .ok (.iconst 0, 1) := by decide +kernel
theorem dX0_isOf_36 : decode cX0_isOf 36 = .ok (.ireturn, 1) := by decide +kernel
theorem dX0_count_0 : decode cX0_count 0 = .ok (.iload_n 1, 1) := by decide +kernel
theorem dX0_count_1 : decode cX0_count 1 = .ok (.tableswitch 63 0 3 #[31, 39, 47, 55], 31) := by decide +kernel
theorem dX0_count_32 : decode cX0_count 32 = .ok (.aload_n 0, 1) := by decide +kernel
theorem dX0_count_33 : decode cX0_count 33 = .ok (.getfield 10, 3) := by decide +kernel
theorem dX0_count_36 : decode cX0_count 36 = .ok (.getfield 53, 3) := by decide +kernel
theorem dX0_count_39 : decode cX0_count 39 = .ok (.ireturn, 1) := by decide +kernel
theorem dX0_count_40 : decode cX0_count 40 = .ok (.aload_n 0, 1) := by decide +kernel
theorem dX0_count_41 : decode cX0_count 41 = .ok (.getfield 19, 3) := by decide +kernel
theorem dX0_count_44 : decode cX0_count 44 = .ok (.getfield 68, 3) := by decide +kernel
theorem dX0_count_47 : decode cX0_count 47 = .ok (.ireturn, 1) := by decide +kernel
theorem dX0_count_48 : decode cX0_count 48 = .ok (.aload_n 0, 1) := by decide +kernel
theorem dX0_count_49 : decode cX0_count 49 = .ok (.getfield 26, 3) := by decide +kernel
theorem dX0_count_52 : decode cX0_count 52 = .ok (.getfield 90, 3) := by decide +kernel
theorem dX0_count_55 : decode cX0_count 55 = .ok (.ireturn, 1) := by decide +kernel
theorem dX0_count_56 : decode cX0_count 56 = .ok (.aload_n 0, 1) := by decide +kernel
theorem dX0_count_57 : decode cX0_count 57 = .ok (.getfield 33, 3) := by decide +kernel
theorem dX0_count_60 : decode cX0_count 60 = .ok (.getfield 105, 3) := by decide +kernel
theorem dX0_count_63 : decode cX0_count 63 = .ok (.ireturn, 1) := by decide +kernel
theorem dX0_count_64 : decode cX0_count 64 = .ok (.iconst (-1), 1) := by decide +kernel
theorem dX0_count_65 : decode cX0_count 65 = .ok (.ireturn, 1) := by decide +kernel
theorem dX0_isTarget_0 : decode cX0_isTarget 0 = .ok (.iload_n 0, 1) := by decide +kernel
theorem dX0_isTarget_1 : decode cX0_isTarget 1 = .ok (.tableswitch 46 0 3 #[31, 36, 41, 41], 31) := by decide +kernel
theorem dX0_isTarget_32 : decode cX0_isTarget 32 = .ok (.iload_n 1, 1) := by decide +kernel
theorem dX0_isTarget_33 : decode cX0_isTarget 33 = .ok (.invokestatic 129, 3) := by decide +kernel
theorem dX0_isTarget_36 : decode cX0_isTarget 36 = .ok (.ireturn, 1) := by decide +kernel
theorem dX0_isTarget_37 : decode cX0_isTarget 37 = .ok (.iload_n 1, 1) := by decide +kernel
theorem dX0_isTarget_38 : decode cX0_isTarget 38 = .ok (.invokestatic 152, 3) := by decide +kernel
theorem dX0_isTarget_41 : decode cX0_isTarget 41 = .ok (.ireturn, 1) := by decide +kernel
theorem dX0_isTarget_42 : decode cX0_isTarget 42 = .ok (.iload_n 1, 1) := by decide +kernel
theorem dX0_isTarget_43 : decode cX0_isTarget 43 = .ok (.invokestatic 158, 3) := by decide +kernel
theorem dX0_isTarget_46 : decode cX0_isTarget 46 = .ok (.ireturn, 1) := by decide +kernel
theorem dX0_isTarget_47 : decode cX0_isTarget 47 = .ok (.iconst 0, 1) := by decide +kernel
theorem dX0_isTarget_48 : decode cX0_isTarget 48 = .ok (.ireturn, 1) := by decide +kernel
theorem dX0_isConstraint_0 : decode cX0_isConstraint 0 = .ok (.iload_n 1, 1) := by decide +kernel
theorem dX0_isConstraint_1 : decode cX0_isConstraint 1 = .ok (.invokestatic 96, 3) := by decide +kernel
theorem dX0_isConstraint_4 : decode cX0_isConstraint 4 = .ok (.ifCond .eq 16, 3) := by decide +kernel
theorem dX0_isConstraint_7 : decode cX0_isConstraint 7 = .ok (.aload_n 0, 1) := by decide +kernel
theorem dX0_isConstraint_8 : decode cX0_isConstraint 8 = .ok (.getfield 19, 3) := by decide +kernel
theorem dX0_isConstraint_11 : decode cX0_isConstraint 11 = .ok (.iload_n 2, 1) := by decide +kernel
theorem dX0_isConstraint_12 : decode cX0_isConstraint 12 = .ok (.invokevirtual 73, 3) := by decide +kernel
theorem dX0_isConstraint_15 : decode cX0_isConstraint 15 = .ok (.ifCond .ne 5, 3) := by decide +kernel
theorem dX0_isConstraint_18 : decode cX0_isConstraint 18 = .ok (.iconst 0, 1) := by decide +kernel
theorem dX0_isConstraint_19 : decode cX0_isConstraint 19 = .ok (.ireturn, 1) := by decide +kernel
theorem dX0_isConstraint_20 : decode cX0_isConstraint 20 = .ok (.iload_n 1, 1) := by decide +kernel
theorem dX0_isConstraint_21 : decode cX0_isConstraint 21 = .ok (.invokestatic 99, 3) := by decide +kernel
theorem dX0_isConstraint_24 : decode cX0_isConstraint 24 = .ok (.ifCond .eq 16, 3) := by decide +kernel
theorem dX0_isConstraint_27 : decode cX0_isConstraint 27 = .ok (.aload_n 0, 1) := by decide +kernel
theorem dX0_isConstraint_28 : decode cX0_isConstraint 28 = .ok (.getfield 19, 3) := by decide +kernel
theorem dX0_isConstraint_31 : decode cX0_isConstraint 31 = .ok (.iload_n 3, 1) := by decide +kernel
theorem dX0_isConstraint_32 : decode cX0_isConstraint 32 = .ok (.invokevirtual 73, 3) := by decide +kernel
theorem dX0_isConstraint_35 : decode cX0_isConstraint 35 = .ok (.ifCond .ne 5, 3) := by decide +kernel
theorem dX0_isConstraint_38 : decode cX0_isConstraint 38 = .ok (.iconst 0, 1) := by decide +kernel
theorem dX0_isConstraint_39 : decode cX0_isConstraint 39 = .ok (.ireturn, 1) := by decide +kernel
theorem dX0_isConstraint_40 : decode cX0_isConstraint 40 = .ok (.iload_n 1, 1) := by decide +kernel
theorem dX0_isConstraint_41 : decode cX0_isConstraint 41 = .ok (.tableswitch 132 0 17 #[87, 92, 99, 132, 132, 113, 118, 118, 118, 132, 132, 132, 132, 132, 132, 132, 132, 123], 87) := by decide +kernel
theorem dX0_isConstraint_128 : decode cX0_isConstraint 128 = .ok (.iload_n 2, 1) := by decide +kernel
theorem dX0_isConstraint_129 : decode cX0_isConstraint 129 = .ok (.invokestatic 152, 3) := by decide +kernel
theorem dX0_isConstraint_132 : decode cX0_isConstraint 132 = .ok (.ireturn, 1) := by decide +kernel
theorem dX0_isConstraint_133 : decode cX0_isConstraint 133 = .ok (.iload_n 2, 1) := by decide +kernel
theorem dX0_isConstraint_134 : decode cX0_isConstraint 134 = .ok (.iconst 0, 1) := by decide +kernel
theorem dX0_isConstraint_135 : decode cX0_isConstraint 135 = .ok (.iconst 3, 1) := by decide +kernel
theorem dX0_isConstraint_136 : decode cX0_isConstraint 136 = .ok (.invokestatic 76, 3) := by decide +kernel
theorem dX0_isConstraint_139 : decode cX0_isConstraint 139 = .ok (.ireturn, 1) := by decide +kernel
theorem dX0_isConstraint_140 : decode cX0_isConstraint 140 = .ok (.iload_n 2, 1) := by decide +kernel
theorem dX0_isConstraint_141 : decode cX0_isConstraint 141 = .ok (.ifCond .lt 11, 3) := by decide +kernel
theorem dX0_isConstraint_144 : decode cX0_isConstraint 144 = .ok (.iload_n 3, 1) := by decide +kernel
theorem dX0_isConstraint_145 : decode cX0_isConstraint 145 = .ok (.ifCond .lt 7, 3) := by decide +kernel
theorem dX0_isConstraint_148 : decode cX0_isConstraint 148 = .ok (.iconst 1, 1) := by decide +kernel
theorem dX0_isConstraint_149 : decode cX0_isConstraint 149 = .ok (.goto 4, 3) := by decide +kernel
theorem dX0_isConstraint_152 : decode cX0_isConstraint 152 = .ok (.iconst 0, 1) := by decide +kernel
theorem dX0_isConstraint_153 : decode cX0_isConstraint 153 = .ok (.ireturn, 1) := by decide +kernel
theorem dX0_isConstraint_154 : decode cX0_isConstraint 154 = .ok (.iload_n 2, 1) := by decide +kernel
theorem dX0_isConstraint_155 : decode cX0_isConstraint 155 = .ok (.invokestatic 129, 3) := by decide +kernel
theorem dX0_isConstraint_158 : decode cX0_isConstraint 158 = .ok (.ireturn, 1) := by decide +kernel
theorem dX0_isConstraint_159 : decode cX0_isConstraint 159 = .ok (.iload_n 2, 1) := by decide +kernel
theorem dX0_isConstraint_160 : decode cX0_isConstraint 160 = .ok (.invokestatic 158, 3) := by decide +kernel
theorem dX0_isConstraint_163 : decode cX0_isConstraint 163 = .ok (.ireturn, 1) := by decide +kernel
theorem dX0_isConstraint_164 : decode cX0_isConstraint 164 = .ok (.iload_n 3, 1) := by decide +kernel
theorem dX0_isConstraint_165 : decode cX0_isConstraint 165 = .ok (.iconst 0, 1) := by decide +kernel
theorem dX0_isConstraint_166 : decode cX0_isConstraint 166 = .ok (.sipush 255, 3) := by decide +kernel
theorem dX0_isConstraint_169 : decode cX0_isConstraint 169 = .ok (.invokestatic 76, 3) := by decide +kernel
theorem dX0_isConstraint_172 : decode cX0_isConstraint 172 = .ok (.ireturn, 1) := by decide +kernel
theorem dX0_isConstraint_173 : decode cX0_isConstraint 173 = .ok (.iload_n 1, 1) := by decide +kernel
theorem dX0_isConstraint_174 : decode cX0_isConstraint 174 = .ok (.iconst 0, 1) := by decide +kernel
theorem dX0_isConstraint_175 : decode cX0_isConstraint 175 = .ok (.bipush 17, 2) := by decide +kernel
theorem dX0_isConstraint_177 : decode cX0_isConstraint 177 = .ok (.invokestatic 76, 3) := by decide +kernel
theorem dX0_isConstraint_180 : decode cX0_isConstraint 180 = .ok (.ireturn, 1) := by decide +kernel
theorem dX0_namesShapeByA_0 : decode cX0_namesShapeByA 0 = .ok (.iload_n 0, 1) := by decide +kernel
theorem dX0_namesShapeByA_1 : decode cX0_namesShapeByA 1 = .ok (.bipush 11, 2) := by decide +kernel
theorem dX0_namesShapeByA_3 : decode cX0_namesShapeByA 3 = .ok (.bipush 17, 2) := by decide +kernel
theorem dX0_namesShapeByA_5 : decode cX0_namesShapeByA 5 = .ok (.invokestatic 76, 3) := by decide +kernel
theorem dX0_namesShapeByA_8 : decode cX0_namesShapeByA 8 = .ok (.ireturn, 1) := by decide +kernel
theorem dX0_namesShapeByB_0 : decode cX0_namesShapeByB 0 = .ok (.iload_n 0, 1) := by decide +kernel
theorem dX0_namesShapeByB_1 : decode cX0_namesShapeByB 1 = .ok (.bipush 12, 2) := by decide +kernel
theorem dX0_namesShapeByB_3 : decode cX0_namesShapeByB 3 = .ok (.bipush 14, 2) := by decide +kernel
theorem dX0_namesShapeByB_5 : decode cX0_namesShapeByB 5 = .ok (.invokestatic 76, 3) := by decide +kernel
theorem dX0_namesShapeByB_8 : decode cX0_namesShapeByB 8 = .ok (.ireturn, 1) := by decide +kernel
theorem dX0_isBetween_0 : decode cX0_isBetween 0 = .ok (.iload_n 0, 1) := by decide +kernel
theorem dX0_isBetween_1 : decode cX0_isBetween 1 = .ok (.iload_n 1, 1) := by decide +kernel
theorem dX0_isBetween_2 : decode cX0_isBetween 2 = .ok (.if_icmp .lt 12, 3) := by decide +kernel
theorem dX0_isBetween_5 : decode cX0_isBetween 5 = .ok (.iload_n 0, 1) := by decide +kernel
theorem dX0_isBetween_6 : decode cX0_isBetween 6 = .ok (.iload_n 2, 1) := by decide +kernel
theorem dX0_isBetween_7 : decode cX0_isBetween 7 = .ok (.if_icmp .gt 7, 3) := by decide +kernel
theorem dX0_isBetween_10 : decode cX0_isBetween 10 = .ok (.iconst 1, 1) := by decide +kernel
theorem dX0_isBetween_11 : decode cX0_isBetween 11 = .ok (.goto 4, 3) := by decide +kernel
theorem dX0_isBetween_14 : decode cX0_isBetween 14 = .ok (.iconst 0, 1) := by decide +kernel
theorem dX0_isBetween_15 : decode cX0_isBetween 15 = .ok (.ireturn, 1) := by decide +kernel
theorem dX0_isTerm_0 : decode cX0_isTerm 0 = .ok (.iload_n 0, 1) := by decide +kernel
theorem dX0_isTerm_1 : decode cX0_isTerm 1 = .ok (.ifCond .lt 13, 3) := by decide +kernel
theorem dX0_isTerm_4 : decode cX0_isTerm 4 = .ok (.iload_n 0, 1) := by decide +kernel
theorem dX0_isTerm_5 : decode cX0_isTerm 5 = .ok (.bipush 32, 2) := by decide +kernel
theorem dX0_isTerm_7 : decode cX0_isTerm 7 = .ok (.if_icmp .ge 7, 3) := by decide +kernel
theorem dX0_isTerm_10 : decode cX0_isTerm 10 = .ok (.iconst 1, 1) := by decide +kernel
theorem dX0_isTerm_11 : decode cX0_isTerm 11 = .ok (.goto 4, 3) := by decide +kernel
theorem dX0_isTerm_14 : decode cX0_isTerm 14 = .ok (.iconst 0, 1) := by decide +kernel
theorem dX0_isTerm_15 : decode cX0_isTerm 15 = .ok (.ireturn, 1) := by decide +kernel
theorem dX0_isNode_0 : decode cX0_isNode 0 = .ok (.iload_n 0, 1) := by decide +kernel
theorem dX0_isNode_1 : decode cX0_isNode 1 = .ok (.ifCond .lt 13, 3) := by decide +kernel
theorem dX0_isNode_4 : decode cX0_isNode 4 = .ok (.iload_n 0, 1) := by decide +kernel
theorem dX0_isNode_5 : decode cX0_isNode 5 = .ok (.bipush 20, 2) := by decide +kernel
theorem dX0_isNode_7 : decode cX0_isNode 7 = .ok (.if_icmp .ge 7, 3) := by decide +kernel
theorem dX0_isNode_10 : decode cX0_isNode 10 = .ok (.iconst 1, 1) := by decide +kernel
theorem dX0_isNode_11 : decode cX0_isNode 11 = .ok (.goto 4, 3) := by decide +kernel
theorem dX0_isNode_14 : decode cX0_isNode 14 = .ok (.iconst 0, 1) := by decide +kernel
theorem dX0_isNode_15 : decode cX0_isNode 15 = .ok (.ireturn, 1) := by decide +kernel
theorem dX0_isPredicate_0 : decode cX0_isPredicate 0 = .ok (.iload_n 0, 1) := by decide +kernel
theorem dX0_isPredicate_1 : decode cX0_isPredicate 1 = .ok (.ifCond .lt 13, 3) := by decide +kernel
theorem dX0_isPredicate_4 : decode cX0_isPredicate 4 = .ok (.iload_n 0, 1) := by decide +kernel
theorem dX0_isPredicate_5 : decode cX0_isPredicate 5 = .ok (.bipush 8, 2) := by decide +kernel
theorem dX0_isPredicate_7 : decode cX0_isPredicate 7 = .ok (.if_icmp .ge 7, 3) := by decide +kernel
theorem dX0_isPredicate_10 : decode cX0_isPredicate 10 = .ok (.iconst 1, 1) := by decide +kernel
theorem dX0_isPredicate_11 : decode cX0_isPredicate 11 = .ok (.goto 4, 3) := by decide +kernel
theorem dX0_isPredicate_14 : decode cX0_isPredicate 14 = .ok (.iconst 0, 1) := by decide +kernel
theorem dX0_isPredicate_15 : decode cX0_isPredicate 15 = .ok (.ireturn, 1) := by decide +kernel
theorem dX0_isTriple_0 : decode cX0_isTriple 0 = .ok (.iload_n 0, 1) := by decide +kernel
theorem dX0_isTriple_1 : decode cX0_isTriple 1 = .ok (.invokestatic 152, 3) := by decide +kernel
theorem dX0_isTriple_4 : decode cX0_isTriple 4 = .ok (.ifCond .eq 21, 3) := by decide +kernel
theorem dX0_isTriple_7 : decode cX0_isTriple 7 = .ok (.iload_n 1, 1) := by decide +kernel
theorem dX0_isTriple_8 : decode cX0_isTriple 8 = .ok (.invokestatic 158, 3) := by decide +kernel
theorem dX0_isTriple_11 : decode cX0_isTriple 11 = .ok (.ifCond .eq 14, 3) := by decide +kernel
theorem dX0_isTriple_14 : decode cX0_isTriple 14 = .ok (.iload_n 2, 1) := by decide +kernel
theorem dX0_isTriple_15 : decode cX0_isTriple 15 = .ok (.invokestatic 129, 3) := by decide +kernel
theorem dX0_isTriple_18 : decode cX0_isTriple 18 = .ok (.ifCond .eq 7, 3) := by decide +kernel
theorem dX0_isTriple_21 : decode cX0_isTriple 21 = .ok (.iconst 1, 1) := by decide +kernel
theorem dX0_isTriple_22 : decode cX0_isTriple 22 = .ok (.goto 4, 3) := by decide +kernel
theorem dX0_isTriple_25 : decode cX0_isTriple 25 = .ok (.iconst 0, 1) := by decide +kernel
theorem dX0_isTriple_26 : decode cX0_isTriple 26 = .ok (.ireturn, 1) := by decide +kernel
theorem dX0_holdsBit_0 : decode cX0_holdsBit 0 = .ok (.iload_n 0, 1) := by decide +kernel
theorem dX0_holdsBit_1 : decode cX0_holdsBit 1 = .ok (.iload_n 1, 1) := by decide +kernel
theorem dX0_holdsBit_2 : decode cX0_holdsBit 2 = .ok (.iushr, 1) := by decide +kernel
theorem dX0_holdsBit_3 : decode cX0_holdsBit 3 = .ok (.iconst 1, 1) := by decide +kernel
theorem dX0_holdsBit_4 : decode cX0_holdsBit 4 = .ok (.iand, 1) := by decide +kernel
theorem dX0_holdsBit_5 : decode cX0_holdsBit 5 = .ok (.ifCond .eq 7, 3) := by decide +kernel
theorem dX0_holdsBit_8 : decode cX0_holdsBit 8 = .ok (.iconst 1, 1) := by decide +kernel
theorem dX0_holdsBit_9 : decode cX0_holdsBit 9 = .ok (.goto 4, 3) := by decide +kernel
theorem dX0_holdsBit_12 : decode cX0_holdsBit 12 = .ok (.iconst 0, 1) := by decide +kernel
theorem dX0_holdsBit_13 : decode cX0_holdsBit 13 = .ok (.ireturn, 1) := by decide +kernel
theorem dX0_termAt_0 : decode cX0_termAt 0 = .ok (.iload_n 1, 1) := by decide +kernel
theorem dX0_termAt_1 : decode cX0_termAt 1 = .ok (.istore_n 2, 1) := by decide +kernel
theorem dX0_termAt_2 : decode cX0_termAt 2 = .ok (.iconst 0, 1) := by decide +kernel
theorem dX0_termAt_3 : decode cX0_termAt 3 = .ok (.istore_n 3, 1) := by decide +kernel
theorem dX0_termAt_4 : decode cX0_termAt 4 = .ok (.iload_n 3, 1) := by decide +kernel
theorem dX0_termAt_5 : decode cX0_termAt 5 = .ok (.bipush 32, 2) := by decide +kernel
theorem dX0_termAt_7 : decode cX0_termAt 7 = .ok (.if_icmp .ge 26, 3) := by decide +kernel
theorem dX0_termAt_10 : decode cX0_termAt 10 = .ok (.iload_n 0, 1) := by decide +kernel
theorem dX0_termAt_11 : decode cX0_termAt 11 = .ok (.iload_n 3, 1) := by decide +kernel
theorem dX0_termAt_12 : decode cX0_termAt 12 = .ok (.invokestatic 135, 3) := by decide +kernel
theorem dX0_termAt_15 : decode cX0_termAt 15 = .ok (.ifCond .eq 12, 3) := by decide +kernel
theorem dX0_termAt_18 : decode cX0_termAt 18 = .ok (.iload_n 2, 1) := by decide +kernel
theorem dX0_termAt_19 : decode cX0_termAt 19 = .ok (.ifCond .ne 5, 3) := by decide +kernel
theorem dX0_termAt_22 : decode cX0_termAt 22 = .ok (.iload_n 3, 1) := by decide +kernel
theorem dX0_termAt_23 : decode cX0_termAt 23 = .ok (.ireturn, 1) := by decide +kernel
theorem dX0_termAt_24 : decode cX0_termAt 24 = .ok (.iinc 2 (-1), 3) := by decide +kernel
theorem dX0_termAt_27 : decode cX0_termAt 27 = .ok (.iinc 3 1, 3) := by decide +kernel
theorem dX0_termAt_30 : decode cX0_termAt 30 = .ok (.goto (-26), 3) := by decide +kernel
theorem dX0_termAt_33 : decode cX0_termAt 33 = .ok (.bipush (-2), 2) := by decide +kernel
theorem dX0_termAt_35 : decode cX0_termAt 35 = .ok (.ireturn, 1) := by decide +kernel
theorem dX0_literalsWithNumber_0 : decode cX0_literalsWithNumber 0 = .ok (.iconst 3, 1) := by decide +kernel
theorem dX0_literalsWithNumber_1 : decode cX0_literalsWithNumber 1 = .ok (.bipush 20, 2) := by decide +kernel
theorem dX0_literalsWithNumber_3 : decode cX0_literalsWithNumber 3 = .ok (.iconst 2, 1) := by decide +kernel
theorem dX0_literalsWithNumber_4 : decode cX0_literalsWithNumber 4 = .ok (.iload_n 0, 1) := by decide +kernel
theorem dX0_literalsWithNumber_5 : decode cX0_literalsWithNumber 5 = .ok (.imul, 1) := by decide +kernel
theorem dX0_literalsWithNumber_6 : decode cX0_literalsWithNumber 6 = .ok (.iadd, 1) := by decide +kernel
theorem dX0_literalsWithNumber_7 : decode cX0_literalsWithNumber 7 = .ok (.ishl, 1) := by decide +kernel
theorem dX0_literalsWithNumber_8 : decode cX0_literalsWithNumber 8 = .ok (.ireturn, 1) := by decide +kernel
theorem dX0_literalsBetween_0 : decode cX0_literalsBetween 0 = .ok (.iconst 0, 1) := by decide +kernel
theorem dX0_literalsBetween_1 : decode cX0_literalsBetween 1 = .ok (.istore_n 2, 1) := by decide +kernel
theorem dX0_literalsBetween_2 : decode cX0_literalsBetween 2 = .ok (.iconst 0, 1) := by decide +kernel
theorem dX0_literalsBetween_3 : decode cX0_literalsBetween 3 = .ok (.istore_n 3, 1) := by decide +kernel
theorem dX0_literalsBetween_4 : decode cX0_literalsBetween 4 = .ok (.iload_n 3, 1) := by decide +kernel
theorem dX0_literalsBetween_5 : decode cX0_literalsBetween 5 = .ok (.bipush 6, 2) := by decide +kernel
theorem dX0_literalsBetween_7 : decode cX0_literalsBetween 7 = .ok (.if_icmp .ge 25, 3) := by decide +kernel
theorem dX0_literalsBetween_10 : decode cX0_literalsBetween 10 = .ok (.iload_n 3, 1) := by decide +kernel
theorem dX0_literalsBetween_11 : decode cX0_literalsBetween 11 = .ok (.iload_n 0, 1) := by decide +kernel
theorem dX0_literalsBetween_12 : decode cX0_literalsBetween 12 = .ok (.iload_n 1, 1) := by decide +kernel
theorem dX0_literalsBetween_13 : decode cX0_literalsBetween 13 = .ok (.invokestatic 76, 3) := by decide +kernel
theorem dX0_literalsBetween_16 : decode cX0_literalsBetween 16 = .ok (.ifCond .eq 10, 3) := by decide +kernel
theorem dX0_literalsBetween_19 : decode cX0_literalsBetween 19 = .ok (.iload_n 2, 1) := by decide +kernel
theorem dX0_literalsBetween_20 : decode cX0_literalsBetween 20 = .ok (.iload_n 3, 1) := by decide +kernel
theorem dX0_literalsBetween_21 : decode cX0_literalsBetween 21 = .ok (.invokestatic 161, 3) := by decide +kernel
theorem dX0_literalsBetween_24 : decode cX0_literalsBetween 24 = .ok (.ior, 1) := by decide +kernel
theorem dX0_literalsBetween_25 : decode cX0_literalsBetween 25 = .ok (.istore_n 2, 1) := by decide +kernel
theorem dX0_literalsBetween_26 : decode cX0_literalsBetween 26 = .ok (.iinc 3 1, 3) := by decide +kernel
theorem dX0_literalsBetween_29 : decode cX0_literalsBetween 29 = .ok (.goto (-25), 3) := by decide +kernel
theorem dX0_literalsBetween_32 : decode cX0_literalsBetween 32 = .ok (.iload_n 2, 1) := by decide +kernel
theorem dX0_literalsBetween_33 : decode cX0_literalsBetween 33 = .ok (.ireturn, 1) := by decide +kernel
theorem dX0_literalsSmallerThanAll_0 : decode cX0_literalsSmallerThanAll 0 = .ok (.iload_n 0, 1) := by decide +kernel
theorem dX0_literalsSmallerThanAll_1 : decode cX0_literalsSmallerThanAll 1 = .ok (.ldc 164, 2) := by decide +kernel
theorem dX0_literalsSmallerThanAll_3 : decode cX0_literalsSmallerThanAll 3 = .ok (.iand, 1) := by decide +kernel
theorem dX0_literalsSmallerThanAll_4 : decode cX0_literalsSmallerThanAll 4 = .ok (.ifCond .eq 5, 3) := by decide +kernel
theorem dX0_literalsSmallerThanAll_7 : decode cX0_literalsSmallerThanAll 7 = .ok (.iconst 0, 1) := by decide +kernel
theorem dX0_literalsSmallerThanAll_8 : decode cX0_literalsSmallerThanAll 8 = .ok (.ireturn, 1) := by decide +kernel
theorem dX0_literalsSmallerThanAll_9 : decode cX0_literalsSmallerThanAll 9 = .ok (.iconst 0, 1) := by decide +kernel
theorem dX0_literalsSmallerThanAll_10 : decode cX0_literalsSmallerThanAll 10 = .ok (.istore_n 1, 1) := by decide +kernel
theorem dX0_literalsSmallerThanAll_11 : decode cX0_literalsSmallerThanAll 11 = .ok (.iconst 0, 1) := by decide +kernel
theorem dX0_literalsSmallerThanAll_12 : decode cX0_literalsSmallerThanAll 12 = .ok (.istore_n 2, 1) := by decide +kernel
theorem dX0_literalsSmallerThanAll_13 : decode cX0_literalsSmallerThanAll 13 = .ok (.iload_n 2, 1) := by decide +kernel
theorem dX0_literalsSmallerThanAll_14 : decode cX0_literalsSmallerThanAll 14 = .ok (.bipush 6, 2) := by decide +kernel
theorem dX0_literalsSmallerThanAll_16 : decode cX0_literalsSmallerThanAll 16 = .ok (.if_icmp .ge 27, 3) := by decide +kernel
theorem dX0_literalsSmallerThanAll_19 : decode cX0_literalsSmallerThanAll 19 = .ok (.iload_n 0, 1) := by decide +kernel
theorem dX0_literalsSmallerThanAll_20 : decode cX0_literalsSmallerThanAll 20 = .ok (.iload_n 2, 1) := by decide +kernel
theorem dX0_literalsSmallerThanAll_21 : decode cX0_literalsSmallerThanAll 21 = .ok (.invokestatic 161, 3) := by decide +kernel
theorem dX0_literalsSmallerThanAll_24 : decode cX0_literalsSmallerThanAll 24 = .ok (.iand, 1) := by decide +kernel
theorem dX0_literalsSmallerThanAll_25 : decode cX0_literalsSmallerThanAll 25 = .ok (.ifCond .eq 5, 3) := by decide +kernel
theorem dX0_literalsSmallerThanAll_28 : decode cX0_literalsSmallerThanAll 28 = .ok (.iload_n 1, 1) := by decide +kernel
theorem dX0_literalsSmallerThanAll_29 : decode cX0_literalsSmallerThanAll 29 = .ok (.ireturn, 1) := by decide +kernel
theorem dX0_literalsSmallerThanAll_30 : decode cX0_literalsSmallerThanAll 30 = .ok (.iload_n 1, 1) := by decide +kernel
theorem dX0_literalsSmallerThanAll_31 : decode cX0_literalsSmallerThanAll 31 = .ok (.iload_n 2, 1) := by decide +kernel
theorem dX0_literalsSmallerThanAll_32 : decode cX0_literalsSmallerThanAll 32 = .ok (.invokestatic 161, 3) := by decide +kernel
theorem dX0_literalsSmallerThanAll_35 : decode cX0_literalsSmallerThanAll 35 = .ok (.ior, 1) := by decide +kernel
theorem dX0_literalsSmallerThanAll_36 : decode cX0_literalsSmallerThanAll 36 = .ok (.istore_n 1, 1) := by decide +kernel
theorem dX0_literalsSmallerThanAll_37 : decode cX0_literalsSmallerThanAll 37 = .ok (.iinc 2 1, 3) := by decide +kernel
theorem dX0_literalsSmallerThanAll_40 : decode cX0_literalsSmallerThanAll 40 = .ok (.goto (-27), 3) := by decide +kernel
theorem dX0_literalsSmallerThanAll_43 : decode cX0_literalsSmallerThanAll 43 = .ok (.iload_n 1, 1) := by decide +kernel
theorem dX0_literalsSmallerThanAll_44 : decode cX0_literalsSmallerThanAll 44 = .ok (.ireturn, 1) := by decide +kernel
theorem dX0_leastOfTwoOrMore_0 : decode cX0_leastOfTwoOrMore 0 = .ok (.iload_n 0, 1) := by decide +kernel
theorem dX0_leastOfTwoOrMore_1 : decode cX0_leastOfTwoOrMore 1 = .ok (.invokestatic 165, 3) := by decide +kernel
theorem dX0_leastOfTwoOrMore_4 : decode cX0_leastOfTwoOrMore 4 = .ok (.iconst 2, 1) := by decide +kernel
theorem dX0_leastOfTwoOrMore_5 : decode cX0_leastOfTwoOrMore 5 = .ok (.if_icmp .ge 7, 3) := by decide +kernel
theorem dX0_leastOfTwoOrMore_8 : decode cX0_leastOfTwoOrMore 8 = .ok (.iconst 0, 1) := by decide +kernel
theorem dX0_leastOfTwoOrMore_9 : decode cX0_leastOfTwoOrMore 9 = .ok (.goto 7, 3) := by decide +kernel
theorem dX0_leastOfTwoOrMore_12 : decode cX0_leastOfTwoOrMore 12 = .ok (.iload_n 0, 1) := by decide +kernel
theorem dX0_leastOfTwoOrMore_13 : decode cX0_leastOfTwoOrMore 13 = .ok (.iload_n 0, 1) := by decide +kernel
theorem dX0_leastOfTwoOrMore_14 : decode cX0_leastOfTwoOrMore 14 = .ok (.ineg, 1) := by decide +kernel
theorem dX0_leastOfTwoOrMore_15 : decode cX0_leastOfTwoOrMore 15 = .ok (.iand, 1) := by decide +kernel
theorem dX0_leastOfTwoOrMore_16 : decode cX0_leastOfTwoOrMore 16 = .ok (.ireturn, 1) := by decide +kernel
theorem dX0_termsOfSort_0 : decode cX0_termsOfSort 0 = .ok (.iload_n 0, 1) := by decide +kernel
theorem dX0_termsOfSort_1 : decode cX0_termsOfSort 1 = .ok (.tableswitch 36 0 2 #[27, 30, 33], 27) := by decide +kernel
theorem dX0_termsOfSort_28 : decode cX0_termsOfSort 28 = .ok (.ldc 164, 2) := by decide +kernel
theorem dX0_termsOfSort_30 : decode cX0_termsOfSort 30 = .ok (.ireturn, 1) := by decide +kernel
theorem dX0_termsOfSort_31 : decode cX0_termsOfSort 31 = .ok (.ldc 170, 2) := by decide +kernel
theorem dX0_termsOfSort_33 : decode cX0_termsOfSort 33 = .ok (.ireturn, 1) := by decide +kernel
theorem dX0_termsOfSort_34 : decode cX0_termsOfSort 34 = .ok (.ldc 171, 2) := by decide +kernel
theorem dX0_termsOfSort_36 : decode cX0_termsOfSort 36 = .ok (.ireturn, 1) := by decide +kernel
theorem dX0_termsOfSort_37 : decode cX0_termsOfSort 37 = .ok (.ldc 172, 2) := by decide +kernel
theorem dX0_termsOfSort_39 : decode cX0_termsOfSort 39 = .ok (.ireturn, 1) := by decide +kernel
theorem dX4_init_0 : decode cX4_init 0 = .ok (.aload_n 0, 1) := by decide +kernel
theorem dX4_init_1 : decode cX4_init 1 = .ok (.invokespecial 3, 3) := by decide +kernel
theorem dX4_init_4 : decode cX4_init 4 = .ok (.aload_n 0, 1) := by decide +kernel
theorem dX4_init_5 : decode cX4_init 5 = .ok (.bipush 40, 2) := by decide +kernel
theorem dX4_init_7 : decode cX4_init 7 = .ok (.newarray .int, 2) := by decide +kernel
theorem dX4_init_9 : decode cX4_init 9 = .ok (.putfield 9, 3) := by decide +kernel
theorem dX4_init_12 : decode cX4_init 12 = .ok (.aload_n 0, 1) := by decide +kernel
theorem dX4_init_13 : decode cX4_init 13 = .ok (.bipush 40, 2) := by decide +kernel
theorem dX4_init_15 : decode cX4_init 15 = .ok (.newarray .int, 2) := by decide +kernel
theorem dX4_init_17 : decode cX4_init 17 = .ok (.putfield 15, 3) := by decide +kernel
theorem dX4_init_20 : decode cX4_init 20 = .ok (.aload_n 0, 1) := by decide +kernel
theorem dX4_init_21 : decode cX4_init 21 = .ok (.bipush 40, 2) := by decide +kernel
theorem dX4_init_23 : decode cX4_init 23 = .ok (.newarray .int, 2) := by decide +kernel
theorem dX4_init_25 : decode cX4_init 25 = .ok (.putfield 18, 3) := by decide +kernel
theorem dX4_init_28 : decode cX4_init 28 = .ok (.aload_n 0, 1) := by decide +kernel
theorem dX4_init_29 : decode cX4_init 29 = .ok (.bipush 40, 2) := by decide +kernel
theorem dX4_init_31 : decode cX4_init 31 = .ok (.newarray .int, 2) := by decide +kernel
theorem dX4_init_33 : decode cX4_init 33 = .ok (.putfield 21, 3) := by decide +kernel
theorem dX4_init_36 : decode cX4_init 36 = .ok (.return_, 1) := by decide +kernel
theorem dX4_add_0 : decode cX4_add 0 = .ok (.aload_n 0, 1) := by decide +kernel
theorem dX4_add_1 : decode cX4_add 1 = .ok (.getfield 24, 3) := by decide +kernel
theorem dX4_add_4 : decode cX4_add 4 = .ok (.istore 5, 2) := by decide +kernel
theorem dX4_add_6 : decode cX4_add 6 = .ok (.iload 5, 2) := by decide +kernel
theorem dX4_add_8 : decode cX4_add 8 = .ok (.bipush 40, 2) := by decide +kernel
theorem dX4_add_10 : decode cX4_add 10 = .ok (.if_icmp .ge 46, 3) := by decide +kernel
theorem dX4_add_13 : decode cX4_add 13 = .ok (.aload_n 0, 1) := by decide +kernel
theorem dX4_add_14 : decode cX4_add 14 = .ok (.getfield 9, 3) := by decide +kernel
theorem dX4_add_17 : decode cX4_add 17 = .ok (.iload 5, 2) := by decide +kernel
theorem dX4_add_19 : decode cX4_add 19 = .ok (.iload_n 1, 1) := by decide +kernel
theorem dX4_add_20 : decode cX4_add 20 = .ok (.iastore, 1) := by decide +kernel
theorem dX4_add_21 : decode cX4_add 21 = .ok (.aload_n 0, 1) := by decide +kernel
theorem dX4_add_22 : decode cX4_add 22 = .ok (.getfield 15, 3) := by decide +kernel
theorem dX4_add_25 : decode cX4_add 25 = .ok (.iload 5, 2) := by decide +kernel
theorem dX4_add_27 : decode cX4_add 27 = .ok (.iload_n 2, 1) := by decide +kernel
theorem dX4_add_28 : decode cX4_add 28 = .ok (.iastore, 1) := by decide +kernel
theorem dX4_add_29 : decode cX4_add 29 = .ok (.aload_n 0, 1) := by decide +kernel
theorem dX4_add_30 : decode cX4_add 30 = .ok (.getfield 18, 3) := by decide +kernel
theorem dX4_add_33 : decode cX4_add 33 = .ok (.iload 5, 2) := by decide +kernel
theorem dX4_add_35 : decode cX4_add 35 = .ok (.iload_n 3, 1) := by decide +kernel
theorem dX4_add_36 : decode cX4_add 36 = .ok (.iastore, 1) := by decide +kernel
theorem dX4_add_37 : decode cX4_add 37 = .ok (.aload_n 0, 1) := by decide +kernel
theorem dX4_add_38 : decode cX4_add 38 = .ok (.getfield 21, 3) := by decide +kernel
theorem dX4_add_41 : decode cX4_add 41 = .ok (.iload 5, 2) := by decide +kernel
theorem dX4_add_43 : decode cX4_add 43 = .ok (.iload 4, 2) := by decide +kernel
theorem dX4_add_45 : decode cX4_add 45 = .ok (.iastore, 1) := by decide +kernel
theorem dX4_add_46 : decode cX4_add 46 = .ok (.aload_n 0, 1) := by decide +kernel
theorem dX4_add_47 : decode cX4_add 47 = .ok (.dup, 1) := by decide +kernel
theorem dX4_add_48 : decode cX4_add 48 = .ok (.getfield 24, 3) := by decide +kernel
theorem dX4_add_51 : decode cX4_add 51 = .ok (.iconst 1, 1) := by decide +kernel
theorem dX4_add_52 : decode cX4_add 52 = .ok (.iadd, 1) := by decide +kernel
theorem dX4_add_53 : decode cX4_add 53 = .ok (.putfield 24, 3) := by decide +kernel
theorem dX4_add_56 : decode cX4_add 56 = .ok (.iload 5, 2) := by decide +kernel
theorem dX4_add_58 : decode cX4_add 58 = .ok (.ireturn, 1) := by decide +kernel
theorem dX2_init_0 : decode cX2_init 0 = .ok (.aload_n 0, 1) := by decide +kernel
theorem dX2_init_1 : decode cX2_init 1 = .ok (.invokespecial 3, 3) := by decide +kernel
theorem dX2_init_4 : decode cX2_init 4 = .ok (.aload_n 0, 1) := by decide +kernel
theorem dX2_init_5 : decode cX2_init 5 = .ok (.bipush 12, 2) := by decide +kernel
theorem dX2_init_7 : decode cX2_init 7 = .ok (.newarray .int, 2) := by decide +kernel
theorem dX2_init_9 : decode cX2_init 9 = .ok (.putfield 9, 3) := by decide +kernel
theorem dX2_init_12 : decode cX2_init 12 = .ok (.aload_n 0, 1) := by decide +kernel
theorem dX2_init_13 : decode cX2_init 13 = .ok (.bipush 12, 2) := by decide +kernel
theorem dX2_init_15 : decode cX2_init 15 = .ok (.newarray .int, 2) := by decide +kernel
theorem dX2_init_17 : decode cX2_init 17 = .ok (.putfield 15, 3) := by decide +kernel
theorem dX2_init_20 : decode cX2_init 20 = .ok (.aload_n 0, 1) := by decide +kernel
theorem dX2_init_21 : decode cX2_init 21 = .ok (.bipush 12, 2) := by decide +kernel
theorem dX2_init_23 : decode cX2_init 23 = .ok (.newarray .int, 2) := by decide +kernel
theorem dX2_init_25 : decode cX2_init 25 = .ok (.putfield 18, 3) := by decide +kernel
theorem dX2_init_28 : decode cX2_init 28 = .ok (.return_, 1) := by decide +kernel
theorem dX2_has_0 : decode cX2_has 0 = .ok (.iload_n 1, 1) := by decide +kernel
theorem dX2_has_1 : decode cX2_has 1 = .ok (.ifCond .lt 15, 3) := by decide +kernel
theorem dX2_has_4 : decode cX2_has 4 = .ok (.iload_n 1, 1) := by decide +kernel
theorem dX2_has_5 : decode cX2_has 5 = .ok (.aload_n 0, 1) := by decide +kernel
theorem dX2_has_6 : decode cX2_has 6 = .ok (.getfield 21, 3) := by decide +kernel
theorem dX2_has_9 : decode cX2_has 9 = .ok (.if_icmp .ge 7, 3) := by decide +kernel
theorem dX2_has_12 : decode cX2_has 12 = .ok (.iconst 1, 1) := by decide +kernel
theorem dX2_has_13 : decode cX2_has 13 = .ok (.goto 4, 3) := by decide +kernel
theorem dX2_has_16 : decode cX2_has 16 = .ok (.iconst 0, 1) := by decide +kernel
theorem dX2_has_17 : decode cX2_has 17 = .ok (.ireturn, 1) := by decide +kernel
theorem dX2_add_0 : decode cX2_add 0 = .ok (.aload_n 0, 1) := by decide +kernel
theorem dX2_add_1 : decode cX2_add 1 = .ok (.getfield 21, 3) := by decide +kernel
theorem dX2_add_4 : decode cX2_add 4 = .ok (.istore_n 2, 1) := by decide +kernel
theorem dX2_add_5 : decode cX2_add 5 = .ok (.iload_n 2, 1) := by decide +kernel
theorem dX2_add_6 : decode cX2_add 6 = .ok (.bipush 12, 2) := by decide +kernel
theorem dX2_add_8 : decode cX2_add 8 = .ok (.if_icmp .ge 27, 3) := by decide +kernel
theorem dX2_add_11 : decode cX2_add 11 = .ok (.aload_n 0, 1) := by decide +kernel
theorem dX2_add_12 : decode cX2_add 12 = .ok (.getfield 9, 3) := by decide +kernel
theorem dX2_add_15 : decode cX2_add 15 = .ok (.iload_n 2, 1) := by decide +kernel
theorem dX2_add_16 : decode cX2_add 16 = .ok (.iload_n 1, 1) := by decide +kernel
theorem dX2_add_17 : decode cX2_add 17 = .ok (.iastore, 1) := by decide +kernel
theorem dX2_add_18 : decode cX2_add 18 = .ok (.aload_n 0, 1) := by decide +kernel
theorem dX2_add_19 : decode cX2_add 19 = .ok (.getfield 15, 3) := by decide +kernel
theorem dX2_add_22 : decode cX2_add 22 = .ok (.iload_n 2, 1) := by decide +kernel
theorem dX2_add_23 : decode cX2_add 23 = .ok (.iconst 2, 1) := by decide +kernel
theorem dX2_add_24 : decode cX2_add 24 = .ok (.iastore, 1) := by decide +kernel
theorem dX2_add_25 : decode cX2_add 25 = .ok (.aload_n 0, 1) := by decide +kernel
theorem dX2_add_26 : decode cX2_add 26 = .ok (.dup, 1) := by decide +kernel
theorem dX2_add_27 : decode cX2_add 27 = .ok (.getfield 21, 3) := by decide +kernel
theorem dX2_add_30 : decode cX2_add 30 = .ok (.iconst 1, 1) := by decide +kernel
theorem dX2_add_31 : decode cX2_add 31 = .ok (.iadd, 1) := by decide +kernel
theorem dX2_add_32 : decode cX2_add 32 = .ok (.putfield 21, 3) := by decide +kernel
theorem dX2_add_35 : decode cX2_add 35 = .ok (.iload_n 2, 1) := by decide +kernel
theorem dX2_add_36 : decode cX2_add 36 = .ok (.ireturn, 1) := by decide +kernel
theorem dX2_pathOf_0 : decode cX2_pathOf 0 = .ok (.aload_n 0, 1) := by decide +kernel
theorem dX2_pathOf_1 : decode cX2_pathOf 1 = .ok (.iload_n 1, 1) := by decide +kernel
theorem dX2_pathOf_2 : decode cX2_pathOf 2 = .ok (.invokevirtual 25, 3) := by decide +kernel
theorem dX2_pathOf_5 : decode cX2_pathOf 5 = .ok (.ifCond .eq 12, 3) := by decide +kernel
theorem dX2_pathOf_8 : decode cX2_pathOf 8 = .ok (.aload_n 0, 1) := by decide +kernel
theorem dX2_pathOf_9 : decode cX2_pathOf 9 = .ok (.getfield 9, 3) := by decide +kernel
theorem dX2_pathOf_12 : decode cX2_pathOf 12 = .ok (.iload_n 1, 1) := by decide +kernel
theorem dX2_pathOf_13 : decode cX2_pathOf 13 = .ok (.iaload, 1) := by decide +kernel
theorem dX2_pathOf_14 : decode cX2_pathOf 14 = .ok (.goto 4, 3) := by decide +kernel
theorem dX2_pathOf_17 : decode cX2_pathOf 17 = .ok (.iconst (-1), 1) := by decide +kernel
theorem dX2_pathOf_18 : decode cX2_pathOf 18 = .ok (.ireturn, 1) := by decide +kernel
theorem dX2_severityOf_0 : decode cX2_severityOf 0 = .ok (.aload_n 0, 1) := by decide +kernel
theorem dX2_severityOf_1 : decode cX2_severityOf 1 = .ok (.iload_n 1, 1) := by decide +kernel
theorem dX2_severityOf_2 : decode cX2_severityOf 2 = .ok (.invokevirtual 25, 3) := by decide +kernel
theorem dX2_severityOf_5 : decode cX2_severityOf 5 = .ok (.ifCond .eq 12, 3) := by decide +kernel
theorem dX2_severityOf_8 : decode cX2_severityOf 8 = .ok (.aload_n 0, 1) := by decide +kernel
theorem dX2_severityOf_9 : decode cX2_severityOf 9 = .ok (.getfield 15, 3) := by decide +kernel
theorem dX2_severityOf_12 : decode cX2_severityOf 12 = .ok (.iload_n 1, 1) := by decide +kernel
theorem dX2_severityOf_13 : decode cX2_severityOf 13 = .ok (.iaload, 1) := by decide +kernel
theorem dX2_severityOf_14 : decode cX2_severityOf 14 = .ok (.goto 4, 3) := by decide +kernel
theorem dX2_severityOf_17 : decode cX2_severityOf 17 = .ok (.iconst 2, 1) := by decide +kernel
theorem dX2_severityOf_18 : decode cX2_severityOf 18 = .ok (.ireturn, 1) := by decide +kernel
theorem dX2_leads_0 : decode cX2_leads 0 = .ok (.iload_n 1, 1) := by decide +kernel
theorem dX2_leads_1 : decode cX2_leads 1 = .ok (.iload_n 2, 1) := by decide +kernel
theorem dX2_leads_2 : decode cX2_leads 2 = .ok (.if_icmp .eq 24, 3) := by decide +kernel
theorem dX2_leads_5 : decode cX2_leads 5 = .ok (.aload_n 0, 1) := by decide +kernel
theorem dX2_leads_6 : decode cX2_leads 6 = .ok (.iload_n 1, 1) := by decide +kernel
theorem dX2_leads_7 : decode cX2_leads 7 = .ok (.invokevirtual 25, 3) := by decide +kernel
theorem dX2_leads_10 : decode cX2_leads 10 = .ok (.ifCond .eq 20, 3) := by decide +kernel
theorem dX2_leads_13 : decode cX2_leads 13 = .ok (.aload_n 0, 1) := by decide +kernel
theorem dX2_leads_14 : decode cX2_leads 14 = .ok (.getfield 18, 3) := by decide +kernel
theorem dX2_leads_17 : decode cX2_leads 17 = .ok (.iload_n 1, 1) := by decide +kernel
theorem dX2_leads_18 : decode cX2_leads 18 = .ok (.iaload, 1) := by decide +kernel
theorem dX2_leads_19 : decode cX2_leads 19 = .ok (.iload_n 2, 1) := by decide +kernel
theorem dX2_leads_20 : decode cX2_leads 20 = .ok (.invokestatic 29, 3) := by decide +kernel
theorem dX2_leads_23 : decode cX2_leads 23 = .ok (.ifCond .eq 7, 3) := by decide +kernel
theorem dX2_leads_26 : decode cX2_leads 26 = .ok (.iconst 1, 1) := by decide +kernel
theorem dX2_leads_27 : decode cX2_leads 27 = .ok (.goto 4, 3) := by decide +kernel
theorem dX2_leads_30 : decode cX2_leads 30 = .ok (.iconst 0, 1) := by decide +kernel
theorem dX2_leads_31 : decode cX2_leads 31 = .ok (.ireturn, 1) := by decide +kernel
theorem dX2_join_0 : decode cX2_join 0 = .ok (.aload_n 0, 1) := by decide +kernel
theorem dX2_join_1 : decode cX2_join 1 = .ok (.iload_n 2, 1) := by decide +kernel
theorem dX2_join_2 : decode cX2_join 2 = .ok (.invokevirtual 25, 3) := by decide +kernel
theorem dX2_join_5 : decode cX2_join 5 = .ok (.ifCond .ne 4, 3) := by decide +kernel
theorem dX2_join_8 : decode cX2_join 8 = .ok (.return_, 1) := by decide +kernel
theorem dX2_join_9 : decode cX2_join 9 = .ok (.aload_n 0, 1) := by decide +kernel
theorem dX2_join_10 : decode cX2_join 10 = .ok (.getfield 18, 3) := by decide +kernel
theorem dX2_join_13 : decode cX2_join 13 = .ok (.iload_n 2, 1) := by decide +kernel
theorem dX2_join_14 : decode cX2_join 14 = .ok (.iaload, 1) := by decide +kernel
theorem dX2_join_15 : decode cX2_join 15 = .ok (.iconst 1, 1) := by decide +kernel
theorem dX2_join_16 : decode cX2_join 16 = .ok (.iload_n 2, 1) := by decide +kernel
theorem dX2_join_17 : decode cX2_join 17 = .ok (.ishl, 1) := by decide +kernel
theorem dX2_join_18 : decode cX2_join 18 = .ok (.ior, 1) := by decide +kernel
theorem dX2_join_19 : decode cX2_join 19 = .ok (.istore_n 3, 1) := by decide +kernel
theorem dX2_join_20 : decode cX2_join 20 = .ok (.iconst 0, 1) := by decide +kernel
theorem dX2_join_21 : decode cX2_join 21 = .ok (.istore 4, 2) := by decide +kernel
theorem dX2_join_23 : decode cX2_join 23 = .ok (.iload 4, 2) := by decide +kernel
theorem dX2_join_25 : decode cX2_join 25 = .ok (.aload_n 0, 1) := by decide +kernel
theorem dX2_join_26 : decode cX2_join 26 = .ok (.getfield 21, 3) := by decide +kernel
theorem dX2_join_29 : decode cX2_join 29 = .ok (.if_icmp .ge 30, 3) := by decide +kernel
theorem dX2_join_32 : decode cX2_join 32 = .ok (.aload_n 0, 1) := by decide +kernel
theorem dX2_join_33 : decode cX2_join 33 = .ok (.iload 4, 2) := by decide +kernel
theorem dX2_join_35 : decode cX2_join 35 = .ok (.iload_n 1, 1) := by decide +kernel
theorem dX2_join_36 : decode cX2_join 36 = .ok (.invokevirtual 33, 3) := by decide +kernel
theorem dX2_join_39 : decode cX2_join 39 = .ok (.ifCond .eq 14, 3) := by decide +kernel
theorem dX2_join_42 : decode cX2_join 42 = .ok (.aload_n 0, 1) := by decide +kernel
theorem dX2_join_43 : decode cX2_join 43 = .ok (.getfield 18, 3) := by decide +kernel
theorem dX2_join_46 : decode cX2_join 46 = .ok (.iload 4, 2) := by decide +kernel
theorem dX2_join_48 : decode cX2_join 48 = .ok (.dup2, 1) := by decide +kernel
theorem dX2_join_49 : decode cX2_join 49 = .ok (.iaload, 1) := by decide +kernel
theorem dX2_join_50 : decode cX2_join 50 = .ok (.iload_n 3, 1) := by decide +kernel
theorem dX2_join_51 : decode cX2_join 51 = .ok (.ior, 1) := by decide +kernel
theorem dX2_join_52 : decode cX2_join 52 = .ok (.iastore, 1) := by decide +kernel
theorem dX2_join_53 : decode cX2_join 53 = .ok (.iinc 4 1, 3) := by decide +kernel
theorem dX2_join_56 : decode cX2_join 56 = .ok (.goto (-33), 3) := by decide +kernel
theorem dX2_join_59 : decode cX2_join 59 = .ok (.return_, 1) := by decide +kernel
theorem dX2_height_0 : decode cX2_height 0 = .ok (.aload_n 0, 1) := by decide +kernel
theorem dX2_height_1 : decode cX2_height 1 = .ok (.iload_n 1, 1) := by decide +kernel
theorem dX2_height_2 : decode cX2_height 2 = .ok (.invokevirtual 25, 3) := by decide +kernel
theorem dX2_height_5 : decode cX2_height 5 = .ok (.ifCond .eq 15, 3) := by decide +kernel
theorem dX2_height_8 : decode cX2_height 8 = .ok (.aload_n 0, 1) := by decide +kernel
theorem dX2_height_9 : decode cX2_height 9 = .ok (.getfield 18, 3) := by decide +kernel
theorem dX2_height_12 : decode cX2_height 12 = .ok (.iload_n 1, 1) := by decide +kernel
theorem dX2_height_13 : decode cX2_height 13 = .ok (.iaload, 1) := by decide +kernel
theorem dX2_height_14 : decode cX2_height 14 = .ok (.invokestatic 36, 3) := by decide +kernel
theorem dX2_height_17 : decode cX2_height 17 = .ok (.goto 4, 3) := by decide +kernel
theorem dX2_height_20 : decode cX2_height 20 = .ok (.iconst 0, 1) := by decide +kernel
theorem dX2_height_21 : decode cX2_height 21 = .ok (.ireturn, 1) := by decide +kernel
theorem dX3_init_0 : decode cX3_init 0 = .ok (.aload_n 0, 1) := by decide +kernel
theorem dX3_init_1 : decode cX3_init 1 = .ok (.invokespecial 3, 3) := by decide +kernel
theorem dX3_init_4 : decode cX3_init 4 = .ok (.aload_n 0, 1) := by decide +kernel
theorem dX3_init_5 : decode cX3_init 5 = .ok (.bipush 24, 2) := by decide +kernel
theorem dX3_init_7 : decode cX3_init 7 = .ok (.newarray .int, 2) := by decide +kernel
theorem dX3_init_9 : decode cX3_init 9 = .ok (.putfield 9, 3) := by decide +kernel
theorem dX3_init_12 : decode cX3_init 12 = .ok (.aload_n 0, 1) := by decide +kernel
theorem dX3_init_13 : decode cX3_init 13 = .ok (.bipush 24, 2) := by decide +kernel
theorem dX3_init_15 : decode cX3_init 15 = .ok (.newarray .int, 2) := by decide +kernel
theorem dX3_init_17 : decode cX3_init 17 = .ok (.putfield 15, 3) := by decide +kernel
theorem dX3_init_20 : decode cX3_init 20 = .ok (.aload_n 0, 1) := by decide +kernel
theorem dX3_init_21 : decode cX3_init 21 = .ok (.bipush 24, 2) := by decide +kernel
theorem dX3_init_23 : decode cX3_init 23 = .ok (.newarray .int, 2) := by decide +kernel
theorem dX3_init_25 : decode cX3_init 25 = .ok (.putfield 18, 3) := by decide +kernel
theorem dX3_init_28 : decode cX3_init 28 = .ok (.return_, 1) := by decide +kernel
theorem dX3_add_0 : decode cX3_add 0 = .ok (.aload_n 0, 1) := by decide +kernel
theorem dX3_add_1 : decode cX3_add 1 = .ok (.getfield 21, 3) := by decide +kernel
theorem dX3_add_4 : decode cX3_add 4 = .ok (.bipush 24, 2) := by decide +kernel
theorem dX3_add_6 : decode cX3_add 6 = .ok (.if_icmp .ge 43, 3) := by decide +kernel
theorem dX3_add_9 : decode cX3_add 9 = .ok (.aload_n 0, 1) := by decide +kernel
theorem dX3_add_10 : decode cX3_add 10 = .ok (.getfield 9, 3) := by decide +kernel
theorem dX3_add_13 : decode cX3_add 13 = .ok (.aload_n 0, 1) := by decide +kernel
theorem dX3_add_14 : decode cX3_add 14 = .ok (.getfield 21, 3) := by decide +kernel
theorem dX3_add_17 : decode cX3_add 17 = .ok (.iload_n 1, 1) := by decide +kernel
theorem dX3_add_18 : decode cX3_add 18 = .ok (.iastore, 1) := by decide +kernel
theorem dX3_add_19 : decode cX3_add 19 = .ok (.aload_n 0, 1) := by decide +kernel
theorem dX3_add_20 : decode cX3_add 20 = .ok (.getfield 15, 3) := by decide +kernel
theorem dX3_add_23 : decode cX3_add 23 = .ok (.aload_n 0, 1) := by decide +kernel
theorem dX3_add_24 : decode cX3_add 24 = .ok (.getfield 21, 3) := by decide +kernel
theorem dX3_add_27 : decode cX3_add 27 = .ok (.iload_n 2, 1) := by decide +kernel
theorem dX3_add_28 : decode cX3_add 28 = .ok (.iastore, 1) := by decide +kernel
theorem dX3_add_29 : decode cX3_add 29 = .ok (.aload_n 0, 1) := by decide +kernel
theorem dX3_add_30 : decode cX3_add 30 = .ok (.getfield 18, 3) := by decide +kernel
theorem dX3_add_33 : decode cX3_add 33 = .ok (.aload_n 0, 1) := by decide +kernel
theorem dX3_add_34 : decode cX3_add 34 = .ok (.getfield 21, 3) := by decide +kernel
theorem dX3_add_37 : decode cX3_add 37 = .ok (.iload_n 3, 1) := by decide +kernel
theorem dX3_add_38 : decode cX3_add 38 = .ok (.iastore, 1) := by decide +kernel
theorem dX3_add_39 : decode cX3_add 39 = .ok (.aload_n 0, 1) := by decide +kernel
theorem dX3_add_40 : decode cX3_add 40 = .ok (.dup, 1) := by decide +kernel
theorem dX3_add_41 : decode cX3_add 41 = .ok (.getfield 21, 3) := by decide +kernel
theorem dX3_add_44 : decode cX3_add 44 = .ok (.iconst 1, 1) := by decide +kernel
theorem dX3_add_45 : decode cX3_add 45 = .ok (.iadd, 1) := by decide +kernel
theorem dX3_add_46 : decode cX3_add 46 = .ok (.putfield 21, 3) := by decide +kernel
theorem dX3_add_49 : decode cX3_add 49 = .ok (.return_, 1) := by decide +kernel
theorem dX3_termsOf_0 : decode cX3_termsOf 0 = .ok (.iconst 0, 1) := by decide +kernel
theorem dX3_termsOf_1 : decode cX3_termsOf 1 = .ok (.istore_n 3, 1) := by decide +kernel
theorem dX3_termsOf_2 : decode cX3_termsOf 2 = .ok (.iconst 0, 1) := by decide +kernel
theorem dX3_termsOf_3 : decode cX3_termsOf 3 = .ok (.istore 4, 2) := by decide +kernel
theorem dX3_termsOf_5 : decode cX3_termsOf 5 = .ok (.iload 4, 2) := by decide +kernel
theorem dX3_termsOf_7 : decode cX3_termsOf 7 = .ok (.aload_n 0, 1) := by decide +kernel
theorem dX3_termsOf_8 : decode cX3_termsOf 8 = .ok (.getfield 21, 3) := by decide +kernel
theorem dX3_termsOf_11 : decode cX3_termsOf 11 = .ok (.if_icmp .ge 41, 3) := by decide +kernel
theorem dX3_termsOf_14 : decode cX3_termsOf 14 = .ok (.aload_n 0, 1) := by decide +kernel
theorem dX3_termsOf_15 : decode cX3_termsOf 15 = .ok (.getfield 9, 3) := by decide +kernel
theorem dX3_termsOf_18 : decode cX3_termsOf 18 = .ok (.iload 4, 2) := by decide +kernel
theorem dX3_termsOf_20 : decode cX3_termsOf 20 = .ok (.iaload, 1) := by decide +kernel
theorem dX3_termsOf_21 : decode cX3_termsOf 21 = .ok (.iload_n 1, 1) := by decide +kernel
theorem dX3_termsOf_22 : decode cX3_termsOf 22 = .ok (.if_icmp .ne 24, 3) := by decide +kernel
theorem dX3_termsOf_25 : decode cX3_termsOf 25 = .ok (.iload_n 3, 1) := by decide +kernel
theorem dX3_termsOf_26 : decode cX3_termsOf 26 = .ok (.aload_n 0, 1) := by decide +kernel
theorem dX3_termsOf_27 : decode cX3_termsOf 27 = .ok (.getfield 15, 3) := by decide +kernel
theorem dX3_termsOf_30 : decode cX3_termsOf 30 = .ok (.iload 4, 2) := by decide +kernel
theorem dX3_termsOf_32 : decode cX3_termsOf 32 = .ok (.iaload, 1) := by decide +kernel
theorem dX3_termsOf_33 : decode cX3_termsOf 33 = .ok (.aload_n 0, 1) := by decide +kernel
theorem dX3_termsOf_34 : decode cX3_termsOf 34 = .ok (.getfield 18, 3) := by decide +kernel
theorem dX3_termsOf_37 : decode cX3_termsOf 37 = .ok (.iload 4, 2) := by decide +kernel
theorem dX3_termsOf_39 : decode cX3_termsOf 39 = .ok (.iaload, 1) := by decide +kernel
theorem dX3_termsOf_40 : decode cX3_termsOf 40 = .ok (.aload_n 2, 1) := by decide +kernel
theorem dX3_termsOf_41 : decode cX3_termsOf 41 = .ok (.invokestatic 25, 3) := by decide +kernel
theorem dX3_termsOf_44 : decode cX3_termsOf 44 = .ok (.ior, 1) := by decide +kernel
theorem dX3_termsOf_45 : decode cX3_termsOf 45 = .ok (.istore_n 3, 1) := by decide +kernel
theorem dX3_termsOf_46 : decode cX3_termsOf 46 = .ok (.iinc 4 1, 3) := by decide +kernel
theorem dX3_termsOf_49 : decode cX3_termsOf 49 = .ok (.goto (-44), 3) := by decide +kernel
theorem dX3_termsOf_52 : decode cX3_termsOf 52 = .ok (.iload_n 3, 1) := by decide +kernel
theorem dX3_termsOf_53 : decode cX3_termsOf 53 = .ok (.ireturn, 1) := by decide +kernel
theorem dX3_termsAimedAt_0 : decode cX3_termsAimedAt 0 = .ok (.iload_n 0, 1) := by decide +kernel
theorem dX3_termsAimedAt_1 : decode cX3_termsAimedAt 1 = .ok (.tableswitch 44 0 2 #[27, 31, 37], 27) := by decide +kernel
theorem dX3_termsAimedAt_28 : decode cX3_termsAimedAt 28 = .ok (.iconst 1, 1) := by decide +kernel
theorem dX3_termsAimedAt_29 : decode cX3_termsAimedAt 29 = .ok (.iload_n 1, 1) := by decide +kernel
theorem dX3_termsAimedAt_30 : decode cX3_termsAimedAt 30 = .ok (.ishl, 1) := by decide +kernel
theorem dX3_termsAimedAt_31 : decode cX3_termsAimedAt 31 = .ok (.ireturn, 1) := by decide +kernel
theorem dX3_termsAimedAt_32 : decode cX3_termsAimedAt 32 = .ok (.aload_n 2, 1) := by decide +kernel
theorem dX3_termsAimedAt_33 : decode cX3_termsAimedAt 33 = .ok (.iload_n 1, 1) := by decide +kernel
theorem dX3_termsAimedAt_34 : decode cX3_termsAimedAt 34 = .ok (.invokevirtual 29, 3) := by decide +kernel
theorem dX3_termsAimedAt_37 : decode cX3_termsAimedAt 37 = .ok (.ireturn, 1) := by decide +kernel
theorem dX3_termsAimedAt_38 : decode cX3_termsAimedAt 38 = .ok (.aload_n 2, 1) := by decide +kernel
theorem dX3_termsAimedAt_39 : decode cX3_termsAimedAt 39 = .ok (.iconst (-1), 1) := by decide +kernel
theorem dX3_termsAimedAt_40 : decode cX3_termsAimedAt 40 = .ok (.iload_n 1, 1) := by decide +kernel
theorem dX3_termsAimedAt_41 : decode cX3_termsAimedAt 41 = .ok (.invokevirtual 35, 3) := by decide +kernel
theorem dX3_termsAimedAt_44 : decode cX3_termsAimedAt 44 = .ok (.ireturn, 1) := by decide +kernel
theorem dX3_termsAimedAt_45 : decode cX3_termsAimedAt 45 = .ok (.aload_n 2, 1) := by decide +kernel
theorem dX3_termsAimedAt_46 : decode cX3_termsAimedAt 46 = .ok (.iload_n 1, 1) := by decide +kernel
theorem dX3_termsAimedAt_47 : decode cX3_termsAimedAt 47 = .ok (.invokevirtual 39, 3) := by decide +kernel
theorem dX3_termsAimedAt_50 : decode cX3_termsAimedAt 50 = .ok (.ireturn, 1) := by decide +kernel
theorem dX1_init_0 : decode cX1_init 0 = .ok (.aload_n 0, 1) := by decide +kernel
theorem dX1_init_1 : decode cX1_init 1 = .ok (.invokespecial 3, 3) := by decide +kernel
theorem dX1_init_4 : decode cX1_init 4 = .ok (.aload_n 0, 1) := by decide +kernel
theorem dX1_init_5 : decode cX1_init 5 = .ok (.sipush 160, 3) := by decide +kernel
theorem dX1_init_8 : decode cX1_init 8 = .ok (.newarray .int, 2) := by decide +kernel
theorem dX1_init_10 : decode cX1_init 10 = .ok (.putfield 9, 3) := by decide +kernel
theorem dX1_init_13 : decode cX1_init 13 = .ok (.aload_n 0, 1) := by decide +kernel
theorem dX1_init_14 : decode cX1_init 14 = .ok (.sipush 256, 3) := by decide +kernel
theorem dX1_init_17 : decode cX1_init 17 = .ok (.newarray .int, 2) := by decide +kernel
theorem dX1_init_19 : decode cX1_init 19 = .ok (.putfield 15, 3) := by decide +kernel
theorem dX1_init_22 : decode cX1_init 22 = .ok (.return_, 1) := by decide +kernel
theorem dX1_has_0 : decode cX1_has 0 = .ok (.aload_n 0, 1) := by decide +kernel
theorem dX1_has_1 : decode cX1_has 1 = .ok (.iload_n 1, 1) := by decide +kernel
theorem dX1_has_2 : decode cX1_has 2 = .ok (.iload_n 2, 1) := by decide +kernel
theorem dX1_has_3 : decode cX1_has 3 = .ok (.invokevirtual 18, 3) := by decide +kernel
theorem dX1_has_6 : decode cX1_has 6 = .ok (.iload_n 3, 1) := by decide +kernel
theorem dX1_has_7 : decode cX1_has 7 = .ok (.invokestatic 22, 3) := by decide +kernel
theorem dX1_has_10 : decode cX1_has 10 = .ok (.ireturn, 1) := by decide +kernel
theorem dX1_put_0 : decode cX1_put 0 = .ok (.iload_n 1, 1) := by decide +kernel
theorem dX1_put_1 : decode cX1_put 1 = .ok (.iload_n 2, 1) := by decide +kernel
theorem dX1_put_2 : decode cX1_put 2 = .ok (.iload_n 3, 1) := by decide +kernel
theorem dX1_put_3 : decode cX1_put 3 = .ok (.invokestatic 26, 3) := by decide +kernel
theorem dX1_put_6 : decode cX1_put 6 = .ok (.ifCond .eq 47, 3) := by decide +kernel
theorem dX1_put_9 : decode cX1_put 9 = .ok (.aload_n 0, 1) := by decide +kernel
theorem dX1_put_10 : decode cX1_put 10 = .ok (.getfield 9, 3) := by decide +kernel
theorem dX1_put_13 : decode cX1_put 13 = .ok (.iload_n 1, 1) := by decide +kernel
theorem dX1_put_14 : decode cX1_put 14 = .ok (.bipush 8, 2) := by decide +kernel
theorem dX1_put_16 : decode cX1_put 16 = .ok (.imul, 1) := by decide +kernel
theorem dX1_put_17 : decode cX1_put 17 = .ok (.iload_n 2, 1) := by decide +kernel
theorem dX1_put_18 : decode cX1_put 18 = .ok (.iadd, 1) := by decide +kernel
theorem dX1_put_19 : decode cX1_put 19 = .ok (.dup2, 1) := by decide +kernel
theorem dX1_put_20 : decode cX1_put 20 = .ok (.iaload, 1) := by decide +kernel
theorem dX1_put_21 : decode cX1_put 21 = .ok (.iconst 1, 1) := by decide +kernel
theorem dX1_put_22 : decode cX1_put 22 = .ok (.iload_n 3, 1) := by decide +kernel
theorem dX1_put_23 : decode cX1_put 23 = .ok (.ishl, 1) := by decide +kernel
theorem dX1_put_24 : decode cX1_put 24 = .ok (.ior, 1) := by decide +kernel
theorem dX1_put_25 : decode cX1_put 25 = .ok (.iastore, 1) := by decide +kernel
theorem dX1_put_26 : decode cX1_put 26 = .ok (.aload_n 0, 1) := by decide +kernel
theorem dX1_put_27 : decode cX1_put 27 = .ok (.getfield 15, 3) := by decide +kernel
theorem dX1_put_30 : decode cX1_put 30 = .ok (.iload_n 3, 1) := by decide +kernel
theorem dX1_put_31 : decode cX1_put 31 = .ok (.bipush 8, 2) := by decide +kernel
theorem dX1_put_33 : decode cX1_put 33 = .ok (.imul, 1) := by decide +kernel
theorem dX1_put_34 : decode cX1_put 34 = .ok (.iload_n 2, 1) := by decide +kernel
theorem dX1_put_35 : decode cX1_put 35 = .ok (.iadd, 1) := by decide +kernel
theorem dX1_put_36 : decode cX1_put 36 = .ok (.dup2, 1) := by decide +kernel
theorem dX1_put_37 : decode cX1_put 37 = .ok (.iaload, 1) := by decide +kernel
theorem dX1_put_38 : decode cX1_put 38 = .ok (.iconst 1, 1) := by decide +kernel
theorem dX1_put_39 : decode cX1_put 39 = .ok (.iload_n 1, 1) := by decide +kernel
theorem dX1_put_40 : decode cX1_put 40 = .ok (.ishl, 1) := by decide +kernel
theorem dX1_put_41 : decode cX1_put 41 = .ok (.ior, 1) := by decide +kernel
theorem dX1_put_42 : decode cX1_put 42 = .ok (.iastore, 1) := by decide +kernel
theorem dX1_put_43 : decode cX1_put 43 = .ok (.aload_n 0, 1) := by decide +kernel
theorem dX1_put_44 : decode cX1_put 44 = .ok (.dup, 1) := by decide +kernel
theorem dX1_put_45 : decode cX1_put 45 = .ok (.getfield 30, 3) := by decide +kernel
theorem dX1_put_48 : decode cX1_put 48 = .ok (.iconst 1, 1) := by decide +kernel
theorem dX1_put_49 : decode cX1_put 49 = .ok (.iadd, 1) := by decide +kernel
theorem dX1_put_50 : decode cX1_put 50 = .ok (.putfield 30, 3) := by decide +kernel
theorem dX1_put_53 : decode cX1_put 53 = .ok (.return_, 1) := by decide +kernel
theorem dX1_takeOut_0 : decode cX1_takeOut 0 = .ok (.iload_n 1, 1) := by decide +kernel
theorem dX1_takeOut_1 : decode cX1_takeOut 1 = .ok (.iload_n 2, 1) := by decide +kernel
theorem dX1_takeOut_2 : decode cX1_takeOut 2 = .ok (.iload_n 3, 1) := by decide +kernel
theorem dX1_takeOut_3 : decode cX1_takeOut 3 = .ok (.invokestatic 26, 3) := by decide +kernel
theorem dX1_takeOut_6 : decode cX1_takeOut 6 = .ok (.ifCond .eq 51, 3) := by decide +kernel
theorem dX1_takeOut_9 : decode cX1_takeOut 9 = .ok (.aload_n 0, 1) := by decide +kernel
theorem dX1_takeOut_10 : decode cX1_takeOut 10 = .ok (.getfield 9, 3) := by decide +kernel
theorem dX1_takeOut_13 : decode cX1_takeOut 13 = .ok (.iload_n 1, 1) := by decide +kernel
theorem dX1_takeOut_14 : decode cX1_takeOut 14 = .ok (.bipush 8, 2) := by decide +kernel
theorem dX1_takeOut_16 : decode cX1_takeOut 16 = .ok (.imul, 1) := by decide +kernel
theorem dX1_takeOut_17 : decode cX1_takeOut 17 = .ok (.iload_n 2, 1) := by decide +kernel
theorem dX1_takeOut_18 : decode cX1_takeOut 18 = .ok (.iadd, 1) := by decide +kernel
theorem dX1_takeOut_19 : decode cX1_takeOut 19 = .ok (.dup2, 1) := by decide +kernel
theorem dX1_takeOut_20 : decode cX1_takeOut 20 = .ok (.iaload, 1) := by decide +kernel
theorem dX1_takeOut_21 : decode cX1_takeOut 21 = .ok (.iconst 1, 1) := by decide +kernel
theorem dX1_takeOut_22 : decode cX1_takeOut 22 = .ok (.iload_n 3, 1) := by decide +kernel
theorem dX1_takeOut_23 : decode cX1_takeOut 23 = .ok (.ishl, 1) := by decide +kernel
theorem dX1_takeOut_24 : decode cX1_takeOut 24 = .ok (.iconst (-1), 1) := by decide +kernel
theorem dX1_takeOut_25 : decode cX1_takeOut 25 = .ok (.ixor, 1) := by decide +kernel
theorem dX1_takeOut_26 : decode cX1_takeOut 26 = .ok (.iand, 1) := by decide +kernel
theorem dX1_takeOut_27 : decode cX1_takeOut 27 = .ok (.iastore, 1) := by decide +kernel
theorem dX1_takeOut_28 : decode cX1_takeOut 28 = .ok (.aload_n 0, 1) := by decide +kernel
theorem dX1_takeOut_29 : decode cX1_takeOut 29 = .ok (.getfield 15, 3) := by decide +kernel
theorem dX1_takeOut_32 : decode cX1_takeOut 32 = .ok (.iload_n 3, 1) := by decide +kernel
theorem dX1_takeOut_33 : decode cX1_takeOut 33 = .ok (.bipush 8, 2) := by decide +kernel
theorem dX1_takeOut_35 : decode cX1_takeOut 35 = .ok (.imul, 1) := by decide +kernel
theorem dX1_takeOut_36 : decode cX1_takeOut 36 = .ok (.iload_n 2, 1) := by decide +kernel
theorem dX1_takeOut_37 : decode cX1_takeOut 37 = .ok (.iadd, 1) := by decide +kernel
theorem dX1_takeOut_38 : decode cX1_takeOut 38 = .ok (.dup2, 1) := by decide +kernel
theorem dX1_takeOut_39 : decode cX1_takeOut 39 = .ok (.iaload, 1) := by decide +kernel
theorem dX1_takeOut_40 : decode cX1_takeOut 40 = .ok (.iconst 1, 1) := by decide +kernel
theorem dX1_takeOut_41 : decode cX1_takeOut 41 = .ok (.iload_n 1, 1) := by decide +kernel
theorem dX1_takeOut_42 : decode cX1_takeOut 42 = .ok (.ishl, 1) := by decide +kernel
theorem dX1_takeOut_43 : decode cX1_takeOut 43 = .ok (.iconst (-1), 1) := by decide +kernel
theorem dX1_takeOut_44 : decode cX1_takeOut 44 = .ok (.ixor, 1) := by decide +kernel
theorem dX1_takeOut_45 : decode cX1_takeOut 45 = .ok (.iand, 1) := by decide +kernel
theorem dX1_takeOut_46 : decode cX1_takeOut 46 = .ok (.iastore, 1) := by decide +kernel
theorem dX1_takeOut_47 : decode cX1_takeOut 47 = .ok (.aload_n 0, 1) := by decide +kernel
theorem dX1_takeOut_48 : decode cX1_takeOut 48 = .ok (.dup, 1) := by decide +kernel
theorem dX1_takeOut_49 : decode cX1_takeOut 49 = .ok (.getfield 30, 3) := by decide +kernel
theorem dX1_takeOut_52 : decode cX1_takeOut 52 = .ok (.iconst 1, 1) := by decide +kernel
theorem dX1_takeOut_53 : decode cX1_takeOut 53 = .ok (.isub, 1) := by decide +kernel
theorem dX1_takeOut_54 : decode cX1_takeOut 54 = .ok (.putfield 30, 3) := by decide +kernel
theorem dX1_takeOut_57 : decode cX1_takeOut 57 = .ok (.return_, 1) := by decide +kernel
theorem dX1_termsAhead_0 : decode cX1_termsAhead 0 = .ok (.iload_n 1, 1) := by decide +kernel
theorem dX1_termsAhead_1 : decode cX1_termsAhead 1 = .ok (.invokestatic 34, 3) := by decide +kernel
theorem dX1_termsAhead_4 : decode cX1_termsAhead 4 = .ok (.ifCond .eq 24, 3) := by decide +kernel
theorem dX1_termsAhead_7 : decode cX1_termsAhead 7 = .ok (.iload_n 2, 1) := by decide +kernel
theorem dX1_termsAhead_8 : decode cX1_termsAhead 8 = .ok (.invokestatic 38, 3) := by decide +kernel
theorem dX1_termsAhead_11 : decode cX1_termsAhead 11 = .ok (.ifCond .eq 17, 3) := by decide +kernel
theorem dX1_termsAhead_14 : decode cX1_termsAhead 14 = .ok (.aload_n 0, 1) := by decide +kernel
theorem dX1_termsAhead_15 : decode cX1_termsAhead 15 = .ok (.getfield 9, 3) := by decide +kernel
theorem dX1_termsAhead_18 : decode cX1_termsAhead 18 = .ok (.iload_n 1, 1) := by decide +kernel
theorem dX1_termsAhead_19 : decode cX1_termsAhead 19 = .ok (.bipush 8, 2) := by decide +kernel
theorem dX1_termsAhead_21 : decode cX1_termsAhead 21 = .ok (.imul, 1) := by decide +kernel
theorem dX1_termsAhead_22 : decode cX1_termsAhead 22 = .ok (.iload_n 2, 1) := by decide +kernel
theorem dX1_termsAhead_23 : decode cX1_termsAhead 23 = .ok (.iadd, 1) := by decide +kernel
theorem dX1_termsAhead_24 : decode cX1_termsAhead 24 = .ok (.iaload, 1) := by decide +kernel
theorem dX1_termsAhead_25 : decode cX1_termsAhead 25 = .ok (.goto 4, 3) := by decide +kernel
theorem dX1_termsAhead_28 : decode cX1_termsAhead 28 = .ok (.iconst 0, 1) := by decide +kernel
theorem dX1_termsAhead_29 : decode cX1_termsAhead 29 = .ok (.ireturn, 1) := by decide +kernel
theorem dX1_termsBack_0 : decode cX1_termsBack 0 = .ok (.iload_n 1, 1) := by decide +kernel
theorem dX1_termsBack_1 : decode cX1_termsBack 1 = .ok (.invokestatic 41, 3) := by decide +kernel
theorem dX1_termsBack_4 : decode cX1_termsBack 4 = .ok (.ifCond .eq 24, 3) := by decide +kernel
theorem dX1_termsBack_7 : decode cX1_termsBack 7 = .ok (.iload_n 2, 1) := by decide +kernel
theorem dX1_termsBack_8 : decode cX1_termsBack 8 = .ok (.invokestatic 38, 3) := by decide +kernel
theorem dX1_termsBack_11 : decode cX1_termsBack 11 = .ok (.ifCond .eq 17, 3) := by decide +kernel
theorem dX1_termsBack_14 : decode cX1_termsBack 14 = .ok (.aload_n 0, 1) := by decide +kernel
theorem dX1_termsBack_15 : decode cX1_termsBack 15 = .ok (.getfield 15, 3) := by decide +kernel
theorem dX1_termsBack_18 : decode cX1_termsBack 18 = .ok (.iload_n 1, 1) := by decide +kernel
theorem dX1_termsBack_19 : decode cX1_termsBack 19 = .ok (.bipush 8, 2) := by decide +kernel
theorem dX1_termsBack_21 : decode cX1_termsBack 21 = .ok (.imul, 1) := by decide +kernel
theorem dX1_termsBack_22 : decode cX1_termsBack 22 = .ok (.iload_n 2, 1) := by decide +kernel
theorem dX1_termsBack_23 : decode cX1_termsBack 23 = .ok (.iadd, 1) := by decide +kernel
theorem dX1_termsBack_24 : decode cX1_termsBack 24 = .ok (.iaload, 1) := by decide +kernel
theorem dX1_termsBack_25 : decode cX1_termsBack 25 = .ok (.goto 4, 3) := by decide +kernel
theorem dX1_termsBack_28 : decode cX1_termsBack 28 = .ok (.iconst 0, 1) := by decide +kernel
theorem dX1_termsBack_29 : decode cX1_termsBack 29 = .ok (.ireturn, 1) := by decide +kernel
theorem dX1_byPath_0 : decode cX1_byPath 0 = .ok (.iload_n 2, 1) := by decide +kernel
theorem dX1_byPath_1 : decode cX1_byPath 1 = .ok (.iconst (-1), 1) := by decide +kernel
theorem dX1_byPath_2 : decode cX1_byPath 2 = .ok (.if_icmp .ne 7, 3) := by decide +kernel
theorem dX1_byPath_5 : decode cX1_byPath 5 = .ok (.iconst 1, 1) := by decide +kernel
theorem dX1_byPath_6 : decode cX1_byPath 6 = .ok (.iload_n 1, 1) := by decide +kernel
theorem dX1_byPath_7 : decode cX1_byPath 7 = .ok (.ishl, 1) := by decide +kernel
theorem dX1_byPath_8 : decode cX1_byPath 8 = .ok (.ireturn, 1) := by decide +kernel
theorem dX1_byPath_9 : decode cX1_byPath 9 = .ok (.iload_n 2, 1) := by decide +kernel
theorem dX1_byPath_10 : decode cX1_byPath 10 = .ok (.bipush 8, 2) := by decide +kernel
theorem dX1_byPath_12 : decode cX1_byPath 12 = .ok (.if_icmp .ge 12, 3) := by decide +kernel
theorem dX1_byPath_15 : decode cX1_byPath 15 = .ok (.aload_n 0, 1) := by decide +kernel
theorem dX1_byPath_16 : decode cX1_byPath 16 = .ok (.iload_n 1, 1) := by decide +kernel
theorem dX1_byPath_17 : decode cX1_byPath 17 = .ok (.iload_n 2, 1) := by decide +kernel
theorem dX1_byPath_18 : decode cX1_byPath 18 = .ok (.invokevirtual 18, 3) := by decide +kernel
theorem dX1_byPath_21 : decode cX1_byPath 21 = .ok (.goto 12, 3) := by decide +kernel
theorem dX1_byPath_24 : decode cX1_byPath 24 = .ok (.aload_n 0, 1) := by decide +kernel
theorem dX1_byPath_25 : decode cX1_byPath 25 = .ok (.iload_n 1, 1) := by decide +kernel
theorem dX1_byPath_26 : decode cX1_byPath 26 = .ok (.iload_n 2, 1) := by decide +kernel
theorem dX1_byPath_27 : decode cX1_byPath 27 = .ok (.bipush 8, 2) := by decide +kernel
theorem dX1_byPath_29 : decode cX1_byPath 29 = .ok (.isub, 1) := by decide +kernel
theorem dX1_byPath_30 : decode cX1_byPath 30 = .ok (.invokevirtual 44, 3) := by decide +kernel
theorem dX1_byPath_33 : decode cX1_byPath 33 = .ok (.ireturn, 1) := by decide +kernel
theorem dX1_termsLedTo_0 : decode cX1_termsLedTo 0 = .ok (.iconst 0, 1) := by decide +kernel
theorem dX1_termsLedTo_1 : decode cX1_termsLedTo 1 = .ok (.istore_n 2, 1) := by decide +kernel
theorem dX1_termsLedTo_2 : decode cX1_termsLedTo 2 = .ok (.iconst 0, 1) := by decide +kernel
theorem dX1_termsLedTo_3 : decode cX1_termsLedTo 3 = .ok (.istore_n 3, 1) := by decide +kernel
theorem dX1_termsLedTo_4 : decode cX1_termsLedTo 4 = .ok (.iload_n 3, 1) := by decide +kernel
theorem dX1_termsLedTo_5 : decode cX1_termsLedTo 5 = .ok (.bipush 20, 2) := by decide +kernel
theorem dX1_termsLedTo_7 : decode cX1_termsLedTo 7 = .ok (.if_icmp .ge 33, 3) := by decide +kernel
theorem dX1_termsLedTo_10 : decode cX1_termsLedTo 10 = .ok (.iload_n 1, 1) := by decide +kernel
theorem dX1_termsLedTo_11 : decode cX1_termsLedTo 11 = .ok (.ifCond .lt 29, 3) := by decide +kernel
theorem dX1_termsLedTo_14 : decode cX1_termsLedTo 14 = .ok (.iload_n 1, 1) := by decide +kernel
theorem dX1_termsLedTo_15 : decode cX1_termsLedTo 15 = .ok (.bipush 8, 2) := by decide +kernel
theorem dX1_termsLedTo_17 : decode cX1_termsLedTo 17 = .ok (.if_icmp .ge 23, 3) := by decide +kernel
theorem dX1_termsLedTo_20 : decode cX1_termsLedTo 20 = .ok (.iload_n 2, 1) := by decide +kernel
theorem dX1_termsLedTo_21 : decode cX1_termsLedTo 21 = .ok (.aload_n 0, 1) := by decide +kernel
theorem dX1_termsLedTo_22 : decode cX1_termsLedTo 22 = .ok (.getfield 9, 3) := by decide +kernel
theorem dX1_termsLedTo_25 : decode cX1_termsLedTo 25 = .ok (.iload_n 3, 1) := by decide +kernel
theorem dX1_termsLedTo_26 : decode cX1_termsLedTo 26 = .ok (.bipush 8, 2) := by decide +kernel
theorem dX1_termsLedTo_28 : decode cX1_termsLedTo 28 = .ok (.imul, 1) := by decide +kernel
theorem dX1_termsLedTo_29 : decode cX1_termsLedTo 29 = .ok (.iload_n 1, 1) := by decide +kernel
theorem dX1_termsLedTo_30 : decode cX1_termsLedTo 30 = .ok (.iadd, 1) := by decide +kernel
theorem dX1_termsLedTo_31 : decode cX1_termsLedTo 31 = .ok (.iaload, 1) := by decide +kernel
theorem dX1_termsLedTo_32 : decode cX1_termsLedTo 32 = .ok (.ior, 1) := by decide +kernel
theorem dX1_termsLedTo_33 : decode cX1_termsLedTo 33 = .ok (.istore_n 2, 1) := by decide +kernel
theorem dX1_termsLedTo_34 : decode cX1_termsLedTo 34 = .ok (.iinc 3 1, 3) := by decide +kernel
theorem dX1_termsLedTo_37 : decode cX1_termsLedTo 37 = .ok (.goto (-33), 3) := by decide +kernel
theorem dX1_termsLedTo_40 : decode cX1_termsLedTo 40 = .ok (.iload_n 2, 1) := by decide +kernel
theorem dX1_termsLedTo_41 : decode cX1_termsLedTo 41 = .ok (.ireturn, 1) := by decide +kernel
theorem dX1_termsBackOfAny_0 : decode cX1_termsBackOfAny 0 = .ok (.iconst 0, 1) := by decide +kernel
theorem dX1_termsBackOfAny_1 : decode cX1_termsBackOfAny 1 = .ok (.istore_n 3, 1) := by decide +kernel
theorem dX1_termsBackOfAny_2 : decode cX1_termsBackOfAny 2 = .ok (.iconst 0, 1) := by decide +kernel
theorem dX1_termsBackOfAny_3 : decode cX1_termsBackOfAny 3 = .ok (.istore 4, 2) := by decide +kernel
theorem dX1_termsBackOfAny_5 : decode cX1_termsBackOfAny 5 = .ok (.iload 4, 2) := by decide +kernel
theorem dX1_termsBackOfAny_7 : decode cX1_termsBackOfAny 7 = .ok (.bipush 32, 2) := by decide +kernel
theorem dX1_termsBackOfAny_9 : decode cX1_termsBackOfAny 9 = .ok (.if_icmp .ge 43, 3) := by decide +kernel
theorem dX1_termsBackOfAny_12 : decode cX1_termsBackOfAny 12 = .ok (.iload_n 2, 1) := by decide +kernel
theorem dX1_termsBackOfAny_13 : decode cX1_termsBackOfAny 13 = .ok (.ifCond .lt 39, 3) := by decide +kernel
theorem dX1_termsBackOfAny_16 : decode cX1_termsBackOfAny 16 = .ok (.iload_n 2, 1) := by decide +kernel
theorem dX1_termsBackOfAny_17 : decode cX1_termsBackOfAny 17 = .ok (.bipush 8, 2) := by decide +kernel
theorem dX1_termsBackOfAny_19 : decode cX1_termsBackOfAny 19 = .ok (.if_icmp .ge 33, 3) := by decide +kernel
theorem dX1_termsBackOfAny_22 : decode cX1_termsBackOfAny 22 = .ok (.iload_n 1, 1) := by decide +kernel
theorem dX1_termsBackOfAny_23 : decode cX1_termsBackOfAny 23 = .ok (.iload 4, 2) := by decide +kernel
theorem dX1_termsBackOfAny_25 : decode cX1_termsBackOfAny 25 = .ok (.iushr, 1) := by decide +kernel
theorem dX1_termsBackOfAny_26 : decode cX1_termsBackOfAny 26 = .ok (.iconst 1, 1) := by decide +kernel
theorem dX1_termsBackOfAny_27 : decode cX1_termsBackOfAny 27 = .ok (.iand, 1) := by decide +kernel
theorem dX1_termsBackOfAny_28 : decode cX1_termsBackOfAny 28 = .ok (.ifCond .eq 18, 3) := by decide +kernel
theorem dX1_termsBackOfAny_31 : decode cX1_termsBackOfAny 31 = .ok (.iload_n 3, 1) := by decide +kernel
theorem dX1_termsBackOfAny_32 : decode cX1_termsBackOfAny 32 = .ok (.aload_n 0, 1) := by decide +kernel
theorem dX1_termsBackOfAny_33 : decode cX1_termsBackOfAny 33 = .ok (.getfield 15, 3) := by decide +kernel
theorem dX1_termsBackOfAny_36 : decode cX1_termsBackOfAny 36 = .ok (.iload 4, 2) := by decide +kernel
theorem dX1_termsBackOfAny_38 : decode cX1_termsBackOfAny 38 = .ok (.bipush 8, 2) := by decide +kernel
theorem dX1_termsBackOfAny_40 : decode cX1_termsBackOfAny 40 = .ok (.imul, 1) := by decide +kernel
theorem dX1_termsBackOfAny_41 : decode cX1_termsBackOfAny 41 = .ok (.iload_n 2, 1) := by decide +kernel
theorem dX1_termsBackOfAny_42 : decode cX1_termsBackOfAny 42 = .ok (.iadd, 1) := by decide +kernel
theorem dX1_termsBackOfAny_43 : decode cX1_termsBackOfAny 43 = .ok (.iaload, 1) := by decide +kernel
theorem dX1_termsBackOfAny_44 : decode cX1_termsBackOfAny 44 = .ok (.ior, 1) := by decide +kernel
theorem dX1_termsBackOfAny_45 : decode cX1_termsBackOfAny 45 = .ok (.istore_n 3, 1) := by decide +kernel
theorem dX1_termsBackOfAny_46 : decode cX1_termsBackOfAny 46 = .ok (.iinc 4 1, 3) := by decide +kernel
theorem dX1_termsBackOfAny_49 : decode cX1_termsBackOfAny 49 = .ok (.goto (-44), 3) := by decide +kernel
theorem dX1_termsBackOfAny_52 : decode cX1_termsBackOfAny 52 = .ok (.iload_n 3, 1) := by decide +kernel
theorem dX1_termsBackOfAny_53 : decode cX1_termsBackOfAny 53 = .ok (.ireturn, 1) := by decide +kernel
theorem dX1_termsAheadBut_0 : decode cX1_termsAheadBut 0 = .ok (.iconst 0, 1) := by decide +kernel
theorem dX1_termsAheadBut_1 : decode cX1_termsAheadBut 1 = .ok (.istore_n 3, 1) := by decide +kernel
theorem dX1_termsAheadBut_2 : decode cX1_termsAheadBut 2 = .ok (.iconst 0, 1) := by decide +kernel
theorem dX1_termsAheadBut_3 : decode cX1_termsAheadBut 3 = .ok (.istore 4, 2) := by decide +kernel
theorem dX1_termsAheadBut_5 : decode cX1_termsAheadBut 5 = .ok (.iload 4, 2) := by decide +kernel
theorem dX1_termsAheadBut_7 : decode cX1_termsAheadBut 7 = .ok (.bipush 20, 2) := by decide +kernel
theorem dX1_termsAheadBut_9 : decode cX1_termsAheadBut 9 = .ok (.if_icmp .ge 63, 3) := by decide +kernel
theorem dX1_termsAheadBut_12 : decode cX1_termsAheadBut 12 = .ok (.iload_n 1, 1) := by decide +kernel
theorem dX1_termsAheadBut_13 : decode cX1_termsAheadBut 13 = .ok (.iload 4, 2) := by decide +kernel
theorem dX1_termsAheadBut_15 : decode cX1_termsAheadBut 15 = .ok (.invokestatic 22, 3) := by decide +kernel
theorem dX1_termsAheadBut_18 : decode cX1_termsAheadBut 18 = .ok (.ifCond .eq 48, 3) := by decide +kernel
theorem dX1_termsAheadBut_21 : decode cX1_termsAheadBut 21 = .ok (.iconst 0, 1) := by decide +kernel
theorem dX1_termsAheadBut_22 : decode cX1_termsAheadBut 22 = .ok (.istore 5, 2) := by decide +kernel
theorem dX1_termsAheadBut_24 : decode cX1_termsAheadBut 24 = .ok (.iload 5, 2) := by decide +kernel
theorem dX1_termsAheadBut_26 : decode cX1_termsAheadBut 26 = .ok (.bipush 8, 2) := by decide +kernel
theorem dX1_termsAheadBut_28 : decode cX1_termsAheadBut 28 = .ok (.if_icmp .ge 38, 3) := by decide +kernel
theorem dX1_termsAheadBut_31 : decode cX1_termsAheadBut 31 = .ok (.iload_n 3, 1) := by decide +kernel
theorem dX1_termsAheadBut_32 : decode cX1_termsAheadBut 32 = .ok (.iload_n 2, 1) := by decide +kernel
theorem dX1_termsAheadBut_33 : decode cX1_termsAheadBut 33 = .ok (.iload 5, 2) := by decide +kernel
theorem dX1_termsAheadBut_35 : decode cX1_termsAheadBut 35 = .ok (.invokestatic 22, 3) := by decide +kernel
theorem dX1_termsAheadBut_38 : decode cX1_termsAheadBut 38 = .ok (.ifCond .eq 7, 3) := by decide +kernel
theorem dX1_termsAheadBut_41 : decode cX1_termsAheadBut 41 = .ok (.iconst 0, 1) := by decide +kernel
theorem dX1_termsAheadBut_42 : decode cX1_termsAheadBut 42 = .ok (.goto 16, 3) := by decide +kernel
theorem dX1_termsAheadBut_45 : decode cX1_termsAheadBut 45 = .ok (.aload_n 0, 1) := by decide +kernel
theorem dX1_termsAheadBut_46 : decode cX1_termsAheadBut 46 = .ok (.getfield 9, 3) := by decide +kernel
theorem dX1_termsAheadBut_49 : decode cX1_termsAheadBut 49 = .ok (.iload 4, 2) := by decide +kernel
theorem dX1_termsAheadBut_51 : decode cX1_termsAheadBut 51 = .ok (.bipush 8, 2) := by decide +kernel
theorem dX1_termsAheadBut_53 : decode cX1_termsAheadBut 53 = .ok (.imul, 1) := by decide +kernel
theorem dX1_termsAheadBut_54 : decode cX1_termsAheadBut 54 = .ok (.iload 5, 2) := by decide +kernel
theorem dX1_termsAheadBut_56 : decode cX1_termsAheadBut 56 = .ok (.iadd, 1) := by decide +kernel
theorem dX1_termsAheadBut_57 : decode cX1_termsAheadBut 57 = .ok (.iaload, 1) := by decide +kernel
theorem dX1_termsAheadBut_58 : decode cX1_termsAheadBut 58 = .ok (.ior, 1) := by decide +kernel
theorem dX1_termsAheadBut_59 : decode cX1_termsAheadBut 59 = .ok (.istore_n 3, 1) := by decide +kernel
theorem dX1_termsAheadBut_60 : decode cX1_termsAheadBut 60 = .ok (.iinc 5 1, 3) := by decide +kernel
theorem dX1_termsAheadBut_63 : decode cX1_termsAheadBut 63 = .ok (.goto (-39), 3) := by decide +kernel
theorem dX1_termsAheadBut_66 : decode cX1_termsAheadBut 66 = .ok (.iinc 4 1, 3) := by decide +kernel
theorem dX1_termsAheadBut_69 : decode cX1_termsAheadBut 69 = .ok (.goto (-64), 3) := by decide +kernel
theorem dX1_termsAheadBut_72 : decode cX1_termsAheadBut 72 = .ok (.iload_n 3, 1) := by decide +kernel
theorem dX1_termsAheadBut_73 : decode cX1_termsAheadBut 73 = .ok (.ireturn, 1) := by decide +kernel
theorem dX1_ofClass_0 : decode cX1_ofClass 0 = .ok (.iconst 1, 1) := by decide +kernel
theorem dX1_ofClass_1 : decode cX1_ofClass 1 = .ok (.iload_n 1, 1) := by decide +kernel
theorem dX1_ofClass_2 : decode cX1_ofClass 2 = .ok (.ishl, 1) := by decide +kernel
theorem dX1_ofClass_3 : decode cX1_ofClass 3 = .ok (.istore_n 2, 1) := by decide +kernel
theorem dX1_ofClass_4 : decode cX1_ofClass 4 = .ok (.iconst 0, 1) := by decide +kernel
theorem dX1_ofClass_5 : decode cX1_ofClass 5 = .ok (.istore_n 3, 1) := by decide +kernel
theorem dX1_ofClass_6 : decode cX1_ofClass 6 = .ok (.iload_n 3, 1) := by decide +kernel
theorem dX1_ofClass_7 : decode cX1_ofClass 7 = .ok (.bipush 20, 2) := by decide +kernel
theorem dX1_ofClass_9 : decode cX1_ofClass 9 = .ok (.if_icmp .ge 31, 3) := by decide +kernel
theorem dX1_ofClass_12 : decode cX1_ofClass 12 = .ok (.iload_n 2, 1) := by decide +kernel
theorem dX1_ofClass_13 : decode cX1_ofClass 13 = .ok (.aload_n 0, 1) := by decide +kernel
theorem dX1_ofClass_14 : decode cX1_ofClass 14 = .ok (.iload_n 2, 1) := by decide +kernel
theorem dX1_ofClass_15 : decode cX1_ofClass 15 = .ok (.iconst 1, 1) := by decide +kernel
theorem dX1_ofClass_16 : decode cX1_ofClass 16 = .ok (.invokevirtual 47, 3) := by decide +kernel
theorem dX1_ofClass_19 : decode cX1_ofClass 19 = .ok (.ior, 1) := by decide +kernel
theorem dX1_ofClass_20 : decode cX1_ofClass 20 = .ok (.istore 4, 2) := by decide +kernel
theorem dX1_ofClass_22 : decode cX1_ofClass 22 = .ok (.iload 4, 2) := by decide +kernel
theorem dX1_ofClass_24 : decode cX1_ofClass 24 = .ok (.iload_n 2, 1) := by decide +kernel
theorem dX1_ofClass_25 : decode cX1_ofClass 25 = .ok (.if_icmp .ne 6, 3) := by decide +kernel
theorem dX1_ofClass_28 : decode cX1_ofClass 28 = .ok (.goto 12, 3) := by decide +kernel
theorem dX1_ofClass_31 : decode cX1_ofClass 31 = .ok (.iload 4, 2) := by decide +kernel
theorem dX1_ofClass_33 : decode cX1_ofClass 33 = .ok (.istore_n 2, 1) := by decide +kernel
theorem dX1_ofClass_34 : decode cX1_ofClass 34 = .ok (.iinc 3 1, 3) := by decide +kernel
theorem dX1_ofClass_37 : decode cX1_ofClass 37 = .ok (.goto (-31), 3) := by decide +kernel
theorem dX1_ofClass_40 : decode cX1_ofClass 40 = .ok (.aload_n 0, 1) := by decide +kernel
theorem dX1_ofClass_41 : decode cX1_ofClass 41 = .ok (.iload_n 2, 1) := by decide +kernel
theorem dX1_ofClass_42 : decode cX1_ofClass 42 = .ok (.iconst 0, 1) := by decide +kernel
theorem dX1_ofClass_43 : decode cX1_ofClass 43 = .ok (.invokevirtual 47, 3) := by decide +kernel
theorem dX1_ofClass_46 : decode cX1_ofClass 46 = .ok (.ireturn, 1) := by decide +kernel
theorem dJ0_bitCount_0 : decode cJ0_bitCount 0 = .ok (.iload_n 0, 1) := by decide +kernel
theorem dJ0_bitCount_1 : decode cJ0_bitCount 1 = .ok (.iload_n 0, 1) := by decide +kernel
theorem dJ0_bitCount_2 : decode cJ0_bitCount 2 = .ok (.iconst 1, 1) := by decide +kernel
theorem dJ0_bitCount_3 : decode cJ0_bitCount 3 = .ok (.iushr, 1) := by decide +kernel
theorem dJ0_bitCount_4 : decode cJ0_bitCount 4 = .ok (.ldc_w 265, 3) := by decide +kernel
theorem dJ0_bitCount_7 : decode cJ0_bitCount 7 = .ok (.iand, 1) := by decide +kernel
theorem dJ0_bitCount_8 : decode cJ0_bitCount 8 = .ok (.isub, 1) := by decide +kernel
theorem dJ0_bitCount_9 : decode cJ0_bitCount 9 = .ok (.istore_n 0, 1) := by decide +kernel
theorem dJ0_bitCount_10 : decode cJ0_bitCount 10 = .ok (.iload_n 0, 1) := by decide +kernel
theorem dJ0_bitCount_11 : decode cJ0_bitCount 11 = .ok (.ldc_w 266, 3) := by decide +kernel
theorem dJ0_bitCount_14 : decode cJ0_bitCount 14 = .ok (.iand, 1) := by decide +kernel
theorem dJ0_bitCount_15 : decode cJ0_bitCount 15 = .ok (.iload_n 0, 1) := by decide +kernel
theorem dJ0_bitCount_16 : decode cJ0_bitCount 16 = .ok (.iconst 2, 1) := by decide +kernel
theorem dJ0_bitCount_17 : decode cJ0_bitCount 17 = .ok (.iushr, 1) := by decide +kernel
theorem dJ0_bitCount_18 : decode cJ0_bitCount 18 = .ok (.ldc_w 266, 3) := by decide +kernel
theorem dJ0_bitCount_21 : decode cJ0_bitCount 21 = .ok (.iand, 1) := by decide +kernel
theorem dJ0_bitCount_22 : decode cJ0_bitCount 22 = .ok (.iadd, 1) := by decide +kernel
theorem dJ0_bitCount_23 : decode cJ0_bitCount 23 = .ok (.istore_n 0, 1) := by decide +kernel
theorem dJ0_bitCount_24 : decode cJ0_bitCount 24 = .ok (.iload_n 0, 1) := by decide +kernel
theorem dJ0_bitCount_25 : decode cJ0_bitCount 25 = .ok (.iload_n 0, 1) := by decide +kernel
theorem dJ0_bitCount_26 : decode cJ0_bitCount 26 = .ok (.iconst 4, 1) := by decide +kernel
theorem dJ0_bitCount_27 : decode cJ0_bitCount 27 = .ok (.iushr, 1) := by decide +kernel
theorem dJ0_bitCount_28 : decode cJ0_bitCount 28 = .ok (.iadd, 1) := by decide +kernel
theorem dJ0_bitCount_29 : decode cJ0_bitCount 29 = .ok (.ldc_w 267, 3) := by decide +kernel
theorem dJ0_bitCount_32 : decode cJ0_bitCount 32 = .ok (.iand, 1) := by decide +kernel
theorem dJ0_bitCount_33 : decode cJ0_bitCount 33 = .ok (.istore_n 0, 1) := by decide +kernel
theorem dJ0_bitCount_34 : decode cJ0_bitCount 34 = .ok (.iload_n 0, 1) := by decide +kernel
theorem dJ0_bitCount_35 : decode cJ0_bitCount 35 = .ok (.iload_n 0, 1) := by decide +kernel
theorem dJ0_bitCount_36 : decode cJ0_bitCount 36 = .ok (.bipush 8, 2) := by decide +kernel
theorem dJ0_bitCount_38 : decode cJ0_bitCount 38 = .ok (.iushr, 1) := by decide +kernel
theorem dJ0_bitCount_39 : decode cJ0_bitCount 39 = .ok (.iadd, 1) := by decide +kernel
theorem dJ0_bitCount_40 : decode cJ0_bitCount 40 = .ok (.istore_n 0, 1) := by decide +kernel
theorem dJ0_bitCount_41 : decode cJ0_bitCount 41 = .ok (.iload_n 0, 1) := by decide +kernel
theorem dJ0_bitCount_42 : decode cJ0_bitCount 42 = .ok (.iload_n 0, 1) := by decide +kernel
theorem dJ0_bitCount_43 : decode cJ0_bitCount 43 = .ok (.bipush 16, 2) := by decide +kernel
theorem dJ0_bitCount_45 : decode cJ0_bitCount 45 = .ok (.iushr, 1) := by decide +kernel
theorem dJ0_bitCount_46 : decode cJ0_bitCount 46 = .ok (.iadd, 1) := by decide +kernel
theorem dJ0_bitCount_47 : decode cJ0_bitCount 47 = .ok (.istore_n 0, 1) := by decide +kernel
theorem dJ0_bitCount_48 : decode cJ0_bitCount 48 = .ok (.iload_n 0, 1) := by decide +kernel
theorem dJ0_bitCount_49 : decode cJ0_bitCount 49 = .ok (.bipush 63, 2) := by decide +kernel
theorem dJ0_bitCount_51 : decode cJ0_bitCount 51 = .ok (.iand, 1) := by decide +kernel
theorem dJ0_bitCount_52 : decode cJ0_bitCount 52 = .ok (.ireturn, 1) := by decide +kernel
