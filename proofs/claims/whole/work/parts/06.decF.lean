theorem dX5_init_0 : decode cX5_init 0 = .ok (.aload_n 0, 1) := by decide +kernel
theorem dX5_init_1 : decode cX5_init 1 = .ok (.invokespecial 3, 3) := by decide +kernel
theorem dX5_init_4 : decode cX5_init 4 = .ok (.aload_n 0, 1) := by decide +kernel
theorem dX5_init_5 : decode cX5_init 5 = .ok (.sipush 1280, 3) := by decide +kernel
theorem dX5_init_8 : decode cX5_init 8 = .ok (.newarray .long, 2) := by decide +kernel
theorem dX5_init_10 : decode cX5_init 10 = .ok (.putfield 9, 3) := by decide +kernel
theorem dX5_init_13 : decode cX5_init 13 = .ok (.aload_n 0, 1) := by decide +kernel
theorem dX5_init_14 : decode cX5_init 14 = .ok (.bipush 12, 2) := by decide +kernel
theorem dX5_init_16 : decode cX5_init 16 = .ok (.newarray .int, 2) := by decide +kernel
theorem dX5_init_18 : decode cX5_init 18 = .ok (.putfield 15, 3) := by decide +kernel
theorem dX5_init_21 : decode cX5_init 21 = .ok (.aload_n 0, 1) := by decide +kernel
theorem dX5_init_22 : decode cX5_init 22 = .ok (.bipush 12, 2) := by decide +kernel
theorem dX5_init_24 : decode cX5_init 24 = .ok (.newarray .int, 2) := by decide +kernel
theorem dX5_init_26 : decode cX5_init 26 = .ok (.putfield 19, 3) := by decide +kernel
theorem dX5_init_29 : decode cX5_init 29 = .ok (.aload_n 0, 1) := by decide +kernel
theorem dX5_init_30 : decode cX5_init 30 = .ok (.sipush 250, 3) := by decide +kernel
theorem dX5_init_33 : decode cX5_init 33 = .ok (.newarray .int, 2) := by decide +kernel
theorem dX5_init_35 : decode cX5_init 35 = .ok (.putfield 22, 3) := by decide +kernel
theorem dX5_init_38 : decode cX5_init 38 = .ok (.aload_n 0, 1) := by decide +kernel
theorem dX5_init_39 : decode cX5_init 39 = .ok (.sipush 250, 3) := by decide +kernel
theorem dX5_init_42 : decode cX5_init 42 = .ok (.newarray .int, 2) := by decide +kernel
theorem dX5_init_44 : decode cX5_init 44 = .ok (.putfield 25, 3) := by decide +kernel
theorem dX5_init_47 : decode cX5_init 47 = .ok (.aload_n 0, 1) := by decide +kernel
theorem dX5_init_48 : decode cX5_init 48 = .ok (.sipush 250, 3) := by decide +kernel
theorem dX5_init_51 : decode cX5_init 51 = .ok (.newarray .int, 2) := by decide +kernel
theorem dX5_init_53 : decode cX5_init 53 = .ok (.putfield 28, 3) := by decide +kernel
theorem dX5_init_56 : decode cX5_init 56 = .ok (.aload_n 0, 1) := by decide +kernel
theorem dX5_init_57 : decode cX5_init 57 = .ok (.sipush 250, 3) := by decide +kernel
theorem dX5_init_60 : decode cX5_init 60 = .ok (.newarray .int, 2) := by decide +kernel
theorem dX5_init_62 : decode cX5_init 62 = .ok (.putfield 31, 3) := by decide +kernel
theorem dX5_init_65 : decode cX5_init 65 = .ok (.aload_n 0, 1) := by decide +kernel
theorem dX5_init_66 : decode cX5_init 66 = .ok (.aload_n 1, 1) := by decide +kernel
theorem dX5_init_67 : decode cX5_init 67 = .ok (.putfield 34, 3) := by decide +kernel
theorem dX5_init_70 : decode cX5_init 70 = .ok (.aload_n 0, 1) := by decide +kernel
theorem dX5_init_71 : decode cX5_init 71 = .ok (.aload_n 2, 1) := by decide +kernel
theorem dX5_init_72 : decode cX5_init 72 = .ok (.putfield 38, 3) := by decide +kernel
theorem dX5_init_75 : decode cX5_init 75 = .ok (.aload_n 0, 1) := by decide +kernel
theorem dX5_init_76 : decode cX5_init 76 = .ok (.aload_n 3, 1) := by decide +kernel
theorem dX5_init_77 : decode cX5_init 77 = .ok (.putfield 42, 3) := by decide +kernel
theorem dX5_init_80 : decode cX5_init 80 = .ok (.aload_n 0, 1) := by decide +kernel
theorem dX5_init_81 : decode cX5_init 81 = .ok (.aload 4, 2) := by decide +kernel
theorem dX5_init_83 : decode cX5_init 83 = .ok (.putfield 46, 3) := by decide +kernel
theorem dX5_init_86 : decode cX5_init 86 = .ok (.return_, 1) := by decide +kernel
theorem dX5_workOut_0 : decode cX5_workOut 0 = .ok (.aload_n 0, 1) := by decide +kernel
theorem dX5_workOut_1 : decode cX5_workOut 1 = .ok (.getfield 50, 3) := by decide +kernel
theorem dX5_workOut_4 : decode cX5_workOut 4 = .ok (.ifCond .eq 4, 3) := by decide +kernel
theorem dX5_workOut_7 : decode cX5_workOut 7 = .ok (.return_, 1) := by decide +kernel
theorem dX5_workOut_8 : decode cX5_workOut 8 = .ok (.aload_n 0, 1) := by decide +kernel
theorem dX5_workOut_9 : decode cX5_workOut 9 = .ok (.invokevirtual 54, 3) := by decide +kernel
theorem dX5_workOut_12 : decode cX5_workOut 12 = .ok (.aload_n 0, 1) := by decide +kernel
theorem dX5_workOut_13 : decode cX5_workOut 13 = .ok (.invokevirtual 57, 3) := by decide +kernel
theorem dX5_workOut_16 : decode cX5_workOut 16 = .ok (.aload_n 0, 1) := by decide +kernel
theorem dX5_workOut_17 : decode cX5_workOut 17 = .ok (.invokevirtual 60, 3) := by decide +kernel
theorem dX5_workOut_20 : decode cX5_workOut 20 = .ok (.aload_n 0, 1) := by decide +kernel
theorem dX5_workOut_21 : decode cX5_workOut 21 = .ok (.iconst 1, 1) := by decide +kernel
theorem dX5_workOut_22 : decode cX5_workOut 22 = .ok (.putfield 50, 3) := by decide +kernel
theorem dX5_workOut_25 : decode cX5_workOut 25 = .ok (.return_, 1) := by decide +kernel
theorem dX5_weighAll_0 : decode cX5_weighAll 0 = .ok (.iconst 0, 1) := by decide +kernel
theorem dX5_weighAll_1 : decode cX5_weighAll 1 = .ok (.istore_n 1, 1) := by decide +kernel
theorem dX5_weighAll_2 : decode cX5_weighAll 2 = .ok (.iload_n 1, 1) := by decide +kernel
theorem dX5_weighAll_3 : decode cX5_weighAll 3 = .ok (.aload_n 0, 1) := by decide +kernel
theorem dX5_weighAll_4 : decode cX5_weighAll 4 = .ok (.getfield 38, 3) := by decide +kernel
theorem dX5_weighAll_7 : decode cX5_weighAll 7 = .ok (.getfield 63, 3) := by decide +kernel
theorem dX5_weighAll_10 : decode cX5_weighAll 10 = .ok (.if_icmp .ge 16, 3) := by decide +kernel
theorem dX5_weighAll_13 : decode cX5_weighAll 13 = .ok (.aload_n 0, 1) := by decide +kernel
theorem dX5_weighAll_14 : decode cX5_weighAll 14 = .ok (.getfield 15, 3) := by decide +kernel
theorem dX5_weighAll_17 : decode cX5_weighAll 17 = .ok (.iload_n 1, 1) := by decide +kernel
theorem dX5_weighAll_18 : decode cX5_weighAll 18 = .ok (.iconst (-1), 1) := by decide +kernel
theorem dX5_weighAll_19 : decode cX5_weighAll 19 = .ok (.iastore, 1) := by decide +kernel
theorem dX5_weighAll_20 : decode cX5_weighAll 20 = .ok (.iinc 1 1, 3) := by decide +kernel
theorem dX5_weighAll_23 : decode cX5_weighAll 23 = .ok (.goto (-21), 3) := by decide +kernel
theorem dX5_weighAll_26 : decode cX5_weighAll 26 = .ok (.iconst 0, 1) := by decide +kernel
theorem dX5_weighAll_27 : decode cX5_weighAll 27 = .ok (.istore_n 1, 1) := by decide +kernel
theorem dX5_weighAll_28 : decode cX5_weighAll 28 = .ok (.iload_n 1, 1) := by decide +kernel
theorem dX5_weighAll_29 : decode cX5_weighAll 29 = .ok (.bipush 12, 2) := by decide +kernel
theorem dX5_weighAll_31 : decode cX5_weighAll 31 = .ok (.if_icmp .ge 62, 3) := by decide +kernel
theorem dX5_weighAll_34 : decode cX5_weighAll 34 = .ok (.iconst 0, 1) := by decide +kernel
theorem dX5_weighAll_35 : decode cX5_weighAll 35 = .ok (.istore_n 2, 1) := by decide +kernel
theorem dX5_weighAll_36 : decode cX5_weighAll 36 = .ok (.iload_n 2, 1) := by decide +kernel
theorem dX5_weighAll_37 : decode cX5_weighAll 37 = .ok (.aload_n 0, 1) := by decide +kernel
theorem dX5_weighAll_38 : decode cX5_weighAll 38 = .ok (.getfield 46, 3) := by decide +kernel
theorem dX5_weighAll_41 : decode cX5_weighAll 41 = .ok (.getfield 69, 3) := by decide +kernel
theorem dX5_weighAll_44 : decode cX5_weighAll 44 = .ok (.if_icmp .ge 43, 3) := by decide +kernel
theorem dX5_weighAll_47 : decode cX5_weighAll 47 = .ok (.aload_n 0, 1) := by decide +kernel
theorem dX5_weighAll_48 : decode cX5_weighAll 48 = .ok (.getfield 38, 3) := by decide +kernel
theorem dX5_weighAll_51 : decode cX5_weighAll 51 = .ok (.aload_n 0, 1) := by decide +kernel
theorem dX5_weighAll_52 : decode cX5_weighAll 52 = .ok (.getfield 46, 3) := by decide +kernel
theorem dX5_weighAll_55 : decode cX5_weighAll 55 = .ok (.getfield 72, 3) := by decide +kernel
theorem dX5_weighAll_58 : decode cX5_weighAll 58 = .ok (.iload_n 2, 1) := by decide +kernel
theorem dX5_weighAll_59 : decode cX5_weighAll 59 = .ok (.iaload, 1) := by decide +kernel
theorem dX5_weighAll_60 : decode cX5_weighAll 60 = .ok (.invokevirtual 73, 3) := by decide +kernel
theorem dX5_weighAll_63 : decode cX5_weighAll 63 = .ok (.iload_n 1, 1) := by decide +kernel
theorem dX5_weighAll_64 : decode cX5_weighAll 64 = .ok (.if_icmp .ne 17, 3) := by decide +kernel
theorem dX5_weighAll_67 : decode cX5_weighAll 67 = .ok (.aload_n 0, 1) := by decide +kernel
theorem dX5_weighAll_68 : decode cX5_weighAll 68 = .ok (.iload_n 2, 1) := by decide +kernel
theorem dX5_weighAll_69 : decode cX5_weighAll 69 = .ok (.aload_n 0, 1) := by decide +kernel
theorem dX5_weighAll_70 : decode cX5_weighAll 70 = .ok (.getfield 46, 3) := by decide +kernel
theorem dX5_weighAll_73 : decode cX5_weighAll 73 = .ok (.getfield 72, 3) := by decide +kernel
theorem dX5_weighAll_76 : decode cX5_weighAll 76 = .ok (.iload_n 2, 1) := by decide +kernel
theorem dX5_weighAll_77 : decode cX5_weighAll 77 = .ok (.iaload, 1) := by decide +kernel
theorem dX5_weighAll_78 : decode cX5_weighAll 78 = .ok (.invokevirtual 77, 3) := by decide +kernel
theorem dX5_weighAll_81 : decode cX5_weighAll 81 = .ok (.iinc 2 1, 3) := by decide +kernel
theorem dX5_weighAll_84 : decode cX5_weighAll 84 = .ok (.goto (-48), 3) := by decide +kernel
theorem dX5_weighAll_87 : decode cX5_weighAll 87 = .ok (.iinc 1 1, 3) := by decide +kernel
theorem dX5_weighAll_90 : decode cX5_weighAll 90 = .ok (.goto (-62), 3) := by decide +kernel
theorem dX5_weighAll_93 : decode cX5_weighAll 93 = .ok (.return_, 1) := by decide +kernel
theorem dX5_weighConstraint_0 : decode cX5_weighConstraint 0 = .ok (.aload_n 0, 1) := by decide +kernel
theorem dX5_weighConstraint_1 : decode cX5_weighConstraint 1 = .ok (.getfield 38, 3) := by decide +kernel
theorem dX5_weighConstraint_4 : decode cX5_weighConstraint 4 = .ok (.iload_n 2, 1) := by decide +kernel
theorem dX5_weighConstraint_5 : decode cX5_weighConstraint 5 = .ok (.invokevirtual 81, 3) := by decide +kernel
theorem dX5_weighConstraint_8 : decode cX5_weighConstraint 8 = .ok (.ifCond .ne 4, 3) := by decide +kernel
theorem dX5_weighConstraint_11 : decode cX5_weighConstraint 11 = .ok (.return_, 1) := by decide +kernel
theorem dX5_weighConstraint_12 : decode cX5_weighConstraint 12 = .ok (.aload_n 0, 1) := by decide +kernel
theorem dX5_weighConstraint_13 : decode cX5_weighConstraint 13 = .ok (.iload_n 1, 1) := by decide +kernel
theorem dX5_weighConstraint_14 : decode cX5_weighConstraint 14 = .ok (.invokevirtual 85, 3) := by decide +kernel
theorem dX5_weighConstraint_17 : decode cX5_weighConstraint 17 = .ok (.istore_n 3, 1) := by decide +kernel
theorem dX5_weighConstraint_18 : decode cX5_weighConstraint 18 = .ok (.iconst 0, 1) := by decide +kernel
theorem dX5_weighConstraint_19 : decode cX5_weighConstraint 19 = .ok (.istore 4, 2) := by decide +kernel
theorem dX5_weighConstraint_21 : decode cX5_weighConstraint 21 = .ok (.iload 4, 2) := by decide +kernel
theorem dX5_weighConstraint_23 : decode cX5_weighConstraint 23 = .ok (.bipush 32, 2) := by decide +kernel
theorem dX5_weighConstraint_25 : decode cX5_weighConstraint 25 = .ok (.if_icmp .ge 73, 3) := by decide +kernel
theorem dX5_weighConstraint_28 : decode cX5_weighConstraint 28 = .ok (.aload_n 0, 1) := by decide +kernel
theorem dX5_weighConstraint_29 : decode cX5_weighConstraint 29 = .ok (.iload_n 1, 1) := by decide +kernel
theorem dX5_weighConstraint_30 : decode cX5_weighConstraint 30 = .ok (.iload 4, 2) := by decide +kernel
theorem dX5_weighConstraint_32 : decode cX5_weighConstraint 32 = .ok (.aload_n 0, 1) := by decide +kernel
theorem dX5_weighConstraint_33 : decode cX5_weighConstraint 33 = .ok (.getfield 34, 3) := by decide +kernel
theorem dX5_weighConstraint_36 : decode cX5_weighConstraint 36 = .ok (.iload 4, 2) := by decide +kernel
theorem dX5_weighConstraint_38 : decode cX5_weighConstraint 38 = .ok (.aload_n 0, 1) := by decide +kernel
theorem dX5_weighConstraint_39 : decode cX5_weighConstraint 39 = .ok (.getfield 38, 3) := by decide +kernel
theorem dX5_weighConstraint_42 : decode cX5_weighConstraint 42 = .ok (.getfield 88, 3) := by decide +kernel
theorem dX5_weighConstraint_45 : decode cX5_weighConstraint 45 = .ok (.iload_n 2, 1) := by decide +kernel
theorem dX5_weighConstraint_46 : decode cX5_weighConstraint 46 = .ok (.iaload, 1) := by decide +kernel
theorem dX5_weighConstraint_47 : decode cX5_weighConstraint 47 = .ok (.invokevirtual 91, 3) := by decide +kernel
theorem dX5_weighConstraint_50 : decode cX5_weighConstraint 50 = .ok (.iload_n 3, 1) := by decide +kernel
theorem dX5_weighConstraint_51 : decode cX5_weighConstraint 51 = .ok (.invokevirtual 97, 3) := by decide +kernel
theorem dX5_weighConstraint_54 : decode cX5_weighConstraint 54 = .ok (.lstore 5, 2) := by decide +kernel
theorem dX5_weighConstraint_56 : decode cX5_weighConstraint 56 = .ok (.aload_n 0, 1) := by decide +kernel
theorem dX5_weighConstraint_57 : decode cX5_weighConstraint 57 = .ok (.getfield 9, 3) := by decide +kernel
theorem dX5_weighConstraint_60 : decode cX5_weighConstraint 60 = .ok (.iload 4, 2) := by decide +kernel
theorem dX5_weighConstraint_62 : decode cX5_weighConstraint 62 = .ok (.bipush 40, 2) := by decide +kernel
theorem dX5_weighConstraint_64 : decode cX5_weighConstraint 64 = .ok (.imul, 1) := by decide +kernel
theorem dX5_weighConstraint_65 : decode cX5_weighConstraint 65 = .ok (.iload_n 1, 1) := by decide +kernel
theorem dX5_weighConstraint_66 : decode cX5_weighConstraint 66 = .ok (.iadd, 1) := by decide +kernel
theorem dX5_weighConstraint_67 : decode cX5_weighConstraint 67 = .ok (.lload 5, 2) := by decide +kernel
theorem dX5_weighConstraint_69 : decode cX5_weighConstraint 69 = .ok (.lastore, 1) := by decide +kernel
theorem dX5_weighConstraint_70 : decode cX5_weighConstraint 70 = .ok (.lload 5, 2) := by decide +kernel
theorem dX5_weighConstraint_72 : decode cX5_weighConstraint 72 = .ok (.lconst 0, 1) := by decide +kernel
theorem dX5_weighConstraint_73 : decode cX5_weighConstraint 73 = .ok (.lcmp, 1) := by decide +kernel
theorem dX5_weighConstraint_74 : decode cX5_weighConstraint 74 = .ok (.ifCond .eq 18, 3) := by decide +kernel
theorem dX5_weighConstraint_77 : decode cX5_weighConstraint 77 = .ok (.aload_n 0, 1) := by decide +kernel
theorem dX5_weighConstraint_78 : decode cX5_weighConstraint 78 = .ok (.getfield 15, 3) := by decide +kernel
theorem dX5_weighConstraint_81 : decode cX5_weighConstraint 81 = .ok (.iload_n 2, 1) := by decide +kernel
theorem dX5_weighConstraint_82 : decode cX5_weighConstraint 82 = .ok (.dup2, 1) := by decide +kernel
theorem dX5_weighConstraint_83 : decode cX5_weighConstraint 83 = .ok (.iaload, 1) := by decide +kernel
theorem dX5_weighConstraint_84 : decode cX5_weighConstraint 84 = .ok (.iconst 1, 1) := by decide +kernel
theorem dX5_weighConstraint_85 : decode cX5_weighConstraint 85 = .ok (.iload 4, 2) := by decide +kernel
theorem dX5_weighConstraint_87 : decode cX5_weighConstraint 87 = .ok (.ishl, 1) := by decide +kernel
theorem dX5_weighConstraint_88 : decode cX5_weighConstraint 88 = .ok (.iconst (-1), 1) := by decide +kernel
theorem dX5_weighConstraint_89 : decode cX5_weighConstraint 89 = .ok (.ixor, 1) := by decide +kernel
theorem dX5_weighConstraint_90 : decode cX5_weighConstraint 90 = .ok (.iand, 1) := by decide +kernel
theorem dX5_weighConstraint_91 : decode cX5_weighConstraint 91 = .ok (.iastore, 1) := by decide +kernel
theorem dX5_weighConstraint_92 : decode cX5_weighConstraint 92 = .ok (.iinc 4 1, 3) := by decide +kernel
theorem dX5_weighConstraint_95 : decode cX5_weighConstraint 95 = .ok (.goto (-74), 3) := by decide +kernel
theorem dX5_weighConstraint_98 : decode cX5_weighConstraint 98 = .ok (.return_, 1) := by decide +kernel
theorem dX5_goodValues_0 : decode cX5_goodValues 0 = .ok (.aload_n 0, 1) := by decide +kernel
theorem dX5_goodValues_1 : decode cX5_goodValues 1 = .ok (.getfield 46, 3) := by decide +kernel
theorem dX5_goodValues_4 : decode cX5_goodValues 4 = .ok (.getfield 101, 3) := by decide +kernel
theorem dX5_goodValues_7 : decode cX5_goodValues 7 = .ok (.iload_n 1, 1) := by decide +kernel
theorem dX5_goodValues_8 : decode cX5_goodValues 8 = .ok (.iaload, 1) := by decide +kernel
theorem dX5_goodValues_9 : decode cX5_goodValues 9 = .ok (.istore_n 2, 1) := by decide +kernel
theorem dX5_goodValues_10 : decode cX5_goodValues 10 = .ok (.aload_n 0, 1) := by decide +kernel
theorem dX5_goodValues_11 : decode cX5_goodValues 11 = .ok (.getfield 46, 3) := by decide +kernel
theorem dX5_goodValues_14 : decode cX5_goodValues 14 = .ok (.getfield 104, 3) := by decide +kernel
theorem dX5_goodValues_17 : decode cX5_goodValues 17 = .ok (.iload_n 1, 1) := by decide +kernel
theorem dX5_goodValues_18 : decode cX5_goodValues 18 = .ok (.iaload, 1) := by decide +kernel
theorem dX5_goodValues_19 : decode cX5_goodValues 19 = .ok (.istore_n 3, 1) := by decide +kernel
theorem dX5_goodValues_20 : decode cX5_goodValues 20 = .ok (.aload_n 0, 1) := by decide +kernel
theorem dX5_goodValues_21 : decode cX5_goodValues 21 = .ok (.getfield 46, 3) := by decide +kernel
theorem dX5_goodValues_24 : decode cX5_goodValues 24 = .ok (.getfield 107, 3) := by decide +kernel
theorem dX5_goodValues_27 : decode cX5_goodValues 27 = .ok (.iload_n 1, 1) := by decide +kernel
theorem dX5_goodValues_28 : decode cX5_goodValues 28 = .ok (.iaload, 1) := by decide +kernel
theorem dX5_goodValues_29 : decode cX5_goodValues 29 = .ok (.tableswitch 159 0 17 #[87, 96, 159, 101, 107, 159, 159, 159, 159, 159, 159, 109, 117, 129, 141, 153, 153, 153], 87) := by decide +kernel
theorem dX5_goodValues_116 : decode cX5_goodValues 116 = .ok (.aload_n 0, 1) := by decide +kernel
theorem dX5_goodValues_117 : decode cX5_goodValues 117 = .ok (.getfield 34, 3) := by decide +kernel
theorem dX5_goodValues_120 : decode cX5_goodValues 120 = .ok (.iload_n 2, 1) := by decide +kernel
theorem dX5_goodValues_121 : decode cX5_goodValues 121 = .ok (.invokevirtual 110, 3) := by decide +kernel
theorem dX5_goodValues_124 : decode cX5_goodValues 124 = .ok (.ireturn, 1) := by decide +kernel
theorem dX5_goodValues_125 : decode cX5_goodValues 125 = .ok (.iload_n 2, 1) := by decide +kernel
theorem dX5_goodValues_126 : decode cX5_goodValues 126 = .ok (.invokestatic 113, 3) := by decide +kernel
theorem dX5_goodValues_129 : decode cX5_goodValues 129 = .ok (.ireturn, 1) := by decide +kernel
theorem dX5_goodValues_130 : decode cX5_goodValues 130 = .ok (.iload_n 2, 1) := by decide +kernel
theorem dX5_goodValues_131 : decode cX5_goodValues 131 = .ok (.iload_n 3, 1) := by decide +kernel
theorem dX5_goodValues_132 : decode cX5_goodValues 132 = .ok (.invokestatic 116, 3) := by decide +kernel
theorem dX5_goodValues_135 : decode cX5_goodValues 135 = .ok (.ireturn, 1) := by decide +kernel
theorem dX5_goodValues_136 : decode cX5_goodValues 136 = .ok (.iload_n 2, 1) := by decide +kernel
theorem dX5_goodValues_137 : decode cX5_goodValues 137 = .ok (.ireturn, 1) := by decide +kernel
theorem dX5_goodValues_138 : decode cX5_goodValues 138 = .ok (.aload_n 0, 1) := by decide +kernel
theorem dX5_goodValues_139 : decode cX5_goodValues 139 = .ok (.iload_n 2, 1) := by decide +kernel
theorem dX5_goodValues_140 : decode cX5_goodValues 140 = .ok (.invokevirtual 119, 3) := by decide +kernel
theorem dX5_goodValues_143 : decode cX5_goodValues 143 = .ok (.iconst (-1), 1) := by decide +kernel
theorem dX5_goodValues_144 : decode cX5_goodValues 144 = .ok (.ixor, 1) := by decide +kernel
theorem dX5_goodValues_145 : decode cX5_goodValues 145 = .ok (.ireturn, 1) := by decide +kernel
theorem dX5_goodValues_146 : decode cX5_goodValues 146 = .ok (.aload_n 0, 1) := by decide +kernel
theorem dX5_goodValues_147 : decode cX5_goodValues 147 = .ok (.iload_n 2, 1) := by decide +kernel
theorem dX5_goodValues_148 : decode cX5_goodValues 148 = .ok (.invokevirtual 119, 3) := by decide +kernel
theorem dX5_goodValues_151 : decode cX5_goodValues 151 = .ok (.aload_n 0, 1) := by decide +kernel
theorem dX5_goodValues_152 : decode cX5_goodValues 152 = .ok (.iload_n 3, 1) := by decide +kernel
theorem dX5_goodValues_153 : decode cX5_goodValues 153 = .ok (.invokevirtual 119, 3) := by decide +kernel
theorem dX5_goodValues_156 : decode cX5_goodValues 156 = .ok (.iand, 1) := by decide +kernel
theorem dX5_goodValues_157 : decode cX5_goodValues 157 = .ok (.ireturn, 1) := by decide +kernel
theorem dX5_goodValues_158 : decode cX5_goodValues 158 = .ok (.aload_n 0, 1) := by decide +kernel
theorem dX5_goodValues_159 : decode cX5_goodValues 159 = .ok (.iload_n 2, 1) := by decide +kernel
theorem dX5_goodValues_160 : decode cX5_goodValues 160 = .ok (.invokevirtual 119, 3) := by decide +kernel
theorem dX5_goodValues_163 : decode cX5_goodValues 163 = .ok (.aload_n 0, 1) := by decide +kernel
theorem dX5_goodValues_164 : decode cX5_goodValues 164 = .ok (.iload_n 3, 1) := by decide +kernel
theorem dX5_goodValues_165 : decode cX5_goodValues 165 = .ok (.invokevirtual 119, 3) := by decide +kernel
theorem dX5_goodValues_168 : decode cX5_goodValues 168 = .ok (.ior, 1) := by decide +kernel
theorem dX5_goodValues_169 : decode cX5_goodValues 169 = .ok (.ireturn, 1) := by decide +kernel
theorem dX5_goodValues_170 : decode cX5_goodValues 170 = .ok (.aload_n 0, 1) := by decide +kernel
theorem dX5_goodValues_171 : decode cX5_goodValues 171 = .ok (.iload_n 2, 1) := by decide +kernel
theorem dX5_goodValues_172 : decode cX5_goodValues 172 = .ok (.invokevirtual 119, 3) := by decide +kernel
theorem dX5_goodValues_175 : decode cX5_goodValues 175 = .ok (.aload_n 0, 1) := by decide +kernel
theorem dX5_goodValues_176 : decode cX5_goodValues 176 = .ok (.iload_n 3, 1) := by decide +kernel
theorem dX5_goodValues_177 : decode cX5_goodValues 177 = .ok (.invokevirtual 119, 3) := by decide +kernel
theorem dX5_goodValues_180 : decode cX5_goodValues 180 = .ok (.ixor, 1) := by decide +kernel
theorem dX5_goodValues_181 : decode cX5_goodValues 181 = .ok (.ireturn, 1) := by decide +kernel
theorem dX5_goodValues_182 : decode cX5_goodValues 182 = .ok (.aload_n 0, 1) := by decide +kernel
theorem dX5_goodValues_183 : decode cX5_goodValues 183 = .ok (.iload_n 2, 1) := by decide +kernel
theorem dX5_goodValues_184 : decode cX5_goodValues 184 = .ok (.invokevirtual 119, 3) := by decide +kernel
theorem dX5_goodValues_187 : decode cX5_goodValues 187 = .ok (.ireturn, 1) := by decide +kernel
theorem dX5_goodValues_188 : decode cX5_goodValues 188 = .ok (.iconst (-1), 1) := by decide +kernel
theorem dX5_goodValues_189 : decode cX5_goodValues 189 = .ok (.ireturn, 1) := by decide +kernel
theorem dX5_fittingTerms_0 : decode cX5_fittingTerms 0 = .ok (.aload_n 0, 1) := by decide +kernel
theorem dX5_fittingTerms_1 : decode cX5_fittingTerms 1 = .ok (.getfield 38, 3) := by decide +kernel
theorem dX5_fittingTerms_4 : decode cX5_fittingTerms 4 = .ok (.iload_n 1, 1) := by decide +kernel
theorem dX5_fittingTerms_5 : decode cX5_fittingTerms 5 = .ok (.invokevirtual 81, 3) := by decide +kernel
theorem dX5_fittingTerms_8 : decode cX5_fittingTerms 8 = .ok (.ifCond .eq 12, 3) := by decide +kernel
theorem dX5_fittingTerms_11 : decode cX5_fittingTerms 11 = .ok (.aload_n 0, 1) := by decide +kernel
theorem dX5_fittingTerms_12 : decode cX5_fittingTerms 12 = .ok (.getfield 15, 3) := by decide +kernel
theorem dX5_fittingTerms_15 : decode cX5_fittingTerms 15 = .ok (.iload_n 1, 1) := by decide +kernel
theorem dX5_fittingTerms_16 : decode cX5_fittingTerms 16 = .ok (.iaload, 1) := by decide +kernel
theorem dX5_fittingTerms_17 : decode cX5_fittingTerms 17 = .ok (.goto 4, 3) := by decide +kernel
theorem dX5_fittingTerms_20 : decode cX5_fittingTerms 20 = .ok (.iconst 0, 1) := by decide +kernel
theorem dX5_fittingTerms_21 : decode cX5_fittingTerms 21 = .ok (.ireturn, 1) := by decide +kernel
theorem dX5_faultsOf_0 : decode cX5_faultsOf 0 = .ok (.aload_n 0, 1) := by decide +kernel
theorem dX5_faultsOf_1 : decode cX5_faultsOf 1 = .ok (.getfield 46, 3) := by decide +kernel
theorem dX5_faultsOf_4 : decode cX5_faultsOf 4 = .ok (.getfield 101, 3) := by decide +kernel
theorem dX5_faultsOf_7 : decode cX5_faultsOf 7 = .ok (.iload_n 1, 1) := by decide +kernel
theorem dX5_faultsOf_8 : decode cX5_faultsOf 8 = .ok (.iaload, 1) := by decide +kernel
theorem dX5_faultsOf_9 : decode cX5_faultsOf 9 = .ok (.istore 5, 2) := by decide +kernel
theorem dX5_faultsOf_11 : decode cX5_faultsOf 11 = .ok (.aload_n 0, 1) := by decide +kernel
theorem dX5_faultsOf_12 : decode cX5_faultsOf 12 = .ok (.getfield 46, 3) := by decide +kernel
theorem dX5_faultsOf_15 : decode cX5_faultsOf 15 = .ok (.getfield 104, 3) := by decide +kernel
theorem dX5_faultsOf_18 : decode cX5_faultsOf 18 = .ok (.iload_n 1, 1) := by decide +kernel
theorem dX5_faultsOf_19 : decode cX5_faultsOf 19 = .ok (.iaload, 1) := by decide +kernel
theorem dX5_faultsOf_20 : decode cX5_faultsOf 20 = .ok (.istore 6, 2) := by decide +kernel
theorem dX5_faultsOf_22 : decode cX5_faultsOf 22 = .ok (.aload_n 0, 1) := by decide +kernel
theorem dX5_faultsOf_23 : decode cX5_faultsOf 23 = .ok (.getfield 46, 3) := by decide +kernel
theorem dX5_faultsOf_26 : decode cX5_faultsOf 26 = .ok (.getfield 107, 3) := by decide +kernel
theorem dX5_faultsOf_29 : decode cX5_faultsOf 29 = .ok (.iload_n 1, 1) := by decide +kernel
theorem dX5_faultsOf_30 : decode cX5_faultsOf 30 = .ok (.iaload, 1) := by decide +kernel
theorem dX5_faultsOf_31 : decode cX5_faultsOf 31 = .ok (.tableswitch 214 2 17 #[77, 214, 214, 92, 125, 141, 157, 178, 197, 214, 214, 214, 214, 214, 214, 102], 77) := by decide +kernel
theorem dX5_faultsOf_108 : decode cX5_faultsOf 108 = .ok (.iload_n 3, 1) := by decide +kernel
theorem dX5_faultsOf_109 : decode cX5_faultsOf 109 = .ok (.invokestatic 122, 3) := by decide +kernel
theorem dX5_faultsOf_112 : decode cX5_faultsOf 112 = .ok (.iload 5, 2) := by decide +kernel
theorem dX5_faultsOf_114 : decode cX5_faultsOf 114 = .ok (.iload 6, 2) := by decide +kernel
theorem dX5_faultsOf_116 : decode cX5_faultsOf 116 = .ok (.invokestatic 127, 3) := by decide +kernel
theorem dX5_faultsOf_119 : decode cX5_faultsOf 119 = .ok (.invokestatic 131, 3) := by decide +kernel
theorem dX5_faultsOf_122 : decode cX5_faultsOf 122 = .ok (.lreturn, 1) := by decide +kernel
theorem dX5_faultsOf_123 : decode cX5_faultsOf 123 = .ok (.iload_n 3, 1) := by decide +kernel
theorem dX5_faultsOf_124 : decode cX5_faultsOf 124 = .ok (.iload 5, 2) := by decide +kernel
theorem dX5_faultsOf_126 : decode cX5_faultsOf 126 = .ok (.invokestatic 135, 3) := by decide +kernel
theorem dX5_faultsOf_129 : decode cX5_faultsOf 129 = .ok (.invokestatic 131, 3) := by decide +kernel
theorem dX5_faultsOf_132 : decode cX5_faultsOf 132 = .ok (.lreturn, 1) := by decide +kernel
theorem dX5_faultsOf_133 : decode cX5_faultsOf 133 = .ok (.iload_n 3, 1) := by decide +kernel
theorem dX5_faultsOf_134 : decode cX5_faultsOf 134 = .ok (.iload 4, 2) := by decide +kernel
theorem dX5_faultsOf_136 : decode cX5_faultsOf 136 = .ok (.iand, 1) := by decide +kernel
theorem dX5_faultsOf_137 : decode cX5_faultsOf 137 = .ok (.invokestatic 122, 3) := by decide +kernel
theorem dX5_faultsOf_140 : decode cX5_faultsOf 140 = .ok (.iload 6, 2) := by decide +kernel
theorem dX5_faultsOf_142 : decode cX5_faultsOf 142 = .ok (.iconst 4, 1) := by decide +kernel
theorem dX5_faultsOf_143 : decode cX5_faultsOf 143 = .ok (.ishr, 1) := by decide +kernel
theorem dX5_faultsOf_144 : decode cX5_faultsOf 144 = .ok (.iload 6, 2) := by decide +kernel
theorem dX5_faultsOf_146 : decode cX5_faultsOf 146 = .ok (.bipush 15, 2) := by decide +kernel
theorem dX5_faultsOf_148 : decode cX5_faultsOf 148 = .ok (.iand, 1) := by decide +kernel
theorem dX5_faultsOf_149 : decode cX5_faultsOf 149 = .ok (.invokestatic 127, 3) := by decide +kernel
theorem dX5_faultsOf_152 : decode cX5_faultsOf 152 = .ok (.invokestatic 131, 3) := by decide +kernel
theorem dX5_faultsOf_155 : decode cX5_faultsOf 155 = .ok (.lreturn, 1) := by decide +kernel
theorem dX5_faultsOf_156 : decode cX5_faultsOf 156 = .ok (.iload_n 3, 1) := by decide +kernel
theorem dX5_faultsOf_157 : decode cX5_faultsOf 157 = .ok (.aload_n 0, 1) := by decide +kernel
theorem dX5_faultsOf_158 : decode cX5_faultsOf 158 = .ok (.getfield 34, 3) := by decide +kernel
theorem dX5_faultsOf_161 : decode cX5_faultsOf 161 = .ok (.iload_n 2, 1) := by decide +kernel
theorem dX5_faultsOf_162 : decode cX5_faultsOf 162 = .ok (.iload 5, 2) := by decide +kernel
theorem dX5_faultsOf_164 : decode cX5_faultsOf 164 = .ok (.invokevirtual 139, 3) := by decide +kernel
theorem dX5_faultsOf_167 : decode cX5_faultsOf 167 = .ok (.ixor, 1) := by decide +kernel
theorem dX5_faultsOf_168 : decode cX5_faultsOf 168 = .ok (.invokestatic 142, 3) := by decide +kernel
theorem dX5_faultsOf_171 : decode cX5_faultsOf 171 = .ok (.lreturn, 1) := by decide +kernel
theorem dX5_faultsOf_172 : decode cX5_faultsOf 172 = .ok (.iload_n 3, 1) := by decide +kernel
theorem dX5_faultsOf_173 : decode cX5_faultsOf 173 = .ok (.aload_n 0, 1) := by decide +kernel
theorem dX5_faultsOf_174 : decode cX5_faultsOf 174 = .ok (.getfield 34, 3) := by decide +kernel
theorem dX5_faultsOf_177 : decode cX5_faultsOf 177 = .ok (.iload_n 2, 1) := by decide +kernel
theorem dX5_faultsOf_178 : decode cX5_faultsOf 178 = .ok (.iload 5, 2) := by decide +kernel
theorem dX5_faultsOf_180 : decode cX5_faultsOf 180 = .ok (.invokevirtual 139, 3) := by decide +kernel
theorem dX5_faultsOf_183 : decode cX5_faultsOf 183 = .ok (.iand, 1) := by decide +kernel
theorem dX5_faultsOf_184 : decode cX5_faultsOf 184 = .ok (.invokestatic 142, 3) := by decide +kernel
theorem dX5_faultsOf_187 : decode cX5_faultsOf 187 = .ok (.lreturn, 1) := by decide +kernel
theorem dX5_faultsOf_188 : decode cX5_faultsOf 188 = .ok (.iload_n 3, 1) := by decide +kernel
theorem dX5_faultsOf_189 : decode cX5_faultsOf 189 = .ok (.aload_n 0, 1) := by decide +kernel
theorem dX5_faultsOf_190 : decode cX5_faultsOf 190 = .ok (.getfield 34, 3) := by decide +kernel
theorem dX5_faultsOf_193 : decode cX5_faultsOf 193 = .ok (.iload_n 2, 1) := by decide +kernel
theorem dX5_faultsOf_194 : decode cX5_faultsOf 194 = .ok (.iload 5, 2) := by decide +kernel
theorem dX5_faultsOf_196 : decode cX5_faultsOf 196 = .ok (.invokevirtual 139, 3) := by decide +kernel
theorem dX5_faultsOf_199 : decode cX5_faultsOf 199 = .ok (.invokestatic 146, 3) := by decide +kernel
theorem dX5_faultsOf_202 : decode cX5_faultsOf 202 = .ok (.iconst (-1), 1) := by decide +kernel
theorem dX5_faultsOf_203 : decode cX5_faultsOf 203 = .ok (.ixor, 1) := by decide +kernel
theorem dX5_faultsOf_204 : decode cX5_faultsOf 204 = .ok (.iand, 1) := by decide +kernel
theorem dX5_faultsOf_205 : decode cX5_faultsOf 205 = .ok (.invokestatic 142, 3) := by decide +kernel
theorem dX5_faultsOf_208 : decode cX5_faultsOf 208 = .ok (.lreturn, 1) := by decide +kernel
theorem dX5_faultsOf_209 : decode cX5_faultsOf 209 = .ok (.iload_n 3, 1) := by decide +kernel
theorem dX5_faultsOf_210 : decode cX5_faultsOf 210 = .ok (.ldc 149, 2) := by decide +kernel
theorem dX5_faultsOf_212 : decode cX5_faultsOf 212 = .ok (.iand, 1) := by decide +kernel
theorem dX5_faultsOf_213 : decode cX5_faultsOf 213 = .ok (.invokestatic 150, 3) := by decide +kernel
theorem dX5_faultsOf_216 : decode cX5_faultsOf 216 = .ok (.iload_n 3, 1) := by decide +kernel
theorem dX5_faultsOf_217 : decode cX5_faultsOf 217 = .ok (.ldc 153, 2) := by decide +kernel
theorem dX5_faultsOf_219 : decode cX5_faultsOf 219 = .ok (.iand, 1) := by decide +kernel
theorem dX5_faultsOf_220 : decode cX5_faultsOf 220 = .ok (.invokestatic 150, 3) := by decide +kernel
theorem dX5_faultsOf_223 : decode cX5_faultsOf 223 = .ok (.ior, 1) := by decide +kernel
theorem dX5_faultsOf_224 : decode cX5_faultsOf 224 = .ok (.invokestatic 142, 3) := by decide +kernel
theorem dX5_faultsOf_227 : decode cX5_faultsOf 227 = .ok (.lreturn, 1) := by decide +kernel
theorem dX5_faultsOf_228 : decode cX5_faultsOf 228 = .ok (.aload_n 0, 1) := by decide +kernel
theorem dX5_faultsOf_229 : decode cX5_faultsOf 229 = .ok (.getfield 34, 3) := by decide +kernel
theorem dX5_faultsOf_232 : decode cX5_faultsOf 232 = .ok (.iload_n 3, 1) := by decide +kernel
theorem dX5_faultsOf_233 : decode cX5_faultsOf 233 = .ok (.ldc 154, 2) := by decide +kernel
theorem dX5_faultsOf_235 : decode cX5_faultsOf 235 = .ok (.iand, 1) := by decide +kernel
theorem dX5_faultsOf_236 : decode cX5_faultsOf 236 = .ok (.iload 5, 2) := by decide +kernel
theorem dX5_faultsOf_238 : decode cX5_faultsOf 238 = .ok (.invokevirtual 155, 3) := by decide +kernel
theorem dX5_faultsOf_241 : decode cX5_faultsOf 241 = .ok (.invokestatic 142, 3) := by decide +kernel
theorem dX5_faultsOf_244 : decode cX5_faultsOf 244 = .ok (.lreturn, 1) := by decide +kernel
theorem dX5_faultsOf_245 : decode cX5_faultsOf 245 = .ok (.iload_n 3, 1) := by decide +kernel
theorem dX5_faultsOf_246 : decode cX5_faultsOf 246 = .ok (.iload 4, 2) := by decide +kernel
theorem dX5_faultsOf_248 : decode cX5_faultsOf 248 = .ok (.iconst (-1), 1) := by decide +kernel
theorem dX5_faultsOf_249 : decode cX5_faultsOf 249 = .ok (.ixor, 1) := by decide +kernel
theorem dX5_faultsOf_250 : decode cX5_faultsOf 250 = .ok (.iand, 1) := by decide +kernel
theorem dX5_faultsOf_251 : decode cX5_faultsOf 251 = .ok (.invokestatic 142, 3) := by decide +kernel
theorem dX5_faultsOf_254 : decode cX5_faultsOf 254 = .ok (.lreturn, 1) := by decide +kernel
theorem dX5_unless_0 : decode cX5_unless 0 = .ok (.iload_n 0, 1) := by decide +kernel
theorem dX5_unless_1 : decode cX5_unless 1 = .ok (.ifCond .eq 7, 3) := by decide +kernel
theorem dX5_unless_4 : decode cX5_unless 4 = .ok (.lconst 0, 1) := by decide +kernel
theorem dX5_unless_5 : decode cX5_unless 5 = .ok (.goto 4, 3) := by decide +kernel
theorem dX5_unless_8 : decode cX5_unless 8 = .ok (.lconst 1, 1) := by decide +kernel
theorem dX5_unless_9 : decode cX5_unless 9 = .ok (.lreturn, 1) := by decide +kernel
theorem dX5_withValues_0 : decode cX5_withValues 0 = .ok (.iload_n 0, 1) := by decide +kernel
theorem dX5_withValues_1 : decode cX5_withValues 1 = .ok (.i2l, 1) := by decide +kernel
theorem dX5_withValues_2 : decode cX5_withValues 2 = .ok (.ldc2_w 158, 3) := by decide +kernel
theorem dX5_withValues_5 : decode cX5_withValues 5 = .ok (.land, 1) := by decide +kernel
theorem dX5_withValues_6 : decode cX5_withValues 6 = .ok (.iconst 1, 1) := by decide +kernel
theorem dX5_withValues_7 : decode cX5_withValues 7 = .ok (.lshl, 1) := by decide +kernel
theorem dX5_withValues_8 : decode cX5_withValues 8 = .ok (.lreturn, 1) := by decide +kernel
theorem dX5_askAll_0 : decode cX5_askAll 0 = .ok (.iconst 0, 1) := by decide +kernel
theorem dX5_askAll_1 : decode cX5_askAll 1 = .ok (.istore_n 1, 1) := by decide +kernel
theorem dX5_askAll_2 : decode cX5_askAll 2 = .ok (.iload_n 1, 1) := by decide +kernel
theorem dX5_askAll_3 : decode cX5_askAll 3 = .ok (.aload_n 0, 1) := by decide +kernel
theorem dX5_askAll_4 : decode cX5_askAll 4 = .ok (.getfield 38, 3) := by decide +kernel
theorem dX5_askAll_7 : decode cX5_askAll 7 = .ok (.getfield 63, 3) := by decide +kernel
theorem dX5_askAll_10 : decode cX5_askAll 10 = .ok (.if_icmp .ge 27, 3) := by decide +kernel
theorem dX5_askAll_13 : decode cX5_askAll 13 = .ok (.aload_n 0, 1) := by decide +kernel
theorem dX5_askAll_14 : decode cX5_askAll 14 = .ok (.getfield 19, 3) := by decide +kernel
theorem dX5_askAll_17 : decode cX5_askAll 17 = .ok (.iload_n 1, 1) := by decide +kernel
theorem dX5_askAll_18 : decode cX5_askAll 18 = .ok (.aload_n 0, 1) := by decide +kernel
theorem dX5_askAll_19 : decode cX5_askAll 19 = .ok (.getfield 42, 3) := by decide +kernel
theorem dX5_askAll_22 : decode cX5_askAll 22 = .ok (.iload_n 1, 1) := by decide +kernel
theorem dX5_askAll_23 : decode cX5_askAll 23 = .ok (.aload_n 0, 1) := by decide +kernel
theorem dX5_askAll_24 : decode cX5_askAll 24 = .ok (.getfield 34, 3) := by decide +kernel
theorem dX5_askAll_27 : decode cX5_askAll 27 = .ok (.invokevirtual 160, 3) := by decide +kernel
theorem dX5_askAll_30 : decode cX5_askAll 30 = .ok (.iastore, 1) := by decide +kernel
theorem dX5_askAll_31 : decode cX5_askAll 31 = .ok (.iinc 1 1, 3) := by decide +kernel
theorem dX5_askAll_34 : decode cX5_askAll 34 = .ok (.goto (-32), 3) := by decide +kernel
theorem dX5_askAll_37 : decode cX5_askAll 37 = .ok (.bipush 11, 2) := by decide +kernel
theorem dX5_askAll_39 : decode cX5_askAll 39 = .ok (.istore_n 1, 1) := by decide +kernel
theorem dX5_askAll_40 : decode cX5_askAll 40 = .ok (.iload_n 1, 1) := by decide +kernel
theorem dX5_askAll_41 : decode cX5_askAll 41 = .ok (.ifCond .lt 67, 3) := by decide +kernel
theorem dX5_askAll_44 : decode cX5_askAll 44 = .ok (.iconst 0, 1) := by decide +kernel
theorem dX5_askAll_45 : decode cX5_askAll 45 = .ok (.istore_n 2, 1) := by decide +kernel
theorem dX5_askAll_46 : decode cX5_askAll 46 = .ok (.iload_n 2, 1) := by decide +kernel
theorem dX5_askAll_47 : decode cX5_askAll 47 = .ok (.aload_n 0, 1) := by decide +kernel
theorem dX5_askAll_48 : decode cX5_askAll 48 = .ok (.getfield 46, 3) := by decide +kernel
theorem dX5_askAll_51 : decode cX5_askAll 51 = .ok (.getfield 69, 3) := by decide +kernel
theorem dX5_askAll_54 : decode cX5_askAll 54 = .ok (.if_icmp .ge 48, 3) := by decide +kernel
theorem dX5_askAll_57 : decode cX5_askAll 57 = .ok (.aload_n 0, 1) := by decide +kernel
theorem dX5_askAll_58 : decode cX5_askAll 58 = .ok (.getfield 46, 3) := by decide +kernel
theorem dX5_askAll_61 : decode cX5_askAll 61 = .ok (.getfield 107, 3) := by decide +kernel
theorem dX5_askAll_64 : decode cX5_askAll 64 = .ok (.iload_n 2, 1) := by decide +kernel
theorem dX5_askAll_65 : decode cX5_askAll 65 = .ok (.iaload, 1) := by decide +kernel
theorem dX5_askAll_66 : decode cX5_askAll 66 = .ok (.bipush 16, 2) := by decide +kernel
theorem dX5_askAll_68 : decode cX5_askAll 68 = .ok (.if_icmp .ne 28, 3) := by decide +kernel
theorem dX5_askAll_71 : decode cX5_askAll 71 = .ok (.aload_n 0, 1) := by decide +kernel
theorem dX5_askAll_72 : decode cX5_askAll 72 = .ok (.getfield 38, 3) := by decide +kernel
theorem dX5_askAll_75 : decode cX5_askAll 75 = .ok (.aload_n 0, 1) := by decide +kernel
theorem dX5_askAll_76 : decode cX5_askAll 76 = .ok (.getfield 46, 3) := by decide +kernel
theorem dX5_askAll_79 : decode cX5_askAll 79 = .ok (.getfield 72, 3) := by decide +kernel
theorem dX5_askAll_82 : decode cX5_askAll 82 = .ok (.iload_n 2, 1) := by decide +kernel
theorem dX5_askAll_83 : decode cX5_askAll 83 = .ok (.iaload, 1) := by decide +kernel
theorem dX5_askAll_84 : decode cX5_askAll 84 = .ok (.invokevirtual 73, 3) := by decide +kernel
theorem dX5_askAll_87 : decode cX5_askAll 87 = .ok (.iload_n 1, 1) := by decide +kernel
theorem dX5_askAll_88 : decode cX5_askAll 88 = .ok (.if_icmp .ne 8, 3) := by decide +kernel
theorem dX5_askAll_91 : decode cX5_askAll 91 = .ok (.aload_n 0, 1) := by decide +kernel
theorem dX5_askAll_92 : decode cX5_askAll 92 = .ok (.iload_n 2, 1) := by decide +kernel
theorem dX5_askAll_93 : decode cX5_askAll 93 = .ok (.invokevirtual 166, 3) := by decide +kernel
theorem dX5_askAll_96 : decode cX5_askAll 96 = .ok (.iinc 2 1, 3) := by decide +kernel
theorem dX5_askAll_99 : decode cX5_askAll 99 = .ok (.goto (-53), 3) := by decide +kernel
theorem dX5_askAll_102 : decode cX5_askAll 102 = .ok (.iinc 1 (-1), 3) := by decide +kernel
theorem dX5_askAll_105 : decode cX5_askAll 105 = .ok (.goto (-65), 3) := by decide +kernel
theorem dX5_askAll_108 : decode cX5_askAll 108 = .ok (.return_, 1) := by decide +kernel
theorem dX5_handOn_0 : decode cX5_handOn 0 = .ok (.aload_n 0, 1) := by decide +kernel
theorem dX5_handOn_1 : decode cX5_handOn 1 = .ok (.getfield 46, 3) := by decide +kernel
theorem dX5_handOn_4 : decode cX5_handOn 4 = .ok (.getfield 72, 3) := by decide +kernel
theorem dX5_handOn_7 : decode cX5_handOn 7 = .ok (.iload_n 1, 1) := by decide +kernel
theorem dX5_handOn_8 : decode cX5_handOn 8 = .ok (.iaload, 1) := by decide +kernel
theorem dX5_handOn_9 : decode cX5_handOn 9 = .ok (.istore_n 2, 1) := by decide +kernel
theorem dX5_handOn_10 : decode cX5_handOn 10 = .ok (.aload_n 0, 1) := by decide +kernel
theorem dX5_handOn_11 : decode cX5_handOn 11 = .ok (.getfield 46, 3) := by decide +kernel
theorem dX5_handOn_14 : decode cX5_handOn 14 = .ok (.getfield 101, 3) := by decide +kernel
theorem dX5_handOn_17 : decode cX5_handOn 17 = .ok (.iload_n 1, 1) := by decide +kernel
theorem dX5_handOn_18 : decode cX5_handOn 18 = .ok (.iaload, 1) := by decide +kernel
theorem dX5_handOn_19 : decode cX5_handOn 19 = .ok (.istore_n 3, 1) := by decide +kernel
theorem dX5_handOn_20 : decode cX5_handOn 20 = .ok (.aload_n 0, 1) := by decide +kernel
theorem dX5_handOn_21 : decode cX5_handOn 21 = .ok (.getfield 38, 3) := by decide +kernel
theorem dX5_handOn_24 : decode cX5_handOn 24 = .ok (.iload_n 2, 1) := by decide +kernel
theorem dX5_handOn_25 : decode cX5_handOn 25 = .ok (.invokevirtual 81, 3) := by decide +kernel
theorem dX5_handOn_28 : decode cX5_handOn 28 = .ok (.ifCond .eq 14, 3) := by decide +kernel
theorem dX5_handOn_31 : decode cX5_handOn 31 = .ok (.aload_n 0, 1) := by decide +kernel
theorem dX5_handOn_32 : decode cX5_handOn 32 = .ok (.getfield 38, 3) := by decide +kernel
theorem dX5_handOn_35 : decode cX5_handOn 35 = .ok (.iload_n 3, 1) := by decide +kernel
theorem dX5_handOn_36 : decode cX5_handOn 36 = .ok (.invokevirtual 81, 3) := by decide +kernel
theorem dX5_handOn_39 : decode cX5_handOn 39 = .ok (.ifCond .ne 4, 3) := by decide +kernel
theorem dX5_handOn_42 : decode cX5_handOn 42 = .ok (.return_, 1) := by decide +kernel
theorem dX5_handOn_43 : decode cX5_handOn 43 = .ok (.iconst 0, 1) := by decide +kernel
theorem dX5_handOn_44 : decode cX5_handOn 44 = .ok (.istore 4, 2) := by decide +kernel
theorem dX5_handOn_46 : decode cX5_handOn 46 = .ok (.iload 4, 2) := by decide +kernel
theorem dX5_handOn_48 : decode cX5_handOn 48 = .ok (.bipush 32, 2) := by decide +kernel
theorem dX5_handOn_50 : decode cX5_handOn 50 = .ok (.if_icmp .ge 47, 3) := by decide +kernel
theorem dX5_handOn_53 : decode cX5_handOn 53 = .ok (.aload_n 0, 1) := by decide +kernel
theorem dX5_handOn_54 : decode cX5_handOn 54 = .ok (.getfield 19, 3) := by decide +kernel
theorem dX5_handOn_57 : decode cX5_handOn 57 = .ok (.iload_n 2, 1) := by decide +kernel
theorem dX5_handOn_58 : decode cX5_handOn 58 = .ok (.iaload, 1) := by decide +kernel
theorem dX5_handOn_59 : decode cX5_handOn 59 = .ok (.iload 4, 2) := by decide +kernel
theorem dX5_handOn_61 : decode cX5_handOn 61 = .ok (.invokestatic 135, 3) := by decide +kernel
theorem dX5_handOn_64 : decode cX5_handOn 64 = .ok (.ifCond .eq 27, 3) := by decide +kernel
theorem dX5_handOn_67 : decode cX5_handOn 67 = .ok (.aload_n 0, 1) := by decide +kernel
theorem dX5_handOn_68 : decode cX5_handOn 68 = .ok (.getfield 19, 3) := by decide +kernel
theorem dX5_handOn_71 : decode cX5_handOn 71 = .ok (.iload_n 3, 1) := by decide +kernel
theorem dX5_handOn_72 : decode cX5_handOn 72 = .ok (.dup2, 1) := by decide +kernel
theorem dX5_handOn_73 : decode cX5_handOn 73 = .ok (.iaload, 1) := by decide +kernel
theorem dX5_handOn_74 : decode cX5_handOn 74 = .ok (.aload_n 0, 1) := by decide +kernel
theorem dX5_handOn_75 : decode cX5_handOn 75 = .ok (.getfield 9, 3) := by decide +kernel
theorem dX5_handOn_78 : decode cX5_handOn 78 = .ok (.iload 4, 2) := by decide +kernel
theorem dX5_handOn_80 : decode cX5_handOn 80 = .ok (.bipush 40, 2) := by decide +kernel
theorem dX5_handOn_82 : decode cX5_handOn 82 = .ok (.imul, 1) := by decide +kernel
theorem dX5_handOn_83 : decode cX5_handOn 83 = .ok (.iload_n 1, 1) := by decide +kernel
theorem dX5_handOn_84 : decode cX5_handOn 84 = .ok (.iadd, 1) := by decide +kernel
theorem dX5_handOn_85 : decode cX5_handOn 85 = .ok (.laload, 1) := by decide +kernel
theorem dX5_handOn_86 : decode cX5_handOn 86 = .ok (.iconst 1, 1) := by decide +kernel
theorem dX5_handOn_87 : decode cX5_handOn 87 = .ok (.lushr, 1) := by decide +kernel
theorem dX5_handOn_88 : decode cX5_handOn 88 = .ok (.l2i, 1) := by decide +kernel
theorem dX5_handOn_89 : decode cX5_handOn 89 = .ok (.ior, 1) := by decide +kernel
theorem dX5_handOn_90 : decode cX5_handOn 90 = .ok (.iastore, 1) := by decide +kernel
theorem dX5_handOn_91 : decode cX5_handOn 91 = .ok (.iinc 4 1, 3) := by decide +kernel
theorem dX5_handOn_94 : decode cX5_handOn 94 = .ok (.goto (-48), 3) := by decide +kernel
theorem dX5_handOn_97 : decode cX5_handOn 97 = .ok (.return_, 1) := by decide +kernel
theorem dX5_tellAll_0 : decode cX5_tellAll 0 = .ok (.aload_n 0, 1) := by decide +kernel
theorem dX5_tellAll_1 : decode cX5_tellAll 1 = .ok (.iconst 0, 1) := by decide +kernel
theorem dX5_tellAll_2 : decode cX5_tellAll 2 = .ok (.putfield 170, 3) := by decide +kernel
theorem dX5_tellAll_5 : decode cX5_tellAll 5 = .ok (.iconst 0, 1) := by decide +kernel
theorem dX5_tellAll_6 : decode cX5_tellAll 6 = .ok (.istore_n 1, 1) := by decide +kernel
theorem dX5_tellAll_7 : decode cX5_tellAll 7 = .ok (.iload_n 1, 1) := by decide +kernel
theorem dX5_tellAll_8 : decode cX5_tellAll 8 = .ok (.bipush 32, 2) := by decide +kernel
theorem dX5_tellAll_10 : decode cX5_tellAll 10 = .ok (.if_icmp .ge 47, 3) := by decide +kernel
theorem dX5_tellAll_13 : decode cX5_tellAll 13 = .ok (.iconst 0, 1) := by decide +kernel
theorem dX5_tellAll_14 : decode cX5_tellAll 14 = .ok (.istore_n 2, 1) := by decide +kernel
theorem dX5_tellAll_15 : decode cX5_tellAll 15 = .ok (.iload_n 2, 1) := by decide +kernel
theorem dX5_tellAll_16 : decode cX5_tellAll 16 = .ok (.aload_n 0, 1) := by decide +kernel
theorem dX5_tellAll_17 : decode cX5_tellAll 17 = .ok (.getfield 38, 3) := by decide +kernel
theorem dX5_tellAll_20 : decode cX5_tellAll 20 = .ok (.getfield 63, 3) := by decide +kernel
theorem dX5_tellAll_23 : decode cX5_tellAll 23 = .ok (.if_icmp .ge 28, 3) := by decide +kernel
theorem dX5_tellAll_26 : decode cX5_tellAll 26 = .ok (.aload_n 0, 1) := by decide +kernel
theorem dX5_tellAll_27 : decode cX5_tellAll 27 = .ok (.getfield 19, 3) := by decide +kernel
theorem dX5_tellAll_30 : decode cX5_tellAll 30 = .ok (.iload_n 2, 1) := by decide +kernel
theorem dX5_tellAll_31 : decode cX5_tellAll 31 = .ok (.iaload, 1) := by decide +kernel
theorem dX5_tellAll_32 : decode cX5_tellAll 32 = .ok (.iload_n 1, 1) := by decide +kernel
theorem dX5_tellAll_33 : decode cX5_tellAll 33 = .ok (.invokestatic 135, 3) := by decide +kernel
theorem dX5_tellAll_36 : decode cX5_tellAll 36 = .ok (.ifCond .eq 9, 3) := by decide +kernel
theorem dX5_tellAll_39 : decode cX5_tellAll 39 = .ok (.aload_n 0, 1) := by decide +kernel
theorem dX5_tellAll_40 : decode cX5_tellAll 40 = .ok (.iload_n 1, 1) := by decide +kernel
theorem dX5_tellAll_41 : decode cX5_tellAll 41 = .ok (.iload_n 2, 1) := by decide +kernel
theorem dX5_tellAll_42 : decode cX5_tellAll 42 = .ok (.invokevirtual 171, 3) := by decide +kernel
theorem dX5_tellAll_45 : decode cX5_tellAll 45 = .ok (.iinc 2 1, 3) := by decide +kernel
theorem dX5_tellAll_48 : decode cX5_tellAll 48 = .ok (.goto (-33), 3) := by decide +kernel
theorem dX5_tellAll_51 : decode cX5_tellAll 51 = .ok (.iinc 1 1, 3) := by decide +kernel
theorem dX5_tellAll_54 : decode cX5_tellAll 54 = .ok (.goto (-47), 3) := by decide +kernel
theorem dX5_tellAll_57 : decode cX5_tellAll 57 = .ok (.return_, 1) := by decide +kernel
theorem dX5_tellShape_0 : decode cX5_tellShape 0 = .ok (.iconst 0, 1) := by decide +kernel
theorem dX5_tellShape_1 : decode cX5_tellShape 1 = .ok (.istore_n 3, 1) := by decide +kernel
theorem dX5_tellShape_2 : decode cX5_tellShape 2 = .ok (.iload_n 3, 1) := by decide +kernel
theorem dX5_tellShape_3 : decode cX5_tellShape 3 = .ok (.aload_n 0, 1) := by decide +kernel
theorem dX5_tellShape_4 : decode cX5_tellShape 4 = .ok (.getfield 46, 3) := by decide +kernel
theorem dX5_tellShape_7 : decode cX5_tellShape 7 = .ok (.getfield 69, 3) := by decide +kernel
theorem dX5_tellShape_10 : decode cX5_tellShape 10 = .ok (.if_icmp .ge 43, 3) := by decide +kernel
theorem dX5_tellShape_13 : decode cX5_tellShape 13 = .ok (.aload_n 0, 1) := by decide +kernel
theorem dX5_tellShape_14 : decode cX5_tellShape 14 = .ok (.getfield 46, 3) := by decide +kernel
theorem dX5_tellShape_17 : decode cX5_tellShape 17 = .ok (.getfield 72, 3) := by decide +kernel
theorem dX5_tellShape_20 : decode cX5_tellShape 20 = .ok (.iload_n 3, 1) := by decide +kernel
theorem dX5_tellShape_21 : decode cX5_tellShape 21 = .ok (.iaload, 1) := by decide +kernel
theorem dX5_tellShape_22 : decode cX5_tellShape 22 = .ok (.iload_n 2, 1) := by decide +kernel
theorem dX5_tellShape_23 : decode cX5_tellShape 23 = .ok (.if_icmp .ne 24, 3) := by decide +kernel
theorem dX5_tellShape_26 : decode cX5_tellShape 26 = .ok (.aload_n 0, 1) := by decide +kernel
theorem dX5_tellShape_27 : decode cX5_tellShape 27 = .ok (.getfield 46, 3) := by decide +kernel
theorem dX5_tellShape_30 : decode cX5_tellShape 30 = .ok (.getfield 107, 3) := by decide +kernel
theorem dX5_tellShape_33 : decode cX5_tellShape 33 = .ok (.iload_n 3, 1) := by decide +kernel
theorem dX5_tellShape_34 : decode cX5_tellShape 34 = .ok (.iaload, 1) := by decide +kernel
theorem dX5_tellShape_35 : decode cX5_tellShape 35 = .ok (.bipush 16, 2) := by decide +kernel
theorem dX5_tellShape_37 : decode cX5_tellShape 37 = .ok (.if_icmp .eq 10, 3) := by decide +kernel
theorem dX5_tellShape_40 : decode cX5_tellShape 40 = .ok (.aload_n 0, 1) := by decide +kernel
theorem dX5_tellShape_41 : decode cX5_tellShape 41 = .ok (.iload_n 1, 1) := by decide +kernel
theorem dX5_tellShape_42 : decode cX5_tellShape 42 = .ok (.iload_n 2, 1) := by decide +kernel
theorem dX5_tellShape_43 : decode cX5_tellShape 43 = .ok (.iload_n 3, 1) := by decide +kernel
theorem dX5_tellShape_44 : decode cX5_tellShape 44 = .ok (.invokevirtual 174, 3) := by decide +kernel
theorem dX5_tellShape_47 : decode cX5_tellShape 47 = .ok (.iinc 3 1, 3) := by decide +kernel
theorem dX5_tellShape_50 : decode cX5_tellShape 50 = .ok (.goto (-48), 3) := by decide +kernel
theorem dX5_tellShape_53 : decode cX5_tellShape 53 = .ok (.return_, 1) := by decide +kernel
theorem dX5_tellConstraint_0 : decode cX5_tellConstraint 0 = .ok (.aload_n 0, 1) := by decide +kernel
theorem dX5_tellConstraint_1 : decode cX5_tellConstraint 1 = .ok (.getfield 9, 3) := by decide +kernel
theorem dX5_tellConstraint_4 : decode cX5_tellConstraint 4 = .ok (.iload_n 1, 1) := by decide +kernel
theorem dX5_tellConstraint_5 : decode cX5_tellConstraint 5 = .ok (.bipush 40, 2) := by decide +kernel
theorem dX5_tellConstraint_7 : decode cX5_tellConstraint 7 = .ok (.imul, 1) := by decide +kernel
theorem dX5_tellConstraint_8 : decode cX5_tellConstraint 8 = .ok (.iload_n 3, 1) := by decide +kernel
theorem dX5_tellConstraint_9 : decode cX5_tellConstraint 9 = .ok (.iadd, 1) := by decide +kernel
theorem dX5_tellConstraint_10 : decode cX5_tellConstraint 10 = .ok (.laload, 1) := by decide +kernel
theorem dX5_tellConstraint_11 : decode cX5_tellConstraint 11 = .ok (.lstore 4, 2) := by decide +kernel
theorem dX5_tellConstraint_13 : decode cX5_tellConstraint 13 = .ok (.lload 4, 2) := by decide +kernel
theorem dX5_tellConstraint_15 : decode cX5_tellConstraint 15 = .ok (.lconst 0, 1) := by decide +kernel
theorem dX5_tellConstraint_16 : decode cX5_tellConstraint 16 = .ok (.lcmp, 1) := by decide +kernel
theorem dX5_tellConstraint_17 : decode cX5_tellConstraint 17 = .ok (.ifCond .ne 4, 3) := by decide +kernel
theorem dX5_tellConstraint_20 : decode cX5_tellConstraint 20 = .ok (.return_, 1) := by decide +kernel
theorem dX5_tellConstraint_21 : decode cX5_tellConstraint 21 = .ok (.iconst (-1), 1) := by decide +kernel
theorem dX5_tellConstraint_22 : decode cX5_tellConstraint 22 = .ok (.istore 6, 2) := by decide +kernel
theorem dX5_tellConstraint_24 : decode cX5_tellConstraint 24 = .ok (.iload 6, 2) := by decide +kernel
theorem dX5_tellConstraint_26 : decode cX5_tellConstraint 26 = .ok (.bipush 32, 2) := by decide +kernel
theorem dX5_tellConstraint_28 : decode cX5_tellConstraint 28 = .ok (.if_icmp .ge 32, 3) := by decide +kernel
theorem dX5_tellConstraint_31 : decode cX5_tellConstraint 31 = .ok (.lload 4, 2) := by decide +kernel
theorem dX5_tellConstraint_33 : decode cX5_tellConstraint 33 = .ok (.iload 6, 2) := by decide +kernel
theorem dX5_tellConstraint_35 : decode cX5_tellConstraint 35 = .ok (.iconst 1, 1) := by decide +kernel
theorem dX5_tellConstraint_36 : decode cX5_tellConstraint 36 = .ok (.iadd, 1) := by decide +kernel
theorem dX5_tellConstraint_37 : decode cX5_tellConstraint 37 = .ok (.lushr, 1) := by decide +kernel
theorem dX5_tellConstraint_38 : decode cX5_tellConstraint 38 = .ok (.lconst 1, 1) := by decide +kernel
theorem dX5_tellConstraint_39 : decode cX5_tellConstraint 39 = .ok (.land, 1) := by decide +kernel
theorem dX5_tellConstraint_40 : decode cX5_tellConstraint 40 = .ok (.lconst 0, 1) := by decide +kernel
theorem dX5_tellConstraint_41 : decode cX5_tellConstraint 41 = .ok (.lcmp, 1) := by decide +kernel
theorem dX5_tellConstraint_42 : decode cX5_tellConstraint 42 = .ok (.ifCond .eq 12, 3) := by decide +kernel
theorem dX5_tellConstraint_45 : decode cX5_tellConstraint 45 = .ok (.aload_n 0, 1) := by decide +kernel
theorem dX5_tellConstraint_46 : decode cX5_tellConstraint 46 = .ok (.iload_n 1, 1) := by decide +kernel
theorem dX5_tellConstraint_47 : decode cX5_tellConstraint 47 = .ok (.iload_n 2, 1) := by decide +kernel
theorem dX5_tellConstraint_48 : decode cX5_tellConstraint 48 = .ok (.iload_n 3, 1) := by decide +kernel
theorem dX5_tellConstraint_49 : decode cX5_tellConstraint 49 = .ok (.iload 6, 2) := by decide +kernel
theorem dX5_tellConstraint_51 : decode cX5_tellConstraint 51 = .ok (.invokevirtual 178, 3) := by decide +kernel
theorem dX5_tellConstraint_54 : decode cX5_tellConstraint 54 = .ok (.iinc 6 1, 3) := by decide +kernel
theorem dX5_tellConstraint_57 : decode cX5_tellConstraint 57 = .ok (.goto (-33), 3) := by decide +kernel
theorem dX5_tellConstraint_60 : decode cX5_tellConstraint 60 = .ok (.return_, 1) := by decide +kernel
theorem dX5_tell_0 : decode cX5_tell 0 = .ok (.aload_n 0, 1) := by decide +kernel
theorem dX5_tell_1 : decode cX5_tell 1 = .ok (.getfield 170, 3) := by decide +kernel
theorem dX5_tell_4 : decode cX5_tell 4 = .ok (.sipush 250, 3) := by decide +kernel
theorem dX5_tell_7 : decode cX5_tell 7 = .ok (.if_icmp .ge 44, 3) := by decide +kernel
theorem dX5_tell_10 : decode cX5_tell 10 = .ok (.aload_n 0, 1) := by decide +kernel
theorem dX5_tell_11 : decode cX5_tell 11 = .ok (.getfield 22, 3) := by decide +kernel
theorem dX5_tell_14 : decode cX5_tell 14 = .ok (.aload_n 0, 1) := by decide +kernel
theorem dX5_tell_15 : decode cX5_tell 15 = .ok (.getfield 170, 3) := by decide +kernel
theorem dX5_tell_18 : decode cX5_tell 18 = .ok (.iload_n 1, 1) := by decide +kernel
theorem dX5_tell_19 : decode cX5_tell 19 = .ok (.iastore, 1) := by decide +kernel
theorem dX5_tell_20 : decode cX5_tell 20 = .ok (.aload_n 0, 1) := by decide +kernel
theorem dX5_tell_21 : decode cX5_tell 21 = .ok (.getfield 25, 3) := by decide +kernel
theorem dX5_tell_24 : decode cX5_tell 24 = .ok (.aload_n 0, 1) := by decide +kernel
theorem dX5_tell_25 : decode cX5_tell 25 = .ok (.getfield 170, 3) := by decide +kernel
theorem dX5_tell_28 : decode cX5_tell 28 = .ok (.iload_n 2, 1) := by decide +kernel
theorem dX5_tell_29 : decode cX5_tell 29 = .ok (.iastore, 1) := by decide +kernel
theorem dX5_tell_30 : decode cX5_tell 30 = .ok (.aload_n 0, 1) := by decide +kernel
theorem dX5_tell_31 : decode cX5_tell 31 = .ok (.getfield 28, 3) := by decide +kernel
theorem dX5_tell_34 : decode cX5_tell 34 = .ok (.aload_n 0, 1) := by decide +kernel
theorem dX5_tell_35 : decode cX5_tell 35 = .ok (.getfield 170, 3) := by decide +kernel
theorem dX5_tell_38 : decode cX5_tell 38 = .ok (.iload_n 3, 1) := by decide +kernel
theorem dX5_tell_39 : decode cX5_tell 39 = .ok (.iastore, 1) := by decide +kernel
theorem dX5_tell_40 : decode cX5_tell 40 = .ok (.aload_n 0, 1) := by decide +kernel
theorem dX5_tell_41 : decode cX5_tell 41 = .ok (.getfield 31, 3) := by decide +kernel
theorem dX5_tell_44 : decode cX5_tell 44 = .ok (.aload_n 0, 1) := by decide +kernel
theorem dX5_tell_45 : decode cX5_tell 45 = .ok (.getfield 170, 3) := by decide +kernel
theorem dX5_tell_48 : decode cX5_tell 48 = .ok (.iload 4, 2) := by decide +kernel
theorem dX5_tell_50 : decode cX5_tell 50 = .ok (.iastore, 1) := by decide +kernel
theorem dX5_tell_51 : decode cX5_tell 51 = .ok (.aload_n 0, 1) := by decide +kernel
theorem dX5_tell_52 : decode cX5_tell 52 = .ok (.dup, 1) := by decide +kernel
theorem dX5_tell_53 : decode cX5_tell 53 = .ok (.getfield 170, 3) := by decide +kernel
theorem dX5_tell_56 : decode cX5_tell 56 = .ok (.iconst 1, 1) := by decide +kernel
theorem dX5_tell_57 : decode cX5_tell 57 = .ok (.iadd, 1) := by decide +kernel
theorem dX5_tell_58 : decode cX5_tell 58 = .ok (.putfield 170, 3) := by decide +kernel
theorem dX5_tell_61 : decode cX5_tell 61 = .ok (.return_, 1) := by decide +kernel
