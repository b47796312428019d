theorem dX6_init_0 : decode cX6_init 0 = .ok (.aload_n 0, 1) := by decide +kernel
theorem dX6_init_1 : decode cX6_init 1 = .ok (.invokespecial 1, 3) := by decide +kernel
theorem dX6_init_4 : decode cX6_init 4 = .ok (.aload_n 0, 1) := by decide +kernel
theorem dX6_init_5 : decode cX6_init 5 = .ok (.sipush 5120, 3) := by decide +kernel
theorem dX6_init_8 : decode cX6_init 8 = .ok (.newarray .boolean, 2) := by decide +kernel
theorem dX6_init_10 : decode cX6_init 10 = .ok (.putfield 7, 3) := by decide +kernel
theorem dX6_init_13 : decode cX6_init 13 = .ok (.aload_n 0, 1) := by decide +kernel
theorem dX6_init_14 : decode cX6_init 14 = .ok (.bipush 12, 2) := by decide +kernel
theorem dX6_init_16 : decode cX6_init 16 = .ok (.newarray .int, 2) := by decide +kernel
theorem dX6_init_18 : decode cX6_init 18 = .ok (.putfield 13, 3) := by decide +kernel
theorem dX6_init_21 : decode cX6_init 21 = .ok (.aload_n 0, 1) := by decide +kernel
theorem dX6_init_22 : decode cX6_init 22 = .ok (.bipush 12, 2) := by decide +kernel
theorem dX6_init_24 : decode cX6_init 24 = .ok (.newarray .int, 2) := by decide +kernel
theorem dX6_init_26 : decode cX6_init 26 = .ok (.putfield 17, 3) := by decide +kernel
theorem dX6_init_29 : decode cX6_init 29 = .ok (.aload_n 0, 1) := by decide +kernel
theorem dX6_init_30 : decode cX6_init 30 = .ok (.bipush 24, 2) := by decide +kernel
theorem dX6_init_32 : decode cX6_init 32 = .ok (.newarray .int, 2) := by decide +kernel
theorem dX6_init_34 : decode cX6_init 34 = .ok (.putfield 20, 3) := by decide +kernel
theorem dX6_init_37 : decode cX6_init 37 = .ok (.aload_n 0, 1) := by decide +kernel
theorem dX6_init_38 : decode cX6_init 38 = .ok (.bipush 24, 2) := by decide +kernel
theorem dX6_init_40 : decode cX6_init 40 = .ok (.newarray .int, 2) := by decide +kernel
theorem dX6_init_42 : decode cX6_init 42 = .ok (.putfield 23, 3) := by decide +kernel
theorem dX6_init_45 : decode cX6_init 45 = .ok (.aload_n 0, 1) := by decide +kernel
theorem dX6_init_46 : decode cX6_init 46 = .ok (.bipush 24, 2) := by decide +kernel
theorem dX6_init_48 : decode cX6_init 48 = .ok (.newarray .int, 2) := by decide +kernel
theorem dX6_init_50 : decode cX6_init 50 = .ok (.putfield 26, 3) := by decide +kernel
theorem dX6_init_53 : decode cX6_init 53 = .ok (.aload_n 0, 1) := by decide +kernel
theorem dX6_init_54 : decode cX6_init 54 = .ok (.bipush 40, 2) := by decide +kernel
theorem dX6_init_56 : decode cX6_init 56 = .ok (.newarray .int, 2) := by decide +kernel
theorem dX6_init_58 : decode cX6_init 58 = .ok (.putfield 29, 3) := by decide +kernel
theorem dX6_init_61 : decode cX6_init 61 = .ok (.aload_n 0, 1) := by decide +kernel
theorem dX6_init_62 : decode cX6_init 62 = .ok (.bipush 40, 2) := by decide +kernel
theorem dX6_init_64 : decode cX6_init 64 = .ok (.newarray .int, 2) := by decide +kernel
theorem dX6_init_66 : decode cX6_init 66 = .ok (.putfield 32, 3) := by decide +kernel
theorem dX6_init_69 : decode cX6_init 69 = .ok (.aload_n 0, 1) := by decide +kernel
theorem dX6_init_70 : decode cX6_init 70 = .ok (.bipush 40, 2) := by decide +kernel
theorem dX6_init_72 : decode cX6_init 72 = .ok (.newarray .int, 2) := by decide +kernel
theorem dX6_init_74 : decode cX6_init 74 = .ok (.putfield 35, 3) := by decide +kernel
theorem dX6_init_77 : decode cX6_init 77 = .ok (.aload_n 0, 1) := by decide +kernel
theorem dX6_init_78 : decode cX6_init 78 = .ok (.bipush 40, 2) := by decide +kernel
theorem dX6_init_80 : decode cX6_init 80 = .ok (.newarray .int, 2) := by decide +kernel
theorem dX6_init_82 : decode cX6_init 82 = .ok (.putfield 38, 3) := by decide +kernel
theorem dX6_init_85 : decode cX6_init 85 = .ok (.aload_n 0, 1) := by decide +kernel
theorem dX6_init_86 : decode cX6_init 86 = .ok (.sipush 384, 3) := by decide +kernel
theorem dX6_init_89 : decode cX6_init 89 = .ok (.newarray .boolean, 2) := by decide +kernel
theorem dX6_init_91 : decode cX6_init 91 = .ok (.putfield 41, 3) := by decide +kernel
theorem dX6_init_94 : decode cX6_init 94 = .ok (.aload_n 0, 1) := by decide +kernel
theorem dX6_init_95 : decode cX6_init 95 = .ok (.sipush 384, 3) := by decide +kernel
theorem dX6_init_98 : decode cX6_init 98 = .ok (.newarray .boolean, 2) := by decide +kernel
theorem dX6_init_100 : decode cX6_init 100 = .ok (.putfield 44, 3) := by decide +kernel
theorem dX6_init_103 : decode cX6_init 103 = .ok (.aload_n 0, 1) := by decide +kernel
theorem dX6_init_104 : decode cX6_init 104 = .ok (.bipush 12, 2) := by decide +kernel
theorem dX6_init_106 : decode cX6_init 106 = .ok (.newarray .boolean, 2) := by decide +kernel
theorem dX6_init_108 : decode cX6_init 108 = .ok (.putfield 47, 3) := by decide +kernel
theorem dX6_init_111 : decode cX6_init 111 = .ok (.aload_n 0, 1) := by decide +kernel
theorem dX6_init_112 : decode cX6_init 112 = .ok (.bipush 32, 2) := by decide +kernel
theorem dX6_init_114 : decode cX6_init 114 = .ok (.newarray .boolean, 2) := by decide +kernel
theorem dX6_init_116 : decode cX6_init 116 = .ok (.putfield 50, 3) := by decide +kernel
theorem dX6_init_119 : decode cX6_init 119 = .ok (.aload_n 0, 1) := by decide +kernel
theorem dX6_init_120 : decode cX6_init 120 = .ok (.bipush 32, 2) := by decide +kernel
theorem dX6_init_122 : decode cX6_init 122 = .ok (.newarray .boolean, 2) := by decide +kernel
theorem dX6_init_124 : decode cX6_init 124 = .ok (.putfield 53, 3) := by decide +kernel
theorem dX6_init_127 : decode cX6_init 127 = .ok (.aload_n 0, 1) := by decide +kernel
theorem dX6_init_128 : decode cX6_init 128 = .ok (.bipush 33, 2) := by decide +kernel
theorem dX6_init_130 : decode cX6_init 130 = .ok (.newarray .boolean, 2) := by decide +kernel
theorem dX6_init_132 : decode cX6_init 132 = .ok (.putfield 56, 3) := by decide +kernel
theorem dX6_init_135 : decode cX6_init 135 = .ok (.aload_n 0, 1) := by decide +kernel
theorem dX6_init_136 : decode cX6_init 136 = .ok (.sipush 1004, 3) := by decide +kernel
theorem dX6_init_139 : decode cX6_init 139 = .ok (.newarray .int, 2) := by decide +kernel
theorem dX6_init_141 : decode cX6_init 141 = .ok (.putfield 59, 3) := by decide +kernel
theorem dX6_init_144 : decode cX6_init 144 = .ok (.aload_n 0, 1) := by decide +kernel
theorem dX6_init_145 : decode cX6_init 145 = .ok (.iconst 0, 1) := by decide +kernel
theorem dX6_init_146 : decode cX6_init 146 = .ok (.putfield 62, 3) := by decide +kernel
theorem dX6_init_149 : decode cX6_init 149 = .ok (.return_, 1) := by decide +kernel
theorem dX6_in_0 : decode cX6_in 0 = .ok (.iload_n 0, 1) := by decide +kernel
theorem dX6_in_1 : decode cX6_in 1 = .ok (.iload_n 1, 1) := by decide +kernel
theorem dX6_in_2 : decode cX6_in 2 = .ok (.if_icmp .lt 12, 3) := by decide +kernel
theorem dX6_in_5 : decode cX6_in 5 = .ok (.iload_n 0, 1) := by decide +kernel
theorem dX6_in_6 : decode cX6_in 6 = .ok (.iload_n 2, 1) := by decide +kernel
theorem dX6_in_7 : decode cX6_in 7 = .ok (.if_icmp .gt 7, 3) := by decide +kernel
theorem dX6_in_10 : decode cX6_in 10 = .ok (.iconst 1, 1) := by decide +kernel
theorem dX6_in_11 : decode cX6_in 11 = .ok (.goto 4, 3) := by decide +kernel
theorem dX6_in_14 : decode cX6_in 14 = .ok (.iconst 0, 1) := by decide +kernel
theorem dX6_in_15 : decode cX6_in 15 = .ok (.ireturn, 1) := by decide +kernel
theorem dX6_isTriple_0 : decode cX6_isTriple 0 = .ok (.iload_n 0, 1) := by decide +kernel
theorem dX6_isTriple_1 : decode cX6_isTriple 1 = .ok (.iconst 0, 1) := by decide +kernel
theorem dX6_isTriple_2 : decode cX6_isTriple 2 = .ok (.bipush 19, 2) := by decide +kernel
theorem dX6_isTriple_4 : decode cX6_isTriple 4 = .ok (.invokestatic 66, 3) := by decide +kernel
theorem dX6_isTriple_7 : decode cX6_isTriple 7 = .ok (.ifCond .eq 27, 3) := by decide +kernel
theorem dX6_isTriple_10 : decode cX6_isTriple 10 = .ok (.iload_n 1, 1) := by decide +kernel
theorem dX6_isTriple_11 : decode cX6_isTriple 11 = .ok (.iconst 0, 1) := by decide +kernel
theorem dX6_isTriple_12 : decode cX6_isTriple 12 = .ok (.bipush 7, 2) := by decide +kernel
theorem dX6_isTriple_14 : decode cX6_isTriple 14 = .ok (.invokestatic 66, 3) := by decide +kernel
theorem dX6_isTriple_17 : decode cX6_isTriple 17 = .ok (.ifCond .eq 17, 3) := by decide +kernel
theorem dX6_isTriple_20 : decode cX6_isTriple 20 = .ok (.iload_n 2, 1) := by decide +kernel
theorem dX6_isTriple_21 : decode cX6_isTriple 21 = .ok (.iconst 0, 1) := by decide +kernel
theorem dX6_isTriple_22 : decode cX6_isTriple 22 = .ok (.bipush 31, 2) := by decide +kernel
theorem dX6_isTriple_24 : decode cX6_isTriple 24 = .ok (.invokestatic 66, 3) := by decide +kernel
theorem dX6_isTriple_27 : decode cX6_isTriple 27 = .ok (.ifCond .eq 7, 3) := by decide +kernel
theorem dX6_isTriple_30 : decode cX6_isTriple 30 = .ok (.iconst 1, 1) := by decide +kernel
theorem dX6_isTriple_31 : decode cX6_isTriple 31 = .ok (.goto 4, 3) := by decide +kernel
theorem dX6_isTriple_34 : decode cX6_isTriple 34 = .ok (.iconst 0, 1) := by decide +kernel
theorem dX6_isTriple_35 : decode cX6_isTriple 35 = .ok (.ireturn, 1) := by decide +kernel
theorem dX6_leads_0 : decode cX6_leads 0 = .ok (.iload_n 1, 1) := by decide +kernel
theorem dX6_leads_1 : decode cX6_leads 1 = .ok (.bipush 20, 2) := by decide +kernel
theorem dX6_leads_3 : decode cX6_leads 3 = .ok (.if_icmp .ge 27, 3) := by decide +kernel
theorem dX6_leads_6 : decode cX6_leads 6 = .ok (.aload_n 0, 1) := by decide +kernel
theorem dX6_leads_7 : decode cX6_leads 7 = .ok (.getfield 7, 3) := by decide +kernel
theorem dX6_leads_10 : decode cX6_leads 10 = .ok (.sipush 256, 3) := by decide +kernel
theorem dX6_leads_13 : decode cX6_leads 13 = .ok (.iload_n 1, 1) := by decide +kernel
theorem dX6_leads_14 : decode cX6_leads 14 = .ok (.imul, 1) := by decide +kernel
theorem dX6_leads_15 : decode cX6_leads 15 = .ok (.bipush 32, 2) := by decide +kernel
theorem dX6_leads_17 : decode cX6_leads 17 = .ok (.iload_n 2, 1) := by decide +kernel
theorem dX6_leads_18 : decode cX6_leads 18 = .ok (.imul, 1) := by decide +kernel
theorem dX6_leads_19 : decode cX6_leads 19 = .ok (.iadd, 1) := by decide +kernel
theorem dX6_leads_20 : decode cX6_leads 20 = .ok (.iload_n 3, 1) := by decide +kernel
theorem dX6_leads_21 : decode cX6_leads 21 = .ok (.iadd, 1) := by decide +kernel
theorem dX6_leads_22 : decode cX6_leads 22 = .ok (.baload, 1) := by decide +kernel
theorem dX6_leads_23 : decode cX6_leads 23 = .ok (.ifCond .eq 7, 3) := by decide +kernel
theorem dX6_leads_26 : decode cX6_leads 26 = .ok (.iconst 1, 1) := by decide +kernel
theorem dX6_leads_27 : decode cX6_leads 27 = .ok (.goto 4, 3) := by decide +kernel
theorem dX6_leads_30 : decode cX6_leads 30 = .ok (.iconst 0, 1) := by decide +kernel
theorem dX6_leads_31 : decode cX6_leads 31 = .ok (.ireturn, 1) := by decide +kernel
theorem dX6_isShape_0 : decode cX6_isShape 0 = .ok (.iload_n 1, 1) := by decide +kernel
theorem dX6_isShape_1 : decode cX6_isShape 1 = .ok (.iconst 0, 1) := by decide +kernel
theorem dX6_isShape_2 : decode cX6_isShape 2 = .ok (.aload_n 0, 1) := by decide +kernel
theorem dX6_isShape_3 : decode cX6_isShape 3 = .ok (.getfield 70, 3) := by decide +kernel
theorem dX6_isShape_6 : decode cX6_isShape 6 = .ok (.iconst 1, 1) := by decide +kernel
theorem dX6_isShape_7 : decode cX6_isShape 7 = .ok (.isub, 1) := by decide +kernel
theorem dX6_isShape_8 : decode cX6_isShape 8 = .ok (.invokestatic 66, 3) := by decide +kernel
theorem dX6_isShape_11 : decode cX6_isShape 11 = .ok (.ireturn, 1) := by decide +kernel
theorem dX6_isLiteral_0 : decode cX6_isLiteral 0 = .ok (.iload_n 0, 1) := by decide +kernel
theorem dX6_isLiteral_1 : decode cX6_isLiteral 1 = .ok (.bipush 20, 2) := by decide +kernel
theorem dX6_isLiteral_3 : decode cX6_isLiteral 3 = .ok (.if_icmp .lt 7, 3) := by decide +kernel
theorem dX6_isLiteral_6 : decode cX6_isLiteral 6 = .ok (.iconst 1, 1) := by decide +kernel
theorem dX6_isLiteral_7 : decode cX6_isLiteral 7 = .ok (.goto 4, 3) := by decide +kernel
theorem dX6_isLiteral_10 : decode cX6_isLiteral 10 = .ok (.iconst 0, 1) := by decide +kernel
theorem dX6_isLiteral_11 : decode cX6_isLiteral 11 = .ok (.ireturn, 1) := by decide +kernel
theorem dX6_numberOf_0 : decode cX6_numberOf 0 = .ok (.iload_n 0, 1) := by decide +kernel
theorem dX6_numberOf_1 : decode cX6_numberOf 1 = .ok (.bipush 20, 2) := by decide +kernel
theorem dX6_numberOf_3 : decode cX6_numberOf 3 = .ok (.isub, 1) := by decide +kernel
theorem dX6_numberOf_4 : decode cX6_numberOf 4 = .ok (.iconst 2, 1) := by decide +kernel
theorem dX6_numberOf_5 : decode cX6_numberOf 5 = .ok (.idiv, 1) := by decide +kernel
theorem dX6_numberOf_6 : decode cX6_numberOf 6 = .ok (.ireturn, 1) := by decide +kernel
theorem dX6_tagOf_0 : decode cX6_tagOf 0 = .ok (.iload_n 0, 1) := by decide +kernel
theorem dX6_tagOf_1 : decode cX6_tagOf 1 = .ok (.iconst 2, 1) := by decide +kernel
theorem dX6_tagOf_2 : decode cX6_tagOf 2 = .ok (.irem, 1) := by decide +kernel
theorem dX6_tagOf_3 : decode cX6_tagOf 3 = .ok (.ireturn, 1) := by decide +kernel
theorem dX6_triple_0 : decode cX6_triple 0 = .ok (.iload_n 1, 1) := by decide +kernel
theorem dX6_triple_1 : decode cX6_triple 1 = .ok (.iload_n 2, 1) := by decide +kernel
theorem dX6_triple_2 : decode cX6_triple 2 = .ok (.iload_n 3, 1) := by decide +kernel
theorem dX6_triple_3 : decode cX6_triple 3 = .ok (.invokestatic 74, 3) := by decide +kernel
theorem dX6_triple_6 : decode cX6_triple 6 = .ok (.ifCond .ne 5, 3) := by decide +kernel
theorem dX6_triple_9 : decode cX6_triple 9 = .ok (.iconst (-1), 1) := by decide +kernel
theorem dX6_triple_10 : decode cX6_triple 10 = .ok (.ireturn, 1) := by decide +kernel
theorem dX6_triple_11 : decode cX6_triple 11 = .ok (.aload_n 0, 1) := by decide +kernel
theorem dX6_triple_12 : decode cX6_triple 12 = .ok (.iload_n 1, 1) := by decide +kernel
theorem dX6_triple_13 : decode cX6_triple 13 = .ok (.iload_n 2, 1) := by decide +kernel
theorem dX6_triple_14 : decode cX6_triple 14 = .ok (.iload_n 3, 1) := by decide +kernel
theorem dX6_triple_15 : decode cX6_triple 15 = .ok (.invokevirtual 77, 3) := by decide +kernel
theorem dX6_triple_18 : decode cX6_triple 18 = .ok (.ifCond .eq 5, 3) := by decide +kernel
theorem dX6_triple_21 : decode cX6_triple 21 = .ok (.iconst 0, 1) := by decide +kernel
theorem dX6_triple_22 : decode cX6_triple 22 = .ok (.ireturn, 1) := by decide +kernel
theorem dX6_triple_23 : decode cX6_triple 23 = .ok (.aload_n 0, 1) := by decide +kernel
theorem dX6_triple_24 : decode cX6_triple 24 = .ok (.getfield 80, 3) := by decide +kernel
theorem dX6_triple_27 : decode cX6_triple 27 = .ok (.bipush 100, 2) := by decide +kernel
theorem dX6_triple_29 : decode cX6_triple 29 = .ok (.if_icmp .ne 6, 3) := by decide +kernel
theorem dX6_triple_32 : decode cX6_triple 32 = .ok (.bipush (-3), 2) := by decide +kernel
theorem dX6_triple_34 : decode cX6_triple 34 = .ok (.ireturn, 1) := by decide +kernel
theorem dX6_triple_35 : decode cX6_triple 35 = .ok (.aload_n 0, 1) := by decide +kernel
theorem dX6_triple_36 : decode cX6_triple 36 = .ok (.getfield 7, 3) := by decide +kernel
theorem dX6_triple_39 : decode cX6_triple 39 = .ok (.sipush 256, 3) := by decide +kernel
theorem dX6_triple_42 : decode cX6_triple 42 = .ok (.iload_n 1, 1) := by decide +kernel
theorem dX6_triple_43 : decode cX6_triple 43 = .ok (.imul, 1) := by decide +kernel
theorem dX6_triple_44 : decode cX6_triple 44 = .ok (.bipush 32, 2) := by decide +kernel
theorem dX6_triple_46 : decode cX6_triple 46 = .ok (.iload_n 2, 1) := by decide +kernel
theorem dX6_triple_47 : decode cX6_triple 47 = .ok (.imul, 1) := by decide +kernel
theorem dX6_triple_48 : decode cX6_triple 48 = .ok (.iadd, 1) := by decide +kernel
theorem dX6_triple_49 : decode cX6_triple 49 = .ok (.iload_n 3, 1) := by decide +kernel
theorem dX6_triple_50 : decode cX6_triple 50 = .ok (.iadd, 1) := by decide +kernel
theorem dX6_triple_51 : decode cX6_triple 51 = .ok (.iconst 1, 1) := by decide +kernel
theorem dX6_triple_52 : decode cX6_triple 52 = .ok (.bastore, 1) := by decide +kernel
theorem dX6_triple_53 : decode cX6_triple 53 = .ok (.aload_n 0, 1) := by decide +kernel
theorem dX6_triple_54 : decode cX6_triple 54 = .ok (.dup, 1) := by decide +kernel
theorem dX6_triple_55 : decode cX6_triple 55 = .ok (.getfield 80, 3) := by decide +kernel
theorem dX6_triple_58 : decode cX6_triple 58 = .ok (.iconst 1, 1) := by decide +kernel
theorem dX6_triple_59 : decode cX6_triple 59 = .ok (.iadd, 1) := by decide +kernel
theorem dX6_triple_60 : decode cX6_triple 60 = .ok (.putfield 80, 3) := by decide +kernel
theorem dX6_triple_63 : decode cX6_triple 63 = .ok (.aload_n 0, 1) := by decide +kernel
theorem dX6_triple_64 : decode cX6_triple 64 = .ok (.iconst 0, 1) := by decide +kernel
theorem dX6_triple_65 : decode cX6_triple 65 = .ok (.putfield 62, 3) := by decide +kernel
theorem dX6_triple_68 : decode cX6_triple 68 = .ok (.iconst 1, 1) := by decide +kernel
theorem dX6_triple_69 : decode cX6_triple 69 = .ok (.ireturn, 1) := by decide +kernel
theorem dX6_drop_0 : decode cX6_drop 0 = .ok (.iload_n 1, 1) := by decide +kernel
theorem dX6_drop_1 : decode cX6_drop 1 = .ok (.iload_n 2, 1) := by decide +kernel
theorem dX6_drop_2 : decode cX6_drop 2 = .ok (.iload_n 3, 1) := by decide +kernel
theorem dX6_drop_3 : decode cX6_drop 3 = .ok (.invokestatic 74, 3) := by decide +kernel
theorem dX6_drop_6 : decode cX6_drop 6 = .ok (.ifCond .ne 5, 3) := by decide +kernel
theorem dX6_drop_9 : decode cX6_drop 9 = .ok (.iconst (-1), 1) := by decide +kernel
theorem dX6_drop_10 : decode cX6_drop 10 = .ok (.ireturn, 1) := by decide +kernel
theorem dX6_drop_11 : decode cX6_drop 11 = .ok (.aload_n 0, 1) := by decide +kernel
theorem dX6_drop_12 : decode cX6_drop 12 = .ok (.iload_n 1, 1) := by decide +kernel
theorem dX6_drop_13 : decode cX6_drop 13 = .ok (.iload_n 2, 1) := by decide +kernel
theorem dX6_drop_14 : decode cX6_drop 14 = .ok (.iload_n 3, 1) := by decide +kernel
theorem dX6_drop_15 : decode cX6_drop 15 = .ok (.invokevirtual 77, 3) := by decide +kernel
theorem dX6_drop_18 : decode cX6_drop 18 = .ok (.ifCond .ne 5, 3) := by decide +kernel
theorem dX6_drop_21 : decode cX6_drop 21 = .ok (.iconst 0, 1) := by decide +kernel
theorem dX6_drop_22 : decode cX6_drop 22 = .ok (.ireturn, 1) := by decide +kernel
theorem dX6_drop_23 : decode cX6_drop 23 = .ok (.aload_n 0, 1) := by decide +kernel
theorem dX6_drop_24 : decode cX6_drop 24 = .ok (.getfield 7, 3) := by decide +kernel
theorem dX6_drop_27 : decode cX6_drop 27 = .ok (.sipush 256, 3) := by decide +kernel
theorem dX6_drop_30 : decode cX6_drop 30 = .ok (.iload_n 1, 1) := by decide +kernel
theorem dX6_drop_31 : decode cX6_drop 31 = .ok (.imul, 1) := by decide +kernel
theorem dX6_drop_32 : decode cX6_drop 32 = .ok (.bipush 32, 2) := by decide +kernel
theorem dX6_drop_34 : decode cX6_drop 34 = .ok (.iload_n 2, 1) := by decide +kernel
theorem dX6_drop_35 : decode cX6_drop 35 = .ok (.imul, 1) := by decide +kernel
theorem dX6_drop_36 : decode cX6_drop 36 = .ok (.iadd, 1) := by decide +kernel
theorem dX6_drop_37 : decode cX6_drop 37 = .ok (.iload_n 3, 1) := by decide +kernel
theorem dX6_drop_38 : decode cX6_drop 38 = .ok (.iadd, 1) := by decide +kernel
theorem dX6_drop_39 : decode cX6_drop 39 = .ok (.iconst 0, 1) := by decide +kernel
theorem dX6_drop_40 : decode cX6_drop 40 = .ok (.bastore, 1) := by decide +kernel
theorem dX6_drop_41 : decode cX6_drop 41 = .ok (.aload_n 0, 1) := by decide +kernel
theorem dX6_drop_42 : decode cX6_drop 42 = .ok (.dup, 1) := by decide +kernel
theorem dX6_drop_43 : decode cX6_drop 43 = .ok (.getfield 80, 3) := by decide +kernel
theorem dX6_drop_46 : decode cX6_drop 46 = .ok (.iconst 1, 1) := by decide +kernel
theorem dX6_drop_47 : decode cX6_drop 47 = .ok (.isub, 1) := by decide +kernel
theorem dX6_drop_48 : decode cX6_drop 48 = .ok (.putfield 80, 3) := by decide +kernel
theorem dX6_drop_51 : decode cX6_drop 51 = .ok (.aload_n 0, 1) := by decide +kernel
theorem dX6_drop_52 : decode cX6_drop 52 = .ok (.iconst 0, 1) := by decide +kernel
theorem dX6_drop_53 : decode cX6_drop 53 = .ok (.putfield 62, 3) := by decide +kernel
theorem dX6_drop_56 : decode cX6_drop 56 = .ok (.iconst 1, 1) := by decide +kernel
theorem dX6_drop_57 : decode cX6_drop 57 = .ok (.ireturn, 1) := by decide +kernel
theorem dX6_shape_0 : decode cX6_shape 0 = .ok (.iload_n 1, 1) := by decide +kernel
theorem dX6_shape_1 : decode cX6_shape 1 = .ok (.iconst (-1), 1) := by decide +kernel
theorem dX6_shape_2 : decode cX6_shape 2 = .ok (.bipush 15, 2) := by decide +kernel
theorem dX6_shape_4 : decode cX6_shape 4 = .ok (.invokestatic 66, 3) := by decide +kernel
theorem dX6_shape_7 : decode cX6_shape 7 = .ok (.ifCond .ne 5, 3) := by decide +kernel
theorem dX6_shape_10 : decode cX6_shape 10 = .ok (.iconst (-1), 1) := by decide +kernel
theorem dX6_shape_11 : decode cX6_shape 11 = .ok (.ireturn, 1) := by decide +kernel
theorem dX6_shape_12 : decode cX6_shape 12 = .ok (.aload_n 0, 1) := by decide +kernel
theorem dX6_shape_13 : decode cX6_shape 13 = .ok (.getfield 70, 3) := by decide +kernel
theorem dX6_shape_16 : decode cX6_shape 16 = .ok (.bipush 12, 2) := by decide +kernel
theorem dX6_shape_18 : decode cX6_shape 18 = .ok (.if_icmp .ne 6, 3) := by decide +kernel
theorem dX6_shape_21 : decode cX6_shape 21 = .ok (.bipush (-3), 2) := by decide +kernel
theorem dX6_shape_23 : decode cX6_shape 23 = .ok (.ireturn, 1) := by decide +kernel
theorem dX6_shape_24 : decode cX6_shape 24 = .ok (.aload_n 0, 1) := by decide +kernel
theorem dX6_shape_25 : decode cX6_shape 25 = .ok (.getfield 13, 3) := by decide +kernel
theorem dX6_shape_28 : decode cX6_shape 28 = .ok (.aload_n 0, 1) := by decide +kernel
theorem dX6_shape_29 : decode cX6_shape 29 = .ok (.getfield 70, 3) := by decide +kernel
theorem dX6_shape_32 : decode cX6_shape 32 = .ok (.iload_n 1, 1) := by decide +kernel
theorem dX6_shape_33 : decode cX6_shape 33 = .ok (.iastore, 1) := by decide +kernel
theorem dX6_shape_34 : decode cX6_shape 34 = .ok (.aload_n 0, 1) := by decide +kernel
theorem dX6_shape_35 : decode cX6_shape 35 = .ok (.getfield 17, 3) := by decide +kernel
theorem dX6_shape_38 : decode cX6_shape 38 = .ok (.aload_n 0, 1) := by decide +kernel
theorem dX6_shape_39 : decode cX6_shape 39 = .ok (.getfield 70, 3) := by decide +kernel
theorem dX6_shape_42 : decode cX6_shape 42 = .ok (.iconst 2, 1) := by decide +kernel
theorem dX6_shape_43 : decode cX6_shape 43 = .ok (.iastore, 1) := by decide +kernel
theorem dX6_shape_44 : decode cX6_shape 44 = .ok (.aload_n 0, 1) := by decide +kernel
theorem dX6_shape_45 : decode cX6_shape 45 = .ok (.dup, 1) := by decide +kernel
theorem dX6_shape_46 : decode cX6_shape 46 = .ok (.getfield 70, 3) := by decide +kernel
theorem dX6_shape_49 : decode cX6_shape 49 = .ok (.iconst 1, 1) := by decide +kernel
theorem dX6_shape_50 : decode cX6_shape 50 = .ok (.iadd, 1) := by decide +kernel
theorem dX6_shape_51 : decode cX6_shape 51 = .ok (.putfield 70, 3) := by decide +kernel
theorem dX6_shape_54 : decode cX6_shape 54 = .ok (.aload_n 0, 1) := by decide +kernel
theorem dX6_shape_55 : decode cX6_shape 55 = .ok (.iconst 0, 1) := by decide +kernel
theorem dX6_shape_56 : decode cX6_shape 56 = .ok (.putfield 62, 3) := by decide +kernel
theorem dX6_shape_59 : decode cX6_shape 59 = .ok (.aload_n 0, 1) := by decide +kernel
theorem dX6_shape_60 : decode cX6_shape 60 = .ok (.getfield 70, 3) := by decide +kernel
theorem dX6_shape_63 : decode cX6_shape 63 = .ok (.iconst 1, 1) := by decide +kernel
theorem dX6_shape_64 : decode cX6_shape 64 = .ok (.isub, 1) := by decide +kernel
theorem dX6_shape_65 : decode cX6_shape 65 = .ok (.ireturn, 1) := by decide +kernel
theorem dX6_severity_0 : decode cX6_severity 0 = .ok (.aload_n 0, 1) := by decide +kernel
theorem dX6_severity_1 : decode cX6_severity 1 = .ok (.iload_n 1, 1) := by decide +kernel
theorem dX6_severity_2 : decode cX6_severity 2 = .ok (.invokevirtual 83, 3) := by decide +kernel
theorem dX6_severity_5 : decode cX6_severity 5 = .ok (.ifCond .eq 12, 3) := by decide +kernel
theorem dX6_severity_8 : decode cX6_severity 8 = .ok (.iload_n 2, 1) := by decide +kernel
theorem dX6_severity_9 : decode cX6_severity 9 = .ok (.iconst 0, 1) := by decide +kernel
theorem dX6_severity_10 : decode cX6_severity 10 = .ok (.iconst 2, 1) := by decide +kernel
theorem dX6_severity_11 : decode cX6_severity 11 = .ok (.invokestatic 66, 3) := by decide +kernel
theorem dX6_severity_14 : decode cX6_severity 14 = .ok (.ifCond .ne 5, 3) := by decide +kernel
theorem dX6_severity_17 : decode cX6_severity 17 = .ok (.iconst (-1), 1) := by decide +kernel
theorem dX6_severity_18 : decode cX6_severity 18 = .ok (.ireturn, 1) := by decide +kernel
theorem dX6_severity_19 : decode cX6_severity 19 = .ok (.aload_n 0, 1) := by decide +kernel
theorem dX6_severity_20 : decode cX6_severity 20 = .ok (.getfield 17, 3) := by decide +kernel
theorem dX6_severity_23 : decode cX6_severity 23 = .ok (.iload_n 1, 1) := by decide +kernel
theorem dX6_severity_24 : decode cX6_severity 24 = .ok (.iaload, 1) := by decide +kernel
theorem dX6_severity_25 : decode cX6_severity 25 = .ok (.istore_n 3, 1) := by decide +kernel
theorem dX6_severity_26 : decode cX6_severity 26 = .ok (.aload_n 0, 1) := by decide +kernel
theorem dX6_severity_27 : decode cX6_severity 27 = .ok (.getfield 17, 3) := by decide +kernel
theorem dX6_severity_30 : decode cX6_severity 30 = .ok (.iload_n 1, 1) := by decide +kernel
theorem dX6_severity_31 : decode cX6_severity 31 = .ok (.iload_n 2, 1) := by decide +kernel
theorem dX6_severity_32 : decode cX6_severity 32 = .ok (.iastore, 1) := by decide +kernel
theorem dX6_severity_33 : decode cX6_severity 33 = .ok (.iload_n 3, 1) := by decide +kernel
theorem dX6_severity_34 : decode cX6_severity 34 = .ok (.iload_n 2, 1) := by decide +kernel
theorem dX6_severity_35 : decode cX6_severity 35 = .ok (.if_icmp .ne 7, 3) := by decide +kernel
theorem dX6_severity_38 : decode cX6_severity 38 = .ok (.iconst 0, 1) := by decide +kernel
theorem dX6_severity_39 : decode cX6_severity 39 = .ok (.goto 4, 3) := by decide +kernel
theorem dX6_severity_42 : decode cX6_severity 42 = .ok (.iconst 1, 1) := by decide +kernel
theorem dX6_severity_43 : decode cX6_severity 43 = .ok (.ireturn, 1) := by decide +kernel
theorem dX6_target_0 : decode cX6_target 0 = .ok (.aload_n 0, 1) := by decide +kernel
theorem dX6_target_1 : decode cX6_target 1 = .ok (.iload_n 1, 1) := by decide +kernel
theorem dX6_target_2 : decode cX6_target 2 = .ok (.invokevirtual 83, 3) := by decide +kernel
theorem dX6_target_5 : decode cX6_target 5 = .ok (.ifCond .eq 45, 3) := by decide +kernel
theorem dX6_target_8 : decode cX6_target 8 = .ok (.iload_n 2, 1) := by decide +kernel
theorem dX6_target_9 : decode cX6_target 9 = .ok (.iconst 0, 1) := by decide +kernel
theorem dX6_target_10 : decode cX6_target 10 = .ok (.iconst 3, 1) := by decide +kernel
theorem dX6_target_11 : decode cX6_target 11 = .ok (.invokestatic 66, 3) := by decide +kernel
theorem dX6_target_14 : decode cX6_target 14 = .ok (.ifCond .eq 36, 3) := by decide +kernel
theorem dX6_target_17 : decode cX6_target 17 = .ok (.iload_n 3, 1) := by decide +kernel
theorem dX6_target_18 : decode cX6_target 18 = .ok (.iconst 0, 1) := by decide +kernel
theorem dX6_target_19 : decode cX6_target 19 = .ok (.iload_n 2, 1) := by decide +kernel
theorem dX6_target_20 : decode cX6_target 20 = .ok (.ifCond .ne 8, 3) := by decide +kernel
theorem dX6_target_23 : decode cX6_target 23 = .ok (.bipush 31, 2) := by decide +kernel
theorem dX6_target_25 : decode cX6_target 25 = .ok (.goto 15, 3) := by decide +kernel
theorem dX6_target_28 : decode cX6_target 28 = .ok (.iload_n 2, 1) := by decide +kernel
theorem dX6_target_29 : decode cX6_target 29 = .ok (.iconst 1, 1) := by decide +kernel
theorem dX6_target_30 : decode cX6_target 30 = .ok (.if_icmp .ne 8, 3) := by decide +kernel
theorem dX6_target_33 : decode cX6_target 33 = .ok (.bipush 19, 2) := by decide +kernel
theorem dX6_target_35 : decode cX6_target 35 = .ok (.goto 5, 3) := by decide +kernel
theorem dX6_target_38 : decode cX6_target 38 = .ok (.bipush 7, 2) := by decide +kernel
theorem dX6_target_40 : decode cX6_target 40 = .ok (.invokestatic 66, 3) := by decide +kernel
theorem dX6_target_43 : decode cX6_target 43 = .ok (.ifCond .eq 7, 3) := by decide +kernel
theorem dX6_target_46 : decode cX6_target 46 = .ok (.iconst 1, 1) := by decide +kernel
theorem dX6_target_47 : decode cX6_target 47 = .ok (.goto 4, 3) := by decide +kernel
theorem dX6_target_50 : decode cX6_target 50 = .ok (.iconst 0, 1) := by decide +kernel
theorem dX6_target_51 : decode cX6_target 51 = .ok (.istore 4, 2) := by decide +kernel
theorem dX6_target_53 : decode cX6_target 53 = .ok (.iload 4, 2) := by decide +kernel
theorem dX6_target_55 : decode cX6_target 55 = .ok (.ifCond .ne 5, 3) := by decide +kernel
theorem dX6_target_58 : decode cX6_target 58 = .ok (.iconst (-1), 1) := by decide +kernel
theorem dX6_target_59 : decode cX6_target 59 = .ok (.ireturn, 1) := by decide +kernel
theorem dX6_target_60 : decode cX6_target 60 = .ok (.aload_n 0, 1) := by decide +kernel
theorem dX6_target_61 : decode cX6_target 61 = .ok (.getfield 87, 3) := by decide +kernel
theorem dX6_target_64 : decode cX6_target 64 = .ok (.bipush 24, 2) := by decide +kernel
theorem dX6_target_66 : decode cX6_target 66 = .ok (.if_icmp .ne 6, 3) := by decide +kernel
theorem dX6_target_69 : decode cX6_target 69 = .ok (.bipush (-3), 2) := by decide +kernel
theorem dX6_target_71 : decode cX6_target 71 = .ok (.ireturn, 1) := by decide +kernel
theorem dX6_target_72 : decode cX6_target 72 = .ok (.aload_n 0, 1) := by decide +kernel
theorem dX6_target_73 : decode cX6_target 73 = .ok (.getfield 20, 3) := by decide +kernel
theorem dX6_target_76 : decode cX6_target 76 = .ok (.aload_n 0, 1) := by decide +kernel
theorem dX6_target_77 : decode cX6_target 77 = .ok (.getfield 87, 3) := by decide +kernel
theorem dX6_target_80 : decode cX6_target 80 = .ok (.iload_n 1, 1) := by decide +kernel
theorem dX6_target_81 : decode cX6_target 81 = .ok (.iastore, 1) := by decide +kernel
theorem dX6_target_82 : decode cX6_target 82 = .ok (.aload_n 0, 1) := by decide +kernel
theorem dX6_target_83 : decode cX6_target 83 = .ok (.getfield 23, 3) := by decide +kernel
theorem dX6_target_86 : decode cX6_target 86 = .ok (.aload_n 0, 1) := by decide +kernel
theorem dX6_target_87 : decode cX6_target 87 = .ok (.getfield 87, 3) := by decide +kernel
theorem dX6_target_90 : decode cX6_target 90 = .ok (.iload_n 2, 1) := by decide +kernel
theorem dX6_target_91 : decode cX6_target 91 = .ok (.iastore, 1) := by decide +kernel
theorem dX6_target_92 : decode cX6_target 92 = .ok (.aload_n 0, 1) := by decide +kernel
theorem dX6_target_93 : decode cX6_target 93 = .ok (.getfield 26, 3) := by decide +kernel
theorem dX6_target_96 : decode cX6_target 96 = .ok (.aload_n 0, 1) := by decide +kernel
theorem dX6_target_97 : decode cX6_target 97 = .ok (.getfield 87, 3) := by decide +kernel
theorem dX6_target_100 : decode cX6_target 100 = .ok (.iload_n 3, 1) := by decide +kernel
theorem dX6_target_101 : decode cX6_target 101 = .ok (.iastore, 1) := by decide +kernel
theorem dX6_target_102 : decode cX6_target 102 = .ok (.aload_n 0, 1) := by decide +kernel
theorem dX6_target_103 : decode cX6_target 103 = .ok (.dup, 1) := by decide +kernel
theorem dX6_target_104 : decode cX6_target 104 = .ok (.getfield 87, 3) := by decide +kernel
theorem dX6_target_107 : decode cX6_target 107 = .ok (.iconst 1, 1) := by decide +kernel
theorem dX6_target_108 : decode cX6_target 108 = .ok (.iadd, 1) := by decide +kernel
theorem dX6_target_109 : decode cX6_target 109 = .ok (.putfield 87, 3) := by decide +kernel
theorem dX6_target_112 : decode cX6_target 112 = .ok (.aload_n 0, 1) := by decide +kernel
theorem dX6_target_113 : decode cX6_target 113 = .ok (.iconst 0, 1) := by decide +kernel
theorem dX6_target_114 : decode cX6_target 114 = .ok (.putfield 62, 3) := by decide +kernel
theorem dX6_target_117 : decode cX6_target 117 = .ok (.aload_n 0, 1) := by decide +kernel
theorem dX6_target_118 : decode cX6_target 118 = .ok (.getfield 87, 3) := by decide +kernel
theorem dX6_target_121 : decode cX6_target 121 = .ok (.ireturn, 1) := by decide +kernel
theorem dX6_namesOne_0 : decode cX6_namesOne 0 = .ok (.iload_n 0, 1) := by decide +kernel
theorem dX6_namesOne_1 : decode cX6_namesOne 1 = .ok (.bipush 10, 2) := by decide +kernel
theorem dX6_namesOne_3 : decode cX6_namesOne 3 = .ok (.if_icmp .le 7, 3) := by decide +kernel
theorem dX6_namesOne_6 : decode cX6_namesOne 6 = .ok (.iconst 1, 1) := by decide +kernel
theorem dX6_namesOne_7 : decode cX6_namesOne 7 = .ok (.goto 4, 3) := by decide +kernel
theorem dX6_namesOne_10 : decode cX6_namesOne 10 = .ok (.iconst 0, 1) := by decide +kernel
theorem dX6_namesOne_11 : decode cX6_namesOne 11 = .ok (.ireturn, 1) := by decide +kernel
theorem dX6_namesTwo_0 : decode cX6_namesTwo 0 = .ok (.iload_n 0, 1) := by decide +kernel
theorem dX6_namesTwo_1 : decode cX6_namesTwo 1 = .ok (.bipush 11, 2) := by decide +kernel
theorem dX6_namesTwo_3 : decode cX6_namesTwo 3 = .ok (.if_icmp .le 13, 3) := by decide +kernel
theorem dX6_namesTwo_6 : decode cX6_namesTwo 6 = .ok (.iload_n 0, 1) := by decide +kernel
theorem dX6_namesTwo_7 : decode cX6_namesTwo 7 = .ok (.bipush 15, 2) := by decide +kernel
theorem dX6_namesTwo_9 : decode cX6_namesTwo 9 = .ok (.if_icmp .ge 7, 3) := by decide +kernel
theorem dX6_namesTwo_12 : decode cX6_namesTwo 12 = .ok (.iconst 1, 1) := by decide +kernel
theorem dX6_namesTwo_13 : decode cX6_namesTwo 13 = .ok (.goto 4, 3) := by decide +kernel
theorem dX6_namesTwo_16 : decode cX6_namesTwo 16 = .ok (.iconst 0, 1) := by decide +kernel
theorem dX6_namesTwo_17 : decode cX6_namesTwo 17 = .ok (.ireturn, 1) := by decide +kernel
theorem dX6_isConstraint_0 : decode cX6_isConstraint 0 = .ok (.iload_n 1, 1) := by decide +kernel
theorem dX6_isConstraint_1 : decode cX6_isConstraint 1 = .ok (.tableswitch 179 0 17 #[87, 95, 102, 179, 179, 116, 124, 124, 124, 179, 179, 179, 132, 132, 132, 179, 179, 154], 87) := by decide +kernel
theorem dX6_isConstraint_88 : decode cX6_isConstraint 88 = .ok (.iload_n 2, 1) := by decide +kernel
theorem dX6_isConstraint_89 : decode cX6_isConstraint 89 = .ok (.iconst 0, 1) := by decide +kernel
theorem dX6_isConstraint_90 : decode cX6_isConstraint 90 = .ok (.bipush 19, 2) := by decide +kernel
theorem dX6_isConstraint_92 : decode cX6_isConstraint 92 = .ok (.invokestatic 66, 3) := by decide +kernel
theorem dX6_isConstraint_95 : decode cX6_isConstraint 95 = .ok (.ireturn, 1) := by decide +kernel
theorem dX6_isConstraint_96 : decode cX6_isConstraint 96 = .ok (.iload_n 2, 1) := by decide +kernel
theorem dX6_isConstraint_97 : decode cX6_isConstraint 97 = .ok (.iconst 0, 1) := by decide +kernel
theorem dX6_isConstraint_98 : decode cX6_isConstraint 98 = .ok (.iconst 3, 1) := by decide +kernel
theorem dX6_isConstraint_99 : decode cX6_isConstraint 99 = .ok (.invokestatic 66, 3) := by decide +kernel
theorem dX6_isConstraint_102 : decode cX6_isConstraint 102 = .ok (.ireturn, 1) := by decide +kernel
theorem dX6_isConstraint_103 : decode cX6_isConstraint 103 = .ok (.iload_n 2, 1) := by decide +kernel
theorem dX6_isConstraint_104 : decode cX6_isConstraint 104 = .ok (.ifCond .lt 11, 3) := by decide +kernel
theorem dX6_isConstraint_107 : decode cX6_isConstraint 107 = .ok (.iload_n 3, 1) := by decide +kernel
theorem dX6_isConstraint_108 : decode cX6_isConstraint 108 = .ok (.ifCond .lt 7, 3) := by decide +kernel
theorem dX6_isConstraint_111 : decode cX6_isConstraint 111 = .ok (.iconst 1, 1) := by decide +kernel
theorem dX6_isConstraint_112 : decode cX6_isConstraint 112 = .ok (.goto 4, 3) := by decide +kernel
theorem dX6_isConstraint_115 : decode cX6_isConstraint 115 = .ok (.iconst 0, 1) := by decide +kernel
theorem dX6_isConstraint_116 : decode cX6_isConstraint 116 = .ok (.ireturn, 1) := by decide +kernel
theorem dX6_isConstraint_117 : decode cX6_isConstraint 117 = .ok (.iload_n 2, 1) := by decide +kernel
theorem dX6_isConstraint_118 : decode cX6_isConstraint 118 = .ok (.iconst 0, 1) := by decide +kernel
theorem dX6_isConstraint_119 : decode cX6_isConstraint 119 = .ok (.bipush 31, 2) := by decide +kernel
theorem dX6_isConstraint_121 : decode cX6_isConstraint 121 = .ok (.invokestatic 66, 3) := by decide +kernel
theorem dX6_isConstraint_124 : decode cX6_isConstraint 124 = .ok (.ireturn, 1) := by decide +kernel
theorem dX6_isConstraint_125 : decode cX6_isConstraint 125 = .ok (.iload_n 2, 1) := by decide +kernel
theorem dX6_isConstraint_126 : decode cX6_isConstraint 126 = .ok (.iconst 0, 1) := by decide +kernel
theorem dX6_isConstraint_127 : decode cX6_isConstraint 127 = .ok (.bipush 7, 2) := by decide +kernel
theorem dX6_isConstraint_129 : decode cX6_isConstraint 129 = .ok (.invokestatic 66, 3) := by decide +kernel
theorem dX6_isConstraint_132 : decode cX6_isConstraint 132 = .ok (.ireturn, 1) := by decide +kernel
theorem dX6_isConstraint_133 : decode cX6_isConstraint 133 = .ok (.aload_n 0, 1) := by decide +kernel
theorem dX6_isConstraint_134 : decode cX6_isConstraint 134 = .ok (.iload_n 2, 1) := by decide +kernel
theorem dX6_isConstraint_135 : decode cX6_isConstraint 135 = .ok (.invokevirtual 83, 3) := by decide +kernel
theorem dX6_isConstraint_138 : decode cX6_isConstraint 138 = .ok (.ifCond .eq 15, 3) := by decide +kernel
theorem dX6_isConstraint_141 : decode cX6_isConstraint 141 = .ok (.aload_n 0, 1) := by decide +kernel
theorem dX6_isConstraint_142 : decode cX6_isConstraint 142 = .ok (.iload_n 3, 1) := by decide +kernel
theorem dX6_isConstraint_143 : decode cX6_isConstraint 143 = .ok (.invokevirtual 83, 3) := by decide +kernel
theorem dX6_isConstraint_146 : decode cX6_isConstraint 146 = .ok (.ifCond .eq 7, 3) := by decide +kernel
theorem dX6_isConstraint_149 : decode cX6_isConstraint 149 = .ok (.iconst 1, 1) := by decide +kernel
theorem dX6_isConstraint_150 : decode cX6_isConstraint 150 = .ok (.goto 4, 3) := by decide +kernel
theorem dX6_isConstraint_153 : decode cX6_isConstraint 153 = .ok (.iconst 0, 1) := by decide +kernel
theorem dX6_isConstraint_154 : decode cX6_isConstraint 154 = .ok (.ireturn, 1) := by decide +kernel
theorem dX6_isConstraint_155 : decode cX6_isConstraint 155 = .ok (.aload_n 0, 1) := by decide +kernel
theorem dX6_isConstraint_156 : decode cX6_isConstraint 156 = .ok (.iload_n 2, 1) := by decide +kernel
theorem dX6_isConstraint_157 : decode cX6_isConstraint 157 = .ok (.invokevirtual 83, 3) := by decide +kernel
theorem dX6_isConstraint_160 : decode cX6_isConstraint 160 = .ok (.ifCond .eq 18, 3) := by decide +kernel
theorem dX6_isConstraint_163 : decode cX6_isConstraint 163 = .ok (.iload_n 3, 1) := by decide +kernel
theorem dX6_isConstraint_164 : decode cX6_isConstraint 164 = .ok (.iconst 0, 1) := by decide +kernel
theorem dX6_isConstraint_165 : decode cX6_isConstraint 165 = .ok (.sipush 255, 3) := by decide +kernel
theorem dX6_isConstraint_168 : decode cX6_isConstraint 168 = .ok (.invokestatic 66, 3) := by decide +kernel
theorem dX6_isConstraint_171 : decode cX6_isConstraint 171 = .ok (.ifCond .eq 7, 3) := by decide +kernel
theorem dX6_isConstraint_174 : decode cX6_isConstraint 174 = .ok (.iconst 1, 1) := by decide +kernel
theorem dX6_isConstraint_175 : decode cX6_isConstraint 175 = .ok (.goto 4, 3) := by decide +kernel
theorem dX6_isConstraint_178 : decode cX6_isConstraint 178 = .ok (.iconst 0, 1) := by decide +kernel
theorem dX6_isConstraint_179 : decode cX6_isConstraint 179 = .ok (.ireturn, 1) := by decide +kernel
theorem dX6_isConstraint_180 : decode cX6_isConstraint 180 = .ok (.iload_n 1, 1) := by decide +kernel
theorem dX6_isConstraint_181 : decode cX6_isConstraint 181 = .ok (.bipush 11, 2) := by decide +kernel
theorem dX6_isConstraint_183 : decode cX6_isConstraint 183 = .ok (.if_icmp .lt 11, 3) := by decide +kernel
theorem dX6_isConstraint_186 : decode cX6_isConstraint 186 = .ok (.aload_n 0, 1) := by decide +kernel
theorem dX6_isConstraint_187 : decode cX6_isConstraint 187 = .ok (.iload_n 2, 1) := by decide +kernel
theorem dX6_isConstraint_188 : decode cX6_isConstraint 188 = .ok (.invokevirtual 83, 3) := by decide +kernel
theorem dX6_isConstraint_191 : decode cX6_isConstraint 191 = .ok (.ifCond .eq 7, 3) := by decide +kernel
theorem dX6_isConstraint_194 : decode cX6_isConstraint 194 = .ok (.iconst 1, 1) := by decide +kernel
theorem dX6_isConstraint_195 : decode cX6_isConstraint 195 = .ok (.goto 4, 3) := by decide +kernel
theorem dX6_isConstraint_198 : decode cX6_isConstraint 198 = .ok (.iconst 0, 1) := by decide +kernel
theorem dX6_isConstraint_199 : decode cX6_isConstraint 199 = .ok (.ireturn, 1) := by decide +kernel
theorem dX6_leadsTo_0 : decode cX6_leadsTo 0 = .ok (.iconst 0, 1) := by decide +kernel
theorem dX6_leadsTo_1 : decode cX6_leadsTo 1 = .ok (.istore_n 3, 1) := by decide +kernel
theorem dX6_leadsTo_2 : decode cX6_leadsTo 2 = .ok (.iload_n 3, 1) := by decide +kernel
theorem dX6_leadsTo_3 : decode cX6_leadsTo 3 = .ok (.bipush 12, 2) := by decide +kernel
theorem dX6_leadsTo_5 : decode cX6_leadsTo 5 = .ok (.if_icmp .ge 25, 3) := by decide +kernel
theorem dX6_leadsTo_8 : decode cX6_leadsTo 8 = .ok (.aload_n 0, 1) := by decide +kernel
theorem dX6_leadsTo_9 : decode cX6_leadsTo 9 = .ok (.getfield 47, 3) := by decide +kernel
theorem dX6_leadsTo_12 : decode cX6_leadsTo 12 = .ok (.iload_n 3, 1) := by decide +kernel
theorem dX6_leadsTo_13 : decode cX6_leadsTo 13 = .ok (.iload_n 3, 1) := by decide +kernel
theorem dX6_leadsTo_14 : decode cX6_leadsTo 14 = .ok (.iload_n 1, 1) := by decide +kernel
theorem dX6_leadsTo_15 : decode cX6_leadsTo 15 = .ok (.if_icmp .ne 7, 3) := by decide +kernel
theorem dX6_leadsTo_18 : decode cX6_leadsTo 18 = .ok (.iconst 1, 1) := by decide +kernel
theorem dX6_leadsTo_19 : decode cX6_leadsTo 19 = .ok (.goto 4, 3) := by decide +kernel
theorem dX6_leadsTo_22 : decode cX6_leadsTo 22 = .ok (.iconst 0, 1) := by decide +kernel
theorem dX6_leadsTo_23 : decode cX6_leadsTo 23 = .ok (.bastore, 1) := by decide +kernel
theorem dX6_leadsTo_24 : decode cX6_leadsTo 24 = .ok (.iinc 3 1, 3) := by decide +kernel
theorem dX6_leadsTo_27 : decode cX6_leadsTo 27 = .ok (.goto (-25), 3) := by decide +kernel
theorem dX6_leadsTo_30 : decode cX6_leadsTo 30 = .ok (.iconst 0, 1) := by decide +kernel
theorem dX6_leadsTo_31 : decode cX6_leadsTo 31 = .ok (.istore_n 3, 1) := by decide +kernel
theorem dX6_leadsTo_32 : decode cX6_leadsTo 32 = .ok (.iload_n 3, 1) := by decide +kernel
theorem dX6_leadsTo_33 : decode cX6_leadsTo 33 = .ok (.bipush 12, 2) := by decide +kernel
theorem dX6_leadsTo_35 : decode cX6_leadsTo 35 = .ok (.if_icmp .ge 94, 3) := by decide +kernel
theorem dX6_leadsTo_38 : decode cX6_leadsTo 38 = .ok (.iconst 0, 1) := by decide +kernel
theorem dX6_leadsTo_39 : decode cX6_leadsTo 39 = .ok (.istore 4, 2) := by decide +kernel
theorem dX6_leadsTo_41 : decode cX6_leadsTo 41 = .ok (.iload 4, 2) := by decide +kernel
theorem dX6_leadsTo_43 : decode cX6_leadsTo 43 = .ok (.aload_n 0, 1) := by decide +kernel
theorem dX6_leadsTo_44 : decode cX6_leadsTo 44 = .ok (.getfield 90, 3) := by decide +kernel
theorem dX6_leadsTo_47 : decode cX6_leadsTo 47 = .ok (.if_icmp .ge 76, 3) := by decide +kernel
theorem dX6_leadsTo_50 : decode cX6_leadsTo 50 = .ok (.aload_n 0, 1) := by decide +kernel
theorem dX6_leadsTo_51 : decode cX6_leadsTo 51 = .ok (.getfield 32, 3) := by decide +kernel
theorem dX6_leadsTo_54 : decode cX6_leadsTo 54 = .ok (.iload 4, 2) := by decide +kernel
theorem dX6_leadsTo_56 : decode cX6_leadsTo 56 = .ok (.iaload, 1) := by decide +kernel
theorem dX6_leadsTo_57 : decode cX6_leadsTo 57 = .ok (.invokestatic 93, 3) := by decide +kernel
theorem dX6_leadsTo_60 : decode cX6_leadsTo 60 = .ok (.ifCond .eq 57, 3) := by decide +kernel
theorem dX6_leadsTo_63 : decode cX6_leadsTo 63 = .ok (.aload_n 0, 1) := by decide +kernel
theorem dX6_leadsTo_64 : decode cX6_leadsTo 64 = .ok (.getfield 47, 3) := by decide +kernel
theorem dX6_leadsTo_67 : decode cX6_leadsTo 67 = .ok (.aload_n 0, 1) := by decide +kernel
theorem dX6_leadsTo_68 : decode cX6_leadsTo 68 = .ok (.getfield 29, 3) := by decide +kernel
theorem dX6_leadsTo_71 : decode cX6_leadsTo 71 = .ok (.iload 4, 2) := by decide +kernel
theorem dX6_leadsTo_73 : decode cX6_leadsTo 73 = .ok (.iaload, 1) := by decide +kernel
theorem dX6_leadsTo_74 : decode cX6_leadsTo 74 = .ok (.baload, 1) := by decide +kernel
theorem dX6_leadsTo_75 : decode cX6_leadsTo 75 = .ok (.ifCond .eq 42, 3) := by decide +kernel
theorem dX6_leadsTo_78 : decode cX6_leadsTo 78 = .ok (.aload_n 0, 1) := by decide +kernel
theorem dX6_leadsTo_79 : decode cX6_leadsTo 79 = .ok (.getfield 47, 3) := by decide +kernel
theorem dX6_leadsTo_82 : decode cX6_leadsTo 82 = .ok (.aload_n 0, 1) := by decide +kernel
theorem dX6_leadsTo_83 : decode cX6_leadsTo 83 = .ok (.getfield 35, 3) := by decide +kernel
theorem dX6_leadsTo_86 : decode cX6_leadsTo 86 = .ok (.iload 4, 2) := by decide +kernel
theorem dX6_leadsTo_88 : decode cX6_leadsTo 88 = .ok (.iaload, 1) := by decide +kernel
theorem dX6_leadsTo_89 : decode cX6_leadsTo 89 = .ok (.iconst 1, 1) := by decide +kernel
theorem dX6_leadsTo_90 : decode cX6_leadsTo 90 = .ok (.bastore, 1) := by decide +kernel
theorem dX6_leadsTo_91 : decode cX6_leadsTo 91 = .ok (.aload_n 0, 1) := by decide +kernel
theorem dX6_leadsTo_92 : decode cX6_leadsTo 92 = .ok (.getfield 32, 3) := by decide +kernel
theorem dX6_leadsTo_95 : decode cX6_leadsTo 95 = .ok (.iload 4, 2) := by decide +kernel
theorem dX6_leadsTo_97 : decode cX6_leadsTo 97 = .ok (.iaload, 1) := by decide +kernel
theorem dX6_leadsTo_98 : decode cX6_leadsTo 98 = .ok (.invokestatic 96, 3) := by decide +kernel
theorem dX6_leadsTo_101 : decode cX6_leadsTo 101 = .ok (.ifCond .eq 16, 3) := by decide +kernel
theorem dX6_leadsTo_104 : decode cX6_leadsTo 104 = .ok (.aload_n 0, 1) := by decide +kernel
theorem dX6_leadsTo_105 : decode cX6_leadsTo 105 = .ok (.getfield 47, 3) := by decide +kernel
theorem dX6_leadsTo_108 : decode cX6_leadsTo 108 = .ok (.aload_n 0, 1) := by decide +kernel
theorem dX6_leadsTo_109 : decode cX6_leadsTo 109 = .ok (.getfield 38, 3) := by decide +kernel
theorem dX6_leadsTo_112 : decode cX6_leadsTo 112 = .ok (.iload 4, 2) := by decide +kernel
theorem dX6_leadsTo_114 : decode cX6_leadsTo 114 = .ok (.iaload, 1) := by decide +kernel
theorem dX6_leadsTo_115 : decode cX6_leadsTo 115 = .ok (.iconst 1, 1) := by decide +kernel
theorem dX6_leadsTo_116 : decode cX6_leadsTo 116 = .ok (.bastore, 1) := by decide +kernel
theorem dX6_leadsTo_117 : decode cX6_leadsTo 117 = .ok (.iinc 4 1, 3) := by decide +kernel
theorem dX6_leadsTo_120 : decode cX6_leadsTo 120 = .ok (.goto (-79), 3) := by decide +kernel
theorem dX6_leadsTo_123 : decode cX6_leadsTo 123 = .ok (.iinc 3 1, 3) := by decide +kernel
theorem dX6_leadsTo_126 : decode cX6_leadsTo 126 = .ok (.goto (-94), 3) := by decide +kernel
theorem dX6_leadsTo_129 : decode cX6_leadsTo 129 = .ok (.aload_n 0, 1) := by decide +kernel
theorem dX6_leadsTo_130 : decode cX6_leadsTo 130 = .ok (.getfield 47, 3) := by decide +kernel
theorem dX6_leadsTo_133 : decode cX6_leadsTo 133 = .ok (.iload_n 2, 1) := by decide +kernel
theorem dX6_leadsTo_134 : decode cX6_leadsTo 134 = .ok (.baload, 1) := by decide +kernel
theorem dX6_leadsTo_135 : decode cX6_leadsTo 135 = .ok (.ireturn, 1) := by decide +kernel
theorem dX6_constraint_0 : decode cX6_constraint 0 = .ok (.aload_n 0, 1) := by decide +kernel
theorem dX6_constraint_1 : decode cX6_constraint 1 = .ok (.iload_n 1, 1) := by decide +kernel
theorem dX6_constraint_2 : decode cX6_constraint 2 = .ok (.invokevirtual 83, 3) := by decide +kernel
theorem dX6_constraint_5 : decode cX6_constraint 5 = .ok (.ifCond .eq 24, 3) := by decide +kernel
theorem dX6_constraint_8 : decode cX6_constraint 8 = .ok (.iload_n 2, 1) := by decide +kernel
theorem dX6_constraint_9 : decode cX6_constraint 9 = .ok (.iconst 0, 1) := by decide +kernel
theorem dX6_constraint_10 : decode cX6_constraint 10 = .ok (.bipush 17, 2) := by decide +kernel
theorem dX6_constraint_12 : decode cX6_constraint 12 = .ok (.invokestatic 66, 3) := by decide +kernel
theorem dX6_constraint_15 : decode cX6_constraint 15 = .ok (.ifCond .eq 14, 3) := by decide +kernel
theorem dX6_constraint_18 : decode cX6_constraint 18 = .ok (.aload_n 0, 1) := by decide +kernel
theorem dX6_constraint_19 : decode cX6_constraint 19 = .ok (.iload_n 2, 1) := by decide +kernel
theorem dX6_constraint_20 : decode cX6_constraint 20 = .ok (.iload_n 3, 1) := by decide +kernel
theorem dX6_constraint_21 : decode cX6_constraint 21 = .ok (.iload 4, 2) := by decide +kernel
theorem dX6_constraint_23 : decode cX6_constraint 23 = .ok (.invokevirtual 99, 3) := by decide +kernel
theorem dX6_constraint_26 : decode cX6_constraint 26 = .ok (.ifCond .ne 5, 3) := by decide +kernel
theorem dX6_constraint_29 : decode cX6_constraint 29 = .ok (.iconst (-1), 1) := by decide +kernel
theorem dX6_constraint_30 : decode cX6_constraint 30 = .ok (.ireturn, 1) := by decide +kernel
theorem dX6_constraint_31 : decode cX6_constraint 31 = .ok (.iload_n 2, 1) := by decide +kernel
theorem dX6_constraint_32 : decode cX6_constraint 32 = .ok (.invokestatic 93, 3) := by decide +kernel
theorem dX6_constraint_35 : decode cX6_constraint 35 = .ok (.ifCond .eq 12, 3) := by decide +kernel
theorem dX6_constraint_38 : decode cX6_constraint 38 = .ok (.aload_n 0, 1) := by decide +kernel
theorem dX6_constraint_39 : decode cX6_constraint 39 = .ok (.iload_n 3, 1) := by decide +kernel
theorem dX6_constraint_40 : decode cX6_constraint 40 = .ok (.iload_n 1, 1) := by decide +kernel
theorem dX6_constraint_41 : decode cX6_constraint 41 = .ok (.invokevirtual 102, 3) := by decide +kernel
theorem dX6_constraint_44 : decode cX6_constraint 44 = .ok (.ifCond .ne 20, 3) := by decide +kernel
theorem dX6_constraint_47 : decode cX6_constraint 47 = .ok (.iload_n 2, 1) := by decide +kernel
theorem dX6_constraint_48 : decode cX6_constraint 48 = .ok (.invokestatic 96, 3) := by decide +kernel
theorem dX6_constraint_51 : decode cX6_constraint 51 = .ok (.ifCond .eq 16, 3) := by decide +kernel
theorem dX6_constraint_54 : decode cX6_constraint 54 = .ok (.aload_n 0, 1) := by decide +kernel
theorem dX6_constraint_55 : decode cX6_constraint 55 = .ok (.iload 4, 2) := by decide +kernel
theorem dX6_constraint_57 : decode cX6_constraint 57 = .ok (.iload_n 1, 1) := by decide +kernel
theorem dX6_constraint_58 : decode cX6_constraint 58 = .ok (.invokevirtual 102, 3) := by decide +kernel
theorem dX6_constraint_61 : decode cX6_constraint 61 = .ok (.ifCond .eq 6, 3) := by decide +kernel
theorem dX6_constraint_64 : decode cX6_constraint 64 = .ok (.bipush (-2), 2) := by decide +kernel
theorem dX6_constraint_66 : decode cX6_constraint 66 = .ok (.ireturn, 1) := by decide +kernel
theorem dX6_constraint_67 : decode cX6_constraint 67 = .ok (.aload_n 0, 1) := by decide +kernel
theorem dX6_constraint_68 : decode cX6_constraint 68 = .ok (.getfield 90, 3) := by decide +kernel
theorem dX6_constraint_71 : decode cX6_constraint 71 = .ok (.bipush 40, 2) := by decide +kernel
theorem dX6_constraint_73 : decode cX6_constraint 73 = .ok (.if_icmp .ne 6, 3) := by decide +kernel
theorem dX6_constraint_76 : decode cX6_constraint 76 = .ok (.bipush (-3), 2) := by decide +kernel
theorem dX6_constraint_78 : decode cX6_constraint 78 = .ok (.ireturn, 1) := by decide +kernel
theorem dX6_constraint_79 : decode cX6_constraint 79 = .ok (.aload_n 0, 1) := by decide +kernel
theorem dX6_constraint_80 : decode cX6_constraint 80 = .ok (.getfield 29, 3) := by decide +kernel
theorem dX6_constraint_83 : decode cX6_constraint 83 = .ok (.aload_n 0, 1) := by decide +kernel
theorem dX6_constraint_84 : decode cX6_constraint 84 = .ok (.getfield 90, 3) := by decide +kernel
theorem dX6_constraint_87 : decode cX6_constraint 87 = .ok (.iload_n 1, 1) := by decide +kernel
theorem dX6_constraint_88 : decode cX6_constraint 88 = .ok (.iastore, 1) := by decide +kernel
theorem dX6_constraint_89 : decode cX6_constraint 89 = .ok (.aload_n 0, 1) := by decide +kernel
theorem dX6_constraint_90 : decode cX6_constraint 90 = .ok (.getfield 32, 3) := by decide +kernel
theorem dX6_constraint_93 : decode cX6_constraint 93 = .ok (.aload_n 0, 1) := by decide +kernel
theorem dX6_constraint_94 : decode cX6_constraint 94 = .ok (.getfield 90, 3) := by decide +kernel
theorem dX6_constraint_97 : decode cX6_constraint 97 = .ok (.iload_n 2, 1) := by decide +kernel
theorem dX6_constraint_98 : decode cX6_constraint 98 = .ok (.iastore, 1) := by decide +kernel
theorem dX6_constraint_99 : decode cX6_constraint 99 = .ok (.aload_n 0, 1) := by decide +kernel
theorem dX6_constraint_100 : decode cX6_constraint 100 = .ok (.getfield 35, 3) := by decide +kernel
theorem dX6_constraint_103 : decode cX6_constraint 103 = .ok (.aload_n 0, 1) := by decide +kernel
theorem dX6_constraint_104 : decode cX6_constraint 104 = .ok (.getfield 90, 3) := by decide +kernel
theorem dX6_constraint_107 : decode cX6_constraint 107 = .ok (.iload_n 3, 1) := by decide +kernel
theorem dX6_constraint_108 : decode cX6_constraint 108 = .ok (.iastore, 1) := by decide +kernel
theorem dX6_constraint_109 : decode cX6_constraint 109 = .ok (.aload_n 0, 1) := by decide +kernel
theorem dX6_constraint_110 : decode cX6_constraint 110 = .ok (.getfield 38, 3) := by decide +kernel
theorem dX6_constraint_113 : decode cX6_constraint 113 = .ok (.aload_n 0, 1) := by decide +kernel
theorem dX6_constraint_114 : decode cX6_constraint 114 = .ok (.getfield 90, 3) := by decide +kernel
theorem dX6_constraint_117 : decode cX6_constraint 117 = .ok (.iload 4, 2) := by decide +kernel
theorem dX6_constraint_119 : decode cX6_constraint 119 = .ok (.iastore, 1) := by decide +kernel
theorem dX6_constraint_120 : decode cX6_constraint 120 = .ok (.aload_n 0, 1) := by decide +kernel
theorem dX6_constraint_121 : decode cX6_constraint 121 = .ok (.dup, 1) := by decide +kernel
theorem dX6_constraint_122 : decode cX6_constraint 122 = .ok (.getfield 90, 3) := by decide +kernel
theorem dX6_constraint_125 : decode cX6_constraint 125 = .ok (.iconst 1, 1) := by decide +kernel
theorem dX6_constraint_126 : decode cX6_constraint 126 = .ok (.iadd, 1) := by decide +kernel
theorem dX6_constraint_127 : decode cX6_constraint 127 = .ok (.putfield 90, 3) := by decide +kernel
theorem dX6_constraint_130 : decode cX6_constraint 130 = .ok (.aload_n 0, 1) := by decide +kernel
theorem dX6_constraint_131 : decode cX6_constraint 131 = .ok (.iconst 0, 1) := by decide +kernel
theorem dX6_constraint_132 : decode cX6_constraint 132 = .ok (.putfield 62, 3) := by decide +kernel
theorem dX6_constraint_135 : decode cX6_constraint 135 = .ok (.aload_n 0, 1) := by decide +kernel
theorem dX6_constraint_136 : decode cX6_constraint 136 = .ok (.getfield 90, 3) := by decide +kernel
theorem dX6_constraint_139 : decode cX6_constraint 139 = .ok (.iconst 1, 1) := by decide +kernel
theorem dX6_constraint_140 : decode cX6_constraint 140 = .ok (.isub, 1) := by decide +kernel
theorem dX6_constraint_141 : decode cX6_constraint 141 = .ok (.ireturn, 1) := by decide +kernel
theorem dX6_isOfClass_0 : decode cX6_isOfClass 0 = .ok (.iconst 0, 1) := by decide +kernel
theorem dX6_isOfClass_1 : decode cX6_isOfClass 1 = .ok (.istore_n 3, 1) := by decide +kernel
theorem dX6_isOfClass_2 : decode cX6_isOfClass 2 = .ok (.iload_n 3, 1) := by decide +kernel
theorem dX6_isOfClass_3 : decode cX6_isOfClass 3 = .ok (.bipush 32, 2) := by decide +kernel
theorem dX6_isOfClass_5 : decode cX6_isOfClass 5 = .ok (.if_icmp .ge 22, 3) := by decide +kernel
theorem dX6_isOfClass_8 : decode cX6_isOfClass 8 = .ok (.aload_n 0, 1) := by decide +kernel
theorem dX6_isOfClass_9 : decode cX6_isOfClass 9 = .ok (.getfield 50, 3) := by decide +kernel
theorem dX6_isOfClass_12 : decode cX6_isOfClass 12 = .ok (.iload_n 3, 1) := by decide +kernel
theorem dX6_isOfClass_13 : decode cX6_isOfClass 13 = .ok (.aload_n 0, 1) := by decide +kernel
theorem dX6_isOfClass_14 : decode cX6_isOfClass 14 = .ok (.iload_n 1, 1) := by decide +kernel
theorem dX6_isOfClass_15 : decode cX6_isOfClass 15 = .ok (.iconst 0, 1) := by decide +kernel
theorem dX6_isOfClass_16 : decode cX6_isOfClass 16 = .ok (.iload_n 3, 1) := by decide +kernel
theorem dX6_isOfClass_17 : decode cX6_isOfClass 17 = .ok (.invokevirtual 77, 3) := by decide +kernel
theorem dX6_isOfClass_20 : decode cX6_isOfClass 20 = .ok (.bastore, 1) := by decide +kernel
theorem dX6_isOfClass_21 : decode cX6_isOfClass 21 = .ok (.iinc 3 1, 3) := by decide +kernel
theorem dX6_isOfClass_24 : decode cX6_isOfClass 24 = .ok (.goto (-22), 3) := by decide +kernel
theorem dX6_isOfClass_27 : decode cX6_isOfClass 27 = .ok (.iconst 0, 1) := by decide +kernel
theorem dX6_isOfClass_28 : decode cX6_isOfClass 28 = .ok (.istore_n 3, 1) := by decide +kernel
theorem dX6_isOfClass_29 : decode cX6_isOfClass 29 = .ok (.iload_n 3, 1) := by decide +kernel
theorem dX6_isOfClass_30 : decode cX6_isOfClass 30 = .ok (.bipush 20, 2) := by decide +kernel
theorem dX6_isOfClass_32 : decode cX6_isOfClass 32 = .ok (.if_icmp .ge 85, 3) := by decide +kernel
theorem dX6_isOfClass_35 : decode cX6_isOfClass 35 = .ok (.iconst 0, 1) := by decide +kernel
theorem dX6_isOfClass_36 : decode cX6_isOfClass 36 = .ok (.istore 4, 2) := by decide +kernel
theorem dX6_isOfClass_38 : decode cX6_isOfClass 38 = .ok (.iload 4, 2) := by decide +kernel
theorem dX6_isOfClass_40 : decode cX6_isOfClass 40 = .ok (.bipush 20, 2) := by decide +kernel
theorem dX6_isOfClass_42 : decode cX6_isOfClass 42 = .ok (.if_icmp .ge 69, 3) := by decide +kernel
theorem dX6_isOfClass_45 : decode cX6_isOfClass 45 = .ok (.iconst 0, 1) := by decide +kernel
theorem dX6_isOfClass_46 : decode cX6_isOfClass 46 = .ok (.istore 5, 2) := by decide +kernel
theorem dX6_isOfClass_48 : decode cX6_isOfClass 48 = .ok (.iload 5, 2) := by decide +kernel
theorem dX6_isOfClass_50 : decode cX6_isOfClass 50 = .ok (.bipush 32, 2) := by decide +kernel
theorem dX6_isOfClass_52 : decode cX6_isOfClass 52 = .ok (.if_icmp .ge 53, 3) := by decide +kernel
theorem dX6_isOfClass_55 : decode cX6_isOfClass 55 = .ok (.aload_n 0, 1) := by decide +kernel
theorem dX6_isOfClass_56 : decode cX6_isOfClass 56 = .ok (.getfield 50, 3) := by decide +kernel
theorem dX6_isOfClass_59 : decode cX6_isOfClass 59 = .ok (.iload 4, 2) := by decide +kernel
theorem dX6_isOfClass_61 : decode cX6_isOfClass 61 = .ok (.baload, 1) := by decide +kernel
theorem dX6_isOfClass_62 : decode cX6_isOfClass 62 = .ok (.ifCond .eq 43, 3) := by decide +kernel
theorem dX6_isOfClass_65 : decode cX6_isOfClass 65 = .ok (.aload_n 0, 1) := by decide +kernel
theorem dX6_isOfClass_66 : decode cX6_isOfClass 66 = .ok (.getfield 50, 3) := by decide +kernel
theorem dX6_isOfClass_69 : decode cX6_isOfClass 69 = .ok (.iload 5, 2) := by decide +kernel
theorem dX6_isOfClass_71 : decode cX6_isOfClass 71 = .ok (.aload_n 0, 1) := by decide +kernel
theorem dX6_isOfClass_72 : decode cX6_isOfClass 72 = .ok (.getfield 50, 3) := by decide +kernel
theorem dX6_isOfClass_75 : decode cX6_isOfClass 75 = .ok (.iload 5, 2) := by decide +kernel
theorem dX6_isOfClass_77 : decode cX6_isOfClass 77 = .ok (.baload, 1) := by decide +kernel
theorem dX6_isOfClass_78 : decode cX6_isOfClass 78 = .ok (.ifCond .ne 15, 3) := by decide +kernel
theorem dX6_isOfClass_81 : decode cX6_isOfClass 81 = .ok (.aload_n 0, 1) := by decide +kernel
theorem dX6_isOfClass_82 : decode cX6_isOfClass 82 = .ok (.iload 4, 2) := by decide +kernel
theorem dX6_isOfClass_84 : decode cX6_isOfClass 84 = .ok (.iconst 1, 1) := by decide +kernel
theorem dX6_isOfClass_85 : decode cX6_isOfClass 85 = .ok (.iload 5, 2) := by decide +kernel
theorem dX6_isOfClass_87 : decode cX6_isOfClass 87 = .ok (.invokevirtual 77, 3) := by decide +kernel
theorem dX6_isOfClass_90 : decode cX6_isOfClass 90 = .ok (.ifCond .eq 7, 3) := by decide +kernel
theorem dX6_isOfClass_93 : decode cX6_isOfClass 93 = .ok (.iconst 1, 1) := by decide +kernel
theorem dX6_isOfClass_94 : decode cX6_isOfClass 94 = .ok (.goto 4, 3) := by decide +kernel
theorem dX6_isOfClass_97 : decode cX6_isOfClass 97 = .ok (.iconst 0, 1) := by decide +kernel
theorem dX6_isOfClass_98 : decode cX6_isOfClass 98 = .ok (.bastore, 1) := by decide +kernel
theorem dX6_isOfClass_99 : decode cX6_isOfClass 99 = .ok (.iinc 5 1, 3) := by decide +kernel
theorem dX6_isOfClass_102 : decode cX6_isOfClass 102 = .ok (.goto (-54), 3) := by decide +kernel
theorem dX6_isOfClass_105 : decode cX6_isOfClass 105 = .ok (.iinc 4 1, 3) := by decide +kernel
theorem dX6_isOfClass_108 : decode cX6_isOfClass 108 = .ok (.goto (-70), 3) := by decide +kernel
theorem dX6_isOfClass_111 : decode cX6_isOfClass 111 = .ok (.iinc 3 1, 3) := by decide +kernel
theorem dX6_isOfClass_114 : decode cX6_isOfClass 114 = .ok (.goto (-85), 3) := by decide +kernel
theorem dX6_isOfClass_117 : decode cX6_isOfClass 117 = .ok (.aload_n 0, 1) := by decide +kernel
theorem dX6_isOfClass_118 : decode cX6_isOfClass 118 = .ok (.getfield 50, 3) := by decide +kernel
theorem dX6_isOfClass_121 : decode cX6_isOfClass 121 = .ok (.iload_n 2, 1) := by decide +kernel
theorem dX6_isOfClass_122 : decode cX6_isOfClass 122 = .ok (.baload, 1) := by decide +kernel
theorem dX6_isOfClass_123 : decode cX6_isOfClass 123 = .ok (.ireturn, 1) := by decide +kernel
theorem dX6_isValue_0 : decode cX6_isValue 0 = .ok (.aload_n 0, 1) := by decide +kernel
theorem dX6_isValue_1 : decode cX6_isValue 1 = .ok (.getfield 13, 3) := by decide +kernel
theorem dX6_isValue_4 : decode cX6_isValue 4 = .ok (.iload_n 2, 1) := by decide +kernel
theorem dX6_isValue_5 : decode cX6_isValue 5 = .ok (.iaload, 1) := by decide +kernel
theorem dX6_isValue_6 : decode cX6_isValue 6 = .ok (.istore 4, 2) := by decide +kernel
theorem dX6_isValue_8 : decode cX6_isValue 8 = .ok (.iload 4, 2) := by decide +kernel
theorem dX6_isValue_10 : decode cX6_isValue 10 = .ok (.ifCond .ge 16, 3) := by decide +kernel
theorem dX6_isValue_13 : decode cX6_isValue 13 = .ok (.iload_n 3, 1) := by decide +kernel
theorem dX6_isValue_14 : decode cX6_isValue 14 = .ok (.iload_n 1, 1) := by decide +kernel
theorem dX6_isValue_15 : decode cX6_isValue 15 = .ok (.if_icmp .ne 7, 3) := by decide +kernel
theorem dX6_isValue_18 : decode cX6_isValue 18 = .ok (.iconst 1, 1) := by decide +kernel
theorem dX6_isValue_19 : decode cX6_isValue 19 = .ok (.goto 36, 3) := by decide +kernel
theorem dX6_isValue_22 : decode cX6_isValue 22 = .ok (.iconst 0, 1) := by decide +kernel
theorem dX6_isValue_23 : decode cX6_isValue 23 = .ok (.goto 32, 3) := by decide +kernel
theorem dX6_isValue_26 : decode cX6_isValue 26 = .ok (.iload 4, 2) := by decide +kernel
theorem dX6_isValue_28 : decode cX6_isValue 28 = .ok (.bipush 8, 2) := by decide +kernel
theorem dX6_isValue_30 : decode cX6_isValue 30 = .ok (.if_icmp .ge 14, 3) := by decide +kernel
theorem dX6_isValue_33 : decode cX6_isValue 33 = .ok (.aload_n 0, 1) := by decide +kernel
theorem dX6_isValue_34 : decode cX6_isValue 34 = .ok (.iload_n 1, 1) := by decide +kernel
theorem dX6_isValue_35 : decode cX6_isValue 35 = .ok (.iload 4, 2) := by decide +kernel
theorem dX6_isValue_37 : decode cX6_isValue 37 = .ok (.iload_n 3, 1) := by decide +kernel
theorem dX6_isValue_38 : decode cX6_isValue 38 = .ok (.invokevirtual 77, 3) := by decide +kernel
theorem dX6_isValue_41 : decode cX6_isValue 41 = .ok (.goto 14, 3) := by decide +kernel
theorem dX6_isValue_44 : decode cX6_isValue 44 = .ok (.aload_n 0, 1) := by decide +kernel
theorem dX6_isValue_45 : decode cX6_isValue 45 = .ok (.iload_n 3, 1) := by decide +kernel
theorem dX6_isValue_46 : decode cX6_isValue 46 = .ok (.iload 4, 2) := by decide +kernel
theorem dX6_isValue_48 : decode cX6_isValue 48 = .ok (.bipush 8, 2) := by decide +kernel
theorem dX6_isValue_50 : decode cX6_isValue 50 = .ok (.isub, 1) := by decide +kernel
theorem dX6_isValue_51 : decode cX6_isValue 51 = .ok (.iload_n 1, 1) := by decide +kernel
theorem dX6_isValue_52 : decode cX6_isValue 52 = .ok (.invokevirtual 77, 3) := by decide +kernel
theorem dX6_isValue_55 : decode cX6_isValue 55 = .ok (.ireturn, 1) := by decide +kernel
theorem dX6_isFor_0 : decode cX6_isFor 0 = .ok (.iconst 0, 1) := by decide +kernel
theorem dX6_isFor_1 : decode cX6_isFor 1 = .ok (.istore_n 3, 1) := by decide +kernel
theorem dX6_isFor_2 : decode cX6_isFor 2 = .ok (.iconst 0, 1) := by decide +kernel
theorem dX6_isFor_3 : decode cX6_isFor 3 = .ok (.istore 4, 2) := by decide +kernel
theorem dX6_isFor_5 : decode cX6_isFor 5 = .ok (.iload 4, 2) := by decide +kernel
theorem dX6_isFor_7 : decode cX6_isFor 7 = .ok (.aload_n 0, 1) := by decide +kernel
theorem dX6_isFor_8 : decode cX6_isFor 8 = .ok (.getfield 87, 3) := by decide +kernel
theorem dX6_isFor_11 : decode cX6_isFor 11 = .ok (.if_icmp .ge 145, 3) := by decide +kernel
theorem dX6_isFor_14 : decode cX6_isFor 14 = .ok (.iload_n 3, 1) := by decide +kernel
theorem dX6_isFor_15 : decode cX6_isFor 15 = .ok (.ifCond .ne 141, 3) := by decide +kernel
theorem dX6_isFor_18 : decode cX6_isFor 18 = .ok (.aload_n 0, 1) := by decide +kernel
theorem dX6_isFor_19 : decode cX6_isFor 19 = .ok (.getfield 20, 3) := by decide +kernel
theorem dX6_isFor_22 : decode cX6_isFor 22 = .ok (.iload 4, 2) := by decide +kernel
theorem dX6_isFor_24 : decode cX6_isFor 24 = .ok (.iaload, 1) := by decide +kernel
theorem dX6_isFor_25 : decode cX6_isFor 25 = .ok (.iload_n 1, 1) := by decide +kernel
theorem dX6_isFor_26 : decode cX6_isFor 26 = .ok (.if_icmp .ne 124, 3) := by decide +kernel
theorem dX6_isFor_29 : decode cX6_isFor 29 = .ok (.aload_n 0, 1) := by decide +kernel
theorem dX6_isFor_30 : decode cX6_isFor 30 = .ok (.getfield 26, 3) := by decide +kernel
theorem dX6_isFor_33 : decode cX6_isFor 33 = .ok (.iload 4, 2) := by decide +kernel
theorem dX6_isFor_35 : decode cX6_isFor 35 = .ok (.iaload, 1) := by decide +kernel
theorem dX6_isFor_36 : decode cX6_isFor 36 = .ok (.istore 5, 2) := by decide +kernel
theorem dX6_isFor_38 : decode cX6_isFor 38 = .ok (.aload_n 0, 1) := by decide +kernel
theorem dX6_isFor_39 : decode cX6_isFor 39 = .ok (.getfield 23, 3) := by decide +kernel
theorem dX6_isFor_42 : decode cX6_isFor 42 = .ok (.iload 4, 2) := by decide +kernel
theorem dX6_isFor_44 : decode cX6_isFor 44 = .ok (.iaload, 1) := by decide +kernel
theorem dX6_isFor_45 : decode cX6_isFor 45 = .ok (.istore 6, 2) := by decide +kernel
theorem dX6_isFor_47 : decode cX6_isFor 47 = .ok (.iload 6, 2) := by decide +kernel
theorem dX6_isFor_49 : decode cX6_isFor 49 = .ok (.ifCond .ne 17, 3) := by decide +kernel
theorem dX6_isFor_52 : decode cX6_isFor 52 = .ok (.iload_n 2, 1) := by decide +kernel
theorem dX6_isFor_53 : decode cX6_isFor 53 = .ok (.iload 5, 2) := by decide +kernel
theorem dX6_isFor_55 : decode cX6_isFor 55 = .ok (.if_icmp .ne 7, 3) := by decide +kernel
theorem dX6_isFor_58 : decode cX6_isFor 58 = .ok (.iconst 1, 1) := by decide +kernel
theorem dX6_isFor_59 : decode cX6_isFor 59 = .ok (.goto 28, 3) := by decide +kernel
theorem dX6_isFor_62 : decode cX6_isFor 62 = .ok (.iconst 0, 1) := by decide +kernel
theorem dX6_isFor_63 : decode cX6_isFor 63 = .ok (.goto 24, 3) := by decide +kernel
theorem dX6_isFor_66 : decode cX6_isFor 66 = .ok (.iload 6, 2) := by decide +kernel
theorem dX6_isFor_68 : decode cX6_isFor 68 = .ok (.iconst 1, 1) := by decide +kernel
theorem dX6_isFor_69 : decode cX6_isFor 69 = .ok (.if_icmp .ne 17, 3) := by decide +kernel
theorem dX6_isFor_72 : decode cX6_isFor 72 = .ok (.aload_n 0, 1) := by decide +kernel
theorem dX6_isFor_73 : decode cX6_isFor 73 = .ok (.iload_n 2, 1) := by decide +kernel
theorem dX6_isFor_74 : decode cX6_isFor 74 = .ok (.iload 5, 2) := by decide +kernel
theorem dX6_isFor_76 : decode cX6_isFor 76 = .ok (.invokevirtual 106, 3) := by decide +kernel
theorem dX6_isFor_79 : decode cX6_isFor 79 = .ok (.ifCond .eq 7, 3) := by decide +kernel
theorem dX6_isFor_82 : decode cX6_isFor 82 = .ok (.iconst 1, 1) := by decide +kernel
theorem dX6_isFor_83 : decode cX6_isFor 83 = .ok (.goto 4, 3) := by decide +kernel
theorem dX6_isFor_86 : decode cX6_isFor 86 = .ok (.iconst 0, 1) := by decide +kernel
theorem dX6_isFor_87 : decode cX6_isFor 87 = .ok (.istore_n 3, 1) := by decide +kernel
theorem dX6_isFor_88 : decode cX6_isFor 88 = .ok (.iconst 0, 1) := by decide +kernel
theorem dX6_isFor_89 : decode cX6_isFor 89 = .ok (.istore 7, 2) := by decide +kernel
theorem dX6_isFor_91 : decode cX6_isFor 91 = .ok (.iload 7, 2) := by decide +kernel
theorem dX6_isFor_93 : decode cX6_isFor 93 = .ok (.bipush 32, 2) := by decide +kernel
theorem dX6_isFor_95 : decode cX6_isFor 95 = .ok (.if_icmp .ge 55, 3) := by decide +kernel
theorem dX6_isFor_98 : decode cX6_isFor 98 = .ok (.iload_n 3, 1) := by decide +kernel
theorem dX6_isFor_99 : decode cX6_isFor 99 = .ok (.ifCond .ne 39, 3) := by decide +kernel
theorem dX6_isFor_102 : decode cX6_isFor 102 = .ok (.iload 6, 2) := by decide +kernel
theorem dX6_isFor_104 : decode cX6_isFor 104 = .ok (.iconst 2, 1) := by decide +kernel
theorem dX6_isFor_105 : decode cX6_isFor 105 = .ok (.if_icmp .ne 15, 3) := by decide +kernel
theorem dX6_isFor_108 : decode cX6_isFor 108 = .ok (.aload_n 0, 1) := by decide +kernel
theorem dX6_isFor_109 : decode cX6_isFor 109 = .ok (.iload_n 2, 1) := by decide +kernel
theorem dX6_isFor_110 : decode cX6_isFor 110 = .ok (.iload 5, 2) := by decide +kernel
theorem dX6_isFor_112 : decode cX6_isFor 112 = .ok (.iload 7, 2) := by decide +kernel
theorem dX6_isFor_114 : decode cX6_isFor 114 = .ok (.invokevirtual 77, 3) := by decide +kernel
theorem dX6_isFor_117 : decode cX6_isFor 117 = .ok (.ifCond .ne 21, 3) := by decide +kernel
theorem dX6_isFor_120 : decode cX6_isFor 120 = .ok (.iload 6, 2) := by decide +kernel
theorem dX6_isFor_122 : decode cX6_isFor 122 = .ok (.iconst 3, 1) := by decide +kernel
theorem dX6_isFor_123 : decode cX6_isFor 123 = .ok (.if_icmp .ne 19, 3) := by decide +kernel
theorem dX6_isFor_126 : decode cX6_isFor 126 = .ok (.aload_n 0, 1) := by decide +kernel
theorem dX6_isFor_127 : decode cX6_isFor 127 = .ok (.iload 7, 2) := by decide +kernel
theorem dX6_isFor_129 : decode cX6_isFor 129 = .ok (.iload 5, 2) := by decide +kernel
theorem dX6_isFor_131 : decode cX6_isFor 131 = .ok (.iload_n 2, 1) := by decide +kernel
theorem dX6_isFor_132 : decode cX6_isFor 132 = .ok (.invokevirtual 77, 3) := by decide +kernel
theorem dX6_isFor_135 : decode cX6_isFor 135 = .ok (.ifCond .eq 7, 3) := by decide +kernel
theorem dX6_isFor_138 : decode cX6_isFor 138 = .ok (.iconst 1, 1) := by decide +kernel
theorem dX6_isFor_139 : decode cX6_isFor 139 = .ok (.goto 4, 3) := by decide +kernel
theorem dX6_isFor_142 : decode cX6_isFor 142 = .ok (.iconst 0, 1) := by decide +kernel
theorem dX6_isFor_143 : decode cX6_isFor 143 = .ok (.istore_n 3, 1) := by decide +kernel
theorem dX6_isFor_144 : decode cX6_isFor 144 = .ok (.iinc 7 1, 3) := by decide +kernel
theorem dX6_isFor_147 : decode cX6_isFor 147 = .ok (.goto (-56), 3) := by decide +kernel
theorem dX6_isFor_150 : decode cX6_isFor 150 = .ok (.iinc 4 1, 3) := by decide +kernel
theorem dX6_isFor_153 : decode cX6_isFor 153 = .ok (.goto (-148), 3) := by decide +kernel
theorem dX6_isFor_156 : decode cX6_isFor 156 = .ok (.iload_n 3, 1) := by decide +kernel
theorem dX6_isFor_157 : decode cX6_isFor 157 = .ok (.ireturn, 1) := by decide +kernel
theorem dX6_isWrong_0 : decode cX6_isWrong 0 = .ok (.aload_n 0, 1) := by decide +kernel
theorem dX6_isWrong_1 : decode cX6_isWrong 1 = .ok (.getfield 35, 3) := by decide +kernel
theorem dX6_isWrong_4 : decode cX6_isWrong 4 = .ok (.iload_n 1, 1) := by decide +kernel
theorem dX6_isWrong_5 : decode cX6_isWrong 5 = .ok (.iaload, 1) := by decide +kernel
theorem dX6_isWrong_6 : decode cX6_isWrong 6 = .ok (.istore 4, 2) := by decide +kernel
theorem dX6_isWrong_8 : decode cX6_isWrong 8 = .ok (.aload_n 0, 1) := by decide +kernel
theorem dX6_isWrong_9 : decode cX6_isWrong 9 = .ok (.getfield 38, 3) := by decide +kernel
theorem dX6_isWrong_12 : decode cX6_isWrong 12 = .ok (.iload_n 1, 1) := by decide +kernel
theorem dX6_isWrong_13 : decode cX6_isWrong 13 = .ok (.iaload, 1) := by decide +kernel
theorem dX6_isWrong_14 : decode cX6_isWrong 14 = .ok (.istore 5, 2) := by decide +kernel
theorem dX6_isWrong_16 : decode cX6_isWrong 16 = .ok (.aload_n 0, 1) := by decide +kernel
theorem dX6_isWrong_17 : decode cX6_isWrong 17 = .ok (.getfield 32, 3) := by decide +kernel
theorem dX6_isWrong_20 : decode cX6_isWrong 20 = .ok (.iload_n 1, 1) := by decide +kernel
theorem dX6_isWrong_21 : decode cX6_isWrong 21 = .ok (.iaload, 1) := by decide +kernel
theorem dX6_isWrong_22 : decode cX6_isWrong 22 = .ok (.tableswitch 329 0 14 #[74, 90, 329, 132, 163, 329, 329, 178, 187, 329, 329, 211, 224, 260, 296], 74) := by decide +kernel
theorem dX6_isWrong_96 : decode cX6_isWrong 96 = .ok (.aload_n 0, 1) := by decide +kernel
theorem dX6_isWrong_97 : decode cX6_isWrong 97 = .ok (.iload_n 3, 1) := by decide +kernel
theorem dX6_isWrong_98 : decode cX6_isWrong 98 = .ok (.iload 4, 2) := by decide +kernel
theorem dX6_isWrong_100 : decode cX6_isWrong 100 = .ok (.invokevirtual 106, 3) := by decide +kernel
theorem dX6_isWrong_103 : decode cX6_isWrong 103 = .ok (.ifCond .ne 7, 3) := by decide +kernel
theorem dX6_isWrong_106 : decode cX6_isWrong 106 = .ok (.iconst 1, 1) := by decide +kernel
theorem dX6_isWrong_107 : decode cX6_isWrong 107 = .ok (.goto 4, 3) := by decide +kernel
theorem dX6_isWrong_110 : decode cX6_isWrong 110 = .ok (.iconst 0, 1) := by decide +kernel
theorem dX6_isWrong_111 : decode cX6_isWrong 111 = .ok (.ireturn, 1) := by decide +kernel
theorem dX6_isWrong_112 : decode cX6_isWrong 112 = .ok (.iload 4, 2) := by decide +kernel
theorem dX6_isWrong_114 : decode cX6_isWrong 114 = .ok (.ifCond .ne 10, 3) := by decide +kernel
theorem dX6_isWrong_117 : decode cX6_isWrong 117 = .ok (.iload_n 3, 1) := by decide +kernel
theorem dX6_isWrong_118 : decode cX6_isWrong 118 = .ok (.invokestatic 109, 3) := by decide +kernel
theorem dX6_isWrong_121 : decode cX6_isWrong 121 = .ok (.goto 32, 3) := by decide +kernel
theorem dX6_isWrong_124 : decode cX6_isWrong 124 = .ok (.iload_n 3, 1) := by decide +kernel
theorem dX6_isWrong_125 : decode cX6_isWrong 125 = .ok (.invokestatic 109, 3) := by decide +kernel
theorem dX6_isWrong_128 : decode cX6_isWrong 128 = .ok (.ifCond .eq 20, 3) := by decide +kernel
theorem dX6_isWrong_131 : decode cX6_isWrong 131 = .ok (.iload 4, 2) := by decide +kernel
theorem dX6_isWrong_133 : decode cX6_isWrong 133 = .ok (.iconst 1, 1) := by decide +kernel
theorem dX6_isWrong_134 : decode cX6_isWrong 134 = .ok (.if_icmp .le 18, 3) := by decide +kernel
theorem dX6_isWrong_137 : decode cX6_isWrong 137 = .ok (.iload_n 3, 1) := by decide +kernel
theorem dX6_isWrong_138 : decode cX6_isWrong 138 = .ok (.invokestatic 112, 3) := by decide +kernel
theorem dX6_isWrong_141 : decode cX6_isWrong 141 = .ok (.iload 4, 2) := by decide +kernel
theorem dX6_isWrong_143 : decode cX6_isWrong 143 = .ok (.iconst 2, 1) := by decide +kernel
theorem dX6_isWrong_144 : decode cX6_isWrong 144 = .ok (.isub, 1) := by decide +kernel
theorem dX6_isWrong_145 : decode cX6_isWrong 145 = .ok (.if_icmp .eq 7, 3) := by decide +kernel
theorem dX6_isWrong_148 : decode cX6_isWrong 148 = .ok (.iconst 1, 1) := by decide +kernel
theorem dX6_isWrong_149 : decode cX6_isWrong 149 = .ok (.goto 4, 3) := by decide +kernel
theorem dX6_isWrong_152 : decode cX6_isWrong 152 = .ok (.iconst 0, 1) := by decide +kernel
theorem dX6_isWrong_153 : decode cX6_isWrong 153 = .ok (.ireturn, 1) := by decide +kernel
theorem dX6_isWrong_154 : decode cX6_isWrong 154 = .ok (.iload_n 3, 1) := by decide +kernel
theorem dX6_isWrong_155 : decode cX6_isWrong 155 = .ok (.invokestatic 109, 3) := by decide +kernel
theorem dX6_isWrong_158 : decode cX6_isWrong 158 = .ok (.ifCond .eq 21, 3) := by decide +kernel
theorem dX6_isWrong_161 : decode cX6_isWrong 161 = .ok (.iload_n 3, 1) := by decide +kernel
theorem dX6_isWrong_162 : decode cX6_isWrong 162 = .ok (.invokestatic 116, 3) := by decide +kernel
theorem dX6_isWrong_165 : decode cX6_isWrong 165 = .ok (.iload 4, 2) := by decide +kernel
theorem dX6_isWrong_167 : decode cX6_isWrong 167 = .ok (.if_icmp .lt 12, 3) := by decide +kernel
theorem dX6_isWrong_170 : decode cX6_isWrong 170 = .ok (.iload_n 3, 1) := by decide +kernel
theorem dX6_isWrong_171 : decode cX6_isWrong 171 = .ok (.invokestatic 116, 3) := by decide +kernel
theorem dX6_isWrong_174 : decode cX6_isWrong 174 = .ok (.iload 5, 2) := by decide +kernel
theorem dX6_isWrong_176 : decode cX6_isWrong 176 = .ok (.if_icmp .le 7, 3) := by decide +kernel
theorem dX6_isWrong_179 : decode cX6_isWrong 179 = .ok (.iconst 1, 1) := by decide +kernel
theorem dX6_isWrong_180 : decode cX6_isWrong 180 = .ok (.goto 4, 3) := by decide +kernel
theorem dX6_isWrong_183 : decode cX6_isWrong 183 = .ok (.iconst 0, 1) := by decide +kernel
theorem dX6_isWrong_184 : decode cX6_isWrong 184 = .ok (.ireturn, 1) := by decide +kernel
theorem dX6_isWrong_185 : decode cX6_isWrong 185 = .ok (.iload 4, 2) := by decide +kernel
theorem dX6_isWrong_187 : decode cX6_isWrong 187 = .ok (.iload_n 3, 1) := by decide +kernel
theorem dX6_isWrong_188 : decode cX6_isWrong 188 = .ok (.ishr, 1) := by decide +kernel
theorem dX6_isWrong_189 : decode cX6_isWrong 189 = .ok (.iconst 1, 1) := by decide +kernel
theorem dX6_isWrong_190 : decode cX6_isWrong 190 = .ok (.iand, 1) := by decide +kernel
theorem dX6_isWrong_191 : decode cX6_isWrong 191 = .ok (.ifCond .ne 7, 3) := by decide +kernel
theorem dX6_isWrong_194 : decode cX6_isWrong 194 = .ok (.iconst 1, 1) := by decide +kernel
theorem dX6_isWrong_195 : decode cX6_isWrong 195 = .ok (.goto 4, 3) := by decide +kernel
theorem dX6_isWrong_198 : decode cX6_isWrong 198 = .ok (.iconst 0, 1) := by decide +kernel
theorem dX6_isWrong_199 : decode cX6_isWrong 199 = .ok (.ireturn, 1) := by decide +kernel
theorem dX6_isWrong_200 : decode cX6_isWrong 200 = .ok (.aload_n 0, 1) := by decide +kernel
theorem dX6_isWrong_201 : decode cX6_isWrong 201 = .ok (.iload_n 2, 1) := by decide +kernel
theorem dX6_isWrong_202 : decode cX6_isWrong 202 = .ok (.iload 4, 2) := by decide +kernel
theorem dX6_isWrong_204 : decode cX6_isWrong 204 = .ok (.iload_n 3, 1) := by decide +kernel
theorem dX6_isWrong_205 : decode cX6_isWrong 205 = .ok (.invokevirtual 77, 3) := by decide +kernel
theorem dX6_isWrong_208 : decode cX6_isWrong 208 = .ok (.ireturn, 1) := by decide +kernel
theorem dX6_isWrong_209 : decode cX6_isWrong 209 = .ok (.iload_n 3, 1) := by decide +kernel
theorem dX6_isWrong_210 : decode cX6_isWrong 210 = .ok (.invokestatic 109, 3) := by decide +kernel
theorem dX6_isWrong_213 : decode cX6_isWrong 213 = .ok (.ifCond .eq 14, 3) := by decide +kernel
theorem dX6_isWrong_216 : decode cX6_isWrong 216 = .ok (.aload_n 0, 1) := by decide +kernel
theorem dX6_isWrong_217 : decode cX6_isWrong 217 = .ok (.iload_n 2, 1) := by decide +kernel
theorem dX6_isWrong_218 : decode cX6_isWrong 218 = .ok (.iload 4, 2) := by decide +kernel
theorem dX6_isWrong_220 : decode cX6_isWrong 220 = .ok (.iload_n 3, 1) := by decide +kernel
theorem dX6_isWrong_221 : decode cX6_isWrong 221 = .ok (.invokevirtual 119, 3) := by decide +kernel
theorem dX6_isWrong_224 : decode cX6_isWrong 224 = .ok (.ifCond .ne 7, 3) := by decide +kernel
theorem dX6_isWrong_227 : decode cX6_isWrong 227 = .ok (.iconst 1, 1) := by decide +kernel
theorem dX6_isWrong_228 : decode cX6_isWrong 228 = .ok (.goto 4, 3) := by decide +kernel
theorem dX6_isWrong_231 : decode cX6_isWrong 231 = .ok (.iconst 0, 1) := by decide +kernel
theorem dX6_isWrong_232 : decode cX6_isWrong 232 = .ok (.ireturn, 1) := by decide +kernel
theorem dX6_isWrong_233 : decode cX6_isWrong 233 = .ok (.aload_n 0, 1) := by decide +kernel
theorem dX6_isWrong_234 : decode cX6_isWrong 234 = .ok (.getfield 41, 3) := by decide +kernel
theorem dX6_isWrong_237 : decode cX6_isWrong 237 = .ok (.bipush 32, 2) := by decide +kernel
theorem dX6_isWrong_239 : decode cX6_isWrong 239 = .ok (.iload 4, 2) := by decide +kernel
theorem dX6_isWrong_241 : decode cX6_isWrong 241 = .ok (.imul, 1) := by decide +kernel
theorem dX6_isWrong_242 : decode cX6_isWrong 242 = .ok (.iload_n 3, 1) := by decide +kernel
theorem dX6_isWrong_243 : decode cX6_isWrong 243 = .ok (.iadd, 1) := by decide +kernel
theorem dX6_isWrong_244 : decode cX6_isWrong 244 = .ok (.baload, 1) := by decide +kernel
theorem dX6_isWrong_245 : decode cX6_isWrong 245 = .ok (.ireturn, 1) := by decide +kernel
theorem dX6_isWrong_246 : decode cX6_isWrong 246 = .ok (.aload_n 0, 1) := by decide +kernel
theorem dX6_isWrong_247 : decode cX6_isWrong 247 = .ok (.getfield 41, 3) := by decide +kernel
theorem dX6_isWrong_250 : decode cX6_isWrong 250 = .ok (.bipush 32, 2) := by decide +kernel
theorem dX6_isWrong_252 : decode cX6_isWrong 252 = .ok (.iload 4, 2) := by decide +kernel
theorem dX6_isWrong_254 : decode cX6_isWrong 254 = .ok (.imul, 1) := by decide +kernel
theorem dX6_isWrong_255 : decode cX6_isWrong 255 = .ok (.iload_n 3, 1) := by decide +kernel
theorem dX6_isWrong_256 : decode cX6_isWrong 256 = .ok (.iadd, 1) := by decide +kernel
theorem dX6_isWrong_257 : decode cX6_isWrong 257 = .ok (.baload, 1) := by decide +kernel
theorem dX6_isWrong_258 : decode cX6_isWrong 258 = .ok (.ifCond .eq 18, 3) := by decide +kernel
theorem dX6_isWrong_261 : decode cX6_isWrong 261 = .ok (.aload_n 0, 1) := by decide +kernel
theorem dX6_isWrong_262 : decode cX6_isWrong 262 = .ok (.getfield 41, 3) := by decide +kernel
theorem dX6_isWrong_265 : decode cX6_isWrong 265 = .ok (.bipush 32, 2) := by decide +kernel
theorem dX6_isWrong_267 : decode cX6_isWrong 267 = .ok (.iload 5, 2) := by decide +kernel
theorem dX6_isWrong_269 : decode cX6_isWrong 269 = .ok (.imul, 1) := by decide +kernel
theorem dX6_isWrong_270 : decode cX6_isWrong 270 = .ok (.iload_n 3, 1) := by decide +kernel
theorem dX6_isWrong_271 : decode cX6_isWrong 271 = .ok (.iadd, 1) := by decide +kernel
theorem dX6_isWrong_272 : decode cX6_isWrong 272 = .ok (.baload, 1) := by decide +kernel
theorem dX6_isWrong_273 : decode cX6_isWrong 273 = .ok (.ifCond .ne 7, 3) := by decide +kernel
theorem dX6_isWrong_276 : decode cX6_isWrong 276 = .ok (.iconst 1, 1) := by decide +kernel
theorem dX6_isWrong_277 : decode cX6_isWrong 277 = .ok (.goto 4, 3) := by decide +kernel
theorem dX6_isWrong_280 : decode cX6_isWrong 280 = .ok (.iconst 0, 1) := by decide +kernel
theorem dX6_isWrong_281 : decode cX6_isWrong 281 = .ok (.ireturn, 1) := by decide +kernel
theorem dX6_isWrong_282 : decode cX6_isWrong 282 = .ok (.aload_n 0, 1) := by decide +kernel
theorem dX6_isWrong_283 : decode cX6_isWrong 283 = .ok (.getfield 41, 3) := by decide +kernel
theorem dX6_isWrong_286 : decode cX6_isWrong 286 = .ok (.bipush 32, 2) := by decide +kernel
theorem dX6_isWrong_288 : decode cX6_isWrong 288 = .ok (.iload 4, 2) := by decide +kernel
theorem dX6_isWrong_290 : decode cX6_isWrong 290 = .ok (.imul, 1) := by decide +kernel
theorem dX6_isWrong_291 : decode cX6_isWrong 291 = .ok (.iload_n 3, 1) := by decide +kernel
theorem dX6_isWrong_292 : decode cX6_isWrong 292 = .ok (.iadd, 1) := by decide +kernel
theorem dX6_isWrong_293 : decode cX6_isWrong 293 = .ok (.baload, 1) := by decide +kernel
theorem dX6_isWrong_294 : decode cX6_isWrong 294 = .ok (.ifCond .ne 22, 3) := by decide +kernel
theorem dX6_isWrong_297 : decode cX6_isWrong 297 = .ok (.aload_n 0, 1) := by decide +kernel
theorem dX6_isWrong_298 : decode cX6_isWrong 298 = .ok (.getfield 41, 3) := by decide +kernel
theorem dX6_isWrong_301 : decode cX6_isWrong 301 = .ok (.bipush 32, 2) := by decide +kernel
theorem dX6_isWrong_303 : decode cX6_isWrong 303 = .ok (.iload 5, 2) := by decide +kernel
theorem dX6_isWrong_305 : decode cX6_isWrong 305 = .ok (.imul, 1) := by decide +kernel
theorem dX6_isWrong_306 : decode cX6_isWrong 306 = .ok (.iload_n 3, 1) := by decide +kernel
theorem dX6_isWrong_307 : decode cX6_isWrong 307 = .ok (.iadd, 1) := by decide +kernel
theorem dX6_isWrong_308 : decode cX6_isWrong 308 = .ok (.baload, 1) := by decide +kernel
theorem dX6_isWrong_309 : decode cX6_isWrong 309 = .ok (.ifCond .ne 7, 3) := by decide +kernel
theorem dX6_isWrong_312 : decode cX6_isWrong 312 = .ok (.iconst 1, 1) := by decide +kernel
theorem dX6_isWrong_313 : decode cX6_isWrong 313 = .ok (.goto 4, 3) := by decide +kernel
theorem dX6_isWrong_316 : decode cX6_isWrong 316 = .ok (.iconst 0, 1) := by decide +kernel
theorem dX6_isWrong_317 : decode cX6_isWrong 317 = .ok (.ireturn, 1) := by decide +kernel
theorem dX6_isWrong_318 : decode cX6_isWrong 318 = .ok (.aload_n 0, 1) := by decide +kernel
theorem dX6_isWrong_319 : decode cX6_isWrong 319 = .ok (.getfield 41, 3) := by decide +kernel
theorem dX6_isWrong_322 : decode cX6_isWrong 322 = .ok (.bipush 32, 2) := by decide +kernel
theorem dX6_isWrong_324 : decode cX6_isWrong 324 = .ok (.iload 4, 2) := by decide +kernel
theorem dX6_isWrong_326 : decode cX6_isWrong 326 = .ok (.imul, 1) := by decide +kernel
theorem dX6_isWrong_327 : decode cX6_isWrong 327 = .ok (.iload_n 3, 1) := by decide +kernel
theorem dX6_isWrong_328 : decode cX6_isWrong 328 = .ok (.iadd, 1) := by decide +kernel
theorem dX6_isWrong_329 : decode cX6_isWrong 329 = .ok (.baload, 1) := by decide +kernel
theorem dX6_isWrong_330 : decode cX6_isWrong 330 = .ok (.aload_n 0, 1) := by decide +kernel
theorem dX6_isWrong_331 : decode cX6_isWrong 331 = .ok (.getfield 41, 3) := by decide +kernel
theorem dX6_isWrong_334 : decode cX6_isWrong 334 = .ok (.bipush 32, 2) := by decide +kernel
theorem dX6_isWrong_336 : decode cX6_isWrong 336 = .ok (.iload 5, 2) := by decide +kernel
theorem dX6_isWrong_338 : decode cX6_isWrong 338 = .ok (.imul, 1) := by decide +kernel
theorem dX6_isWrong_339 : decode cX6_isWrong 339 = .ok (.iload_n 3, 1) := by decide +kernel
theorem dX6_isWrong_340 : decode cX6_isWrong 340 = .ok (.iadd, 1) := by decide +kernel
theorem dX6_isWrong_341 : decode cX6_isWrong 341 = .ok (.baload, 1) := by decide +kernel
theorem dX6_isWrong_342 : decode cX6_isWrong 342 = .ok (.if_icmp .ne 7, 3) := by decide +kernel
theorem dX6_isWrong_345 : decode cX6_isWrong 345 = .ok (.iconst 1, 1) := by decide +kernel
theorem dX6_isWrong_346 : decode cX6_isWrong 346 = .ok (.goto 4, 3) := by decide +kernel
theorem dX6_isWrong_349 : decode cX6_isWrong 349 = .ok (.iconst 0, 1) := by decide +kernel
theorem dX6_isWrong_350 : decode cX6_isWrong 350 = .ok (.ireturn, 1) := by decide +kernel
theorem dX6_isWrong_351 : decode cX6_isWrong 351 = .ok (.aload_n 0, 1) := by decide +kernel
theorem dX6_isWrong_352 : decode cX6_isWrong 352 = .ok (.getfield 41, 3) := by decide +kernel
theorem dX6_isWrong_355 : decode cX6_isWrong 355 = .ok (.bipush 32, 2) := by decide +kernel
theorem dX6_isWrong_357 : decode cX6_isWrong 357 = .ok (.iload 4, 2) := by decide +kernel
theorem dX6_isWrong_359 : decode cX6_isWrong 359 = .ok (.imul, 1) := by decide +kernel
theorem dX6_isWrong_360 : decode cX6_isWrong 360 = .ok (.iload_n 3, 1) := by decide +kernel
theorem dX6_isWrong_361 : decode cX6_isWrong 361 = .ok (.iadd, 1) := by decide +kernel
theorem dX6_isWrong_362 : decode cX6_isWrong 362 = .ok (.baload, 1) := by decide +kernel
theorem dX6_isWrong_363 : decode cX6_isWrong 363 = .ok (.ifCond .ne 7, 3) := by decide +kernel
theorem dX6_isWrong_366 : decode cX6_isWrong 366 = .ok (.iconst 1, 1) := by decide +kernel
theorem dX6_isWrong_367 : decode cX6_isWrong 367 = .ok (.goto 4, 3) := by decide +kernel
theorem dX6_isWrong_370 : decode cX6_isWrong 370 = .ok (.iconst 0, 1) := by decide +kernel
theorem dX6_isWrong_371 : decode cX6_isWrong 371 = .ok (.ireturn, 1) := by decide +kernel
theorem dX6_isBelowAll_0 : decode cX6_isBelowAll 0 = .ok (.iconst 1, 1) := by decide +kernel
theorem dX6_isBelowAll_1 : decode cX6_isBelowAll 1 = .ok (.istore 4, 2) := by decide +kernel
theorem dX6_isBelowAll_3 : decode cX6_isBelowAll 3 = .ok (.iconst 0, 1) := by decide +kernel
theorem dX6_isBelowAll_4 : decode cX6_isBelowAll 4 = .ok (.istore 5, 2) := by decide +kernel
theorem dX6_isBelowAll_6 : decode cX6_isBelowAll 6 = .ok (.iload 5, 2) := by decide +kernel
theorem dX6_isBelowAll_8 : decode cX6_isBelowAll 8 = .ok (.bipush 32, 2) := by decide +kernel
theorem dX6_isBelowAll_10 : decode cX6_isBelowAll 10 = .ok (.if_icmp .ge 52, 3) := by decide +kernel
theorem dX6_isBelowAll_13 : decode cX6_isBelowAll 13 = .ok (.iload 4, 2) := by decide +kernel
theorem dX6_isBelowAll_15 : decode cX6_isBelowAll 15 = .ok (.ifCond .eq 38, 3) := by decide +kernel
theorem dX6_isBelowAll_18 : decode cX6_isBelowAll 18 = .ok (.aload_n 0, 1) := by decide +kernel
theorem dX6_isBelowAll_19 : decode cX6_isBelowAll 19 = .ok (.iload_n 1, 1) := by decide +kernel
theorem dX6_isBelowAll_20 : decode cX6_isBelowAll 20 = .ok (.iload_n 2, 1) := by decide +kernel
theorem dX6_isBelowAll_21 : decode cX6_isBelowAll 21 = .ok (.iload 5, 2) := by decide +kernel
theorem dX6_isBelowAll_23 : decode cX6_isBelowAll 23 = .ok (.invokevirtual 77, 3) := by decide +kernel
theorem dX6_isBelowAll_26 : decode cX6_isBelowAll 26 = .ok (.ifCond .eq 23, 3) := by decide +kernel
theorem dX6_isBelowAll_29 : decode cX6_isBelowAll 29 = .ok (.iload 5, 2) := by decide +kernel
theorem dX6_isBelowAll_31 : decode cX6_isBelowAll 31 = .ok (.invokestatic 109, 3) := by decide +kernel
theorem dX6_isBelowAll_34 : decode cX6_isBelowAll 34 = .ok (.ifCond .eq 19, 3) := by decide +kernel
theorem dX6_isBelowAll_37 : decode cX6_isBelowAll 37 = .ok (.iload 5, 2) := by decide +kernel
theorem dX6_isBelowAll_39 : decode cX6_isBelowAll 39 = .ok (.invokestatic 116, 3) := by decide +kernel
theorem dX6_isBelowAll_42 : decode cX6_isBelowAll 42 = .ok (.iload_n 3, 1) := by decide +kernel
theorem dX6_isBelowAll_43 : decode cX6_isBelowAll 43 = .ok (.invokestatic 116, 3) := by decide +kernel
theorem dX6_isBelowAll_46 : decode cX6_isBelowAll 46 = .ok (.if_icmp .le 7, 3) := by decide +kernel
theorem dX6_isBelowAll_49 : decode cX6_isBelowAll 49 = .ok (.iconst 1, 1) := by decide +kernel
theorem dX6_isBelowAll_50 : decode cX6_isBelowAll 50 = .ok (.goto 4, 3) := by decide +kernel
theorem dX6_isBelowAll_53 : decode cX6_isBelowAll 53 = .ok (.iconst 0, 1) := by decide +kernel
theorem dX6_isBelowAll_54 : decode cX6_isBelowAll 54 = .ok (.istore 4, 2) := by decide +kernel
theorem dX6_isBelowAll_56 : decode cX6_isBelowAll 56 = .ok (.iinc 5 1, 3) := by decide +kernel
theorem dX6_isBelowAll_59 : decode cX6_isBelowAll 59 = .ok (.goto (-53), 3) := by decide +kernel
theorem dX6_isBelowAll_62 : decode cX6_isBelowAll 62 = .ok (.iload 4, 2) := by decide +kernel
theorem dX6_isBelowAll_64 : decode cX6_isBelowAll 64 = .ok (.ireturn, 1) := by decide +kernel
theorem dX6_look_0 : decode cX6_look 0 = .ok (.aload_n 0, 1) := by decide +kernel
theorem dX6_look_1 : decode cX6_look 1 = .ok (.getfield 29, 3) := by decide +kernel
theorem dX6_look_4 : decode cX6_look 4 = .ok (.iload_n 1, 1) := by decide +kernel
theorem dX6_look_5 : decode cX6_look 5 = .ok (.iaload, 1) := by decide +kernel
theorem dX6_look_6 : decode cX6_look 6 = .ok (.istore_n 3, 1) := by decide +kernel
theorem dX6_look_7 : decode cX6_look 7 = .ok (.aload_n 0, 1) := by decide +kernel
theorem dX6_look_8 : decode cX6_look 8 = .ok (.getfield 35, 3) := by decide +kernel
theorem dX6_look_11 : decode cX6_look 11 = .ok (.iload_n 1, 1) := by decide +kernel
theorem dX6_look_12 : decode cX6_look 12 = .ok (.iaload, 1) := by decide +kernel
theorem dX6_look_13 : decode cX6_look 13 = .ok (.istore 4, 2) := by decide +kernel
theorem dX6_look_15 : decode cX6_look 15 = .ok (.iconst 0, 1) := by decide +kernel
theorem dX6_look_16 : decode cX6_look 16 = .ok (.istore 5, 2) := by decide +kernel
theorem dX6_look_18 : decode cX6_look 18 = .ok (.iconst 0, 1) := by decide +kernel
theorem dX6_look_19 : decode cX6_look 19 = .ok (.istore 6, 2) := by decide +kernel
theorem dX6_look_21 : decode cX6_look 21 = .ok (.iconst 0, 1) := by decide +kernel
theorem dX6_look_22 : decode cX6_look 22 = .ok (.istore 7, 2) := by decide +kernel
theorem dX6_look_24 : decode cX6_look 24 = .ok (.iload 7, 2) := by decide +kernel
theorem dX6_look_26 : decode cX6_look 26 = .ok (.bipush 32, 2) := by decide +kernel
theorem dX6_look_28 : decode cX6_look 28 = .ok (.if_icmp .gt 17, 3) := by decide +kernel
theorem dX6_look_31 : decode cX6_look 31 = .ok (.aload_n 0, 1) := by decide +kernel
theorem dX6_look_32 : decode cX6_look 32 = .ok (.getfield 56, 3) := by decide +kernel
theorem dX6_look_35 : decode cX6_look 35 = .ok (.iload 7, 2) := by decide +kernel
theorem dX6_look_37 : decode cX6_look 37 = .ok (.iconst 0, 1) := by decide +kernel
theorem dX6_look_38 : decode cX6_look 38 = .ok (.bastore, 1) := by decide +kernel
theorem dX6_look_39 : decode cX6_look 39 = .ok (.iinc 7 1, 3) := by decide +kernel
theorem dX6_look_42 : decode cX6_look 42 = .ok (.goto (-18), 3) := by decide +kernel
theorem dX6_look_45 : decode cX6_look 45 = .ok (.iconst 0, 1) := by decide +kernel
theorem dX6_look_46 : decode cX6_look 46 = .ok (.istore 7, 2) := by decide +kernel
theorem dX6_look_48 : decode cX6_look 48 = .ok (.iload 7, 2) := by decide +kernel
theorem dX6_look_50 : decode cX6_look 50 = .ok (.bipush 32, 2) := by decide +kernel
theorem dX6_look_52 : decode cX6_look 52 = .ok (.if_icmp .ge 91, 3) := by decide +kernel
theorem dX6_look_55 : decode cX6_look 55 = .ok (.aload_n 0, 1) := by decide +kernel
theorem dX6_look_56 : decode cX6_look 56 = .ok (.getfield 53, 3) := by decide +kernel
theorem dX6_look_59 : decode cX6_look 59 = .ok (.iload 7, 2) := by decide +kernel
theorem dX6_look_61 : decode cX6_look 61 = .ok (.aload_n 0, 1) := by decide +kernel
theorem dX6_look_62 : decode cX6_look 62 = .ok (.iload_n 2, 1) := by decide +kernel
theorem dX6_look_63 : decode cX6_look 63 = .ok (.iload_n 3, 1) := by decide +kernel
theorem dX6_look_64 : decode cX6_look 64 = .ok (.iload 7, 2) := by decide +kernel
theorem dX6_look_66 : decode cX6_look 66 = .ok (.invokevirtual 122, 3) := by decide +kernel
theorem dX6_look_69 : decode cX6_look 69 = .ok (.bastore, 1) := by decide +kernel
theorem dX6_look_70 : decode cX6_look 70 = .ok (.iload 5, 2) := by decide +kernel
theorem dX6_look_72 : decode cX6_look 72 = .ok (.aload_n 0, 1) := by decide +kernel
theorem dX6_look_73 : decode cX6_look 73 = .ok (.getfield 53, 3) := by decide +kernel
theorem dX6_look_76 : decode cX6_look 76 = .ok (.iload 7, 2) := by decide +kernel
theorem dX6_look_78 : decode cX6_look 78 = .ok (.baload, 1) := by decide +kernel
theorem dX6_look_79 : decode cX6_look 79 = .ok (.ifCond .eq 7, 3) := by decide +kernel
theorem dX6_look_82 : decode cX6_look 82 = .ok (.iconst 1, 1) := by decide +kernel
theorem dX6_look_83 : decode cX6_look 83 = .ok (.goto 4, 3) := by decide +kernel
theorem dX6_look_86 : decode cX6_look 86 = .ok (.iconst 0, 1) := by decide +kernel
theorem dX6_look_87 : decode cX6_look 87 = .ok (.iadd, 1) := by decide +kernel
theorem dX6_look_88 : decode cX6_look 88 = .ok (.istore 5, 2) := by decide +kernel
theorem dX6_look_90 : decode cX6_look 90 = .ok (.iload 6, 2) := by decide +kernel
theorem dX6_look_92 : decode cX6_look 92 = .ok (.aload_n 0, 1) := by decide +kernel
theorem dX6_look_93 : decode cX6_look 93 = .ok (.getfield 53, 3) := by decide +kernel
theorem dX6_look_96 : decode cX6_look 96 = .ok (.iload 7, 2) := by decide +kernel
theorem dX6_look_98 : decode cX6_look 98 = .ok (.baload, 1) := by decide +kernel
theorem dX6_look_99 : decode cX6_look 99 = .ok (.ifCond .eq 34, 3) := by decide +kernel
theorem dX6_look_102 : decode cX6_look 102 = .ok (.aload_n 0, 1) := by decide +kernel
theorem dX6_look_103 : decode cX6_look 103 = .ok (.getfield 32, 3) := by decide +kernel
theorem dX6_look_106 : decode cX6_look 106 = .ok (.iload_n 1, 1) := by decide +kernel
theorem dX6_look_107 : decode cX6_look 107 = .ok (.iaload, 1) := by decide +kernel
theorem dX6_look_108 : decode cX6_look 108 = .ok (.bipush 17, 2) := by decide +kernel
theorem dX6_look_110 : decode cX6_look 110 = .ok (.if_icmp .ne 23, 3) := by decide +kernel
theorem dX6_look_113 : decode cX6_look 113 = .ok (.aload_n 0, 1) := by decide +kernel
theorem dX6_look_114 : decode cX6_look 114 = .ok (.getfield 41, 3) := by decide +kernel
theorem dX6_look_117 : decode cX6_look 117 = .ok (.bipush 32, 2) := by decide +kernel
theorem dX6_look_119 : decode cX6_look 119 = .ok (.iload 4, 2) := by decide +kernel
theorem dX6_look_121 : decode cX6_look 121 = .ok (.imul, 1) := by decide +kernel
theorem dX6_look_122 : decode cX6_look 122 = .ok (.iload 7, 2) := by decide +kernel
theorem dX6_look_124 : decode cX6_look 124 = .ok (.iadd, 1) := by decide +kernel
theorem dX6_look_125 : decode cX6_look 125 = .ok (.baload, 1) := by decide +kernel
theorem dX6_look_126 : decode cX6_look 126 = .ok (.ifCond .eq 7, 3) := by decide +kernel
theorem dX6_look_129 : decode cX6_look 129 = .ok (.iconst 1, 1) := by decide +kernel
theorem dX6_look_130 : decode cX6_look 130 = .ok (.goto 4, 3) := by decide +kernel
theorem dX6_look_133 : decode cX6_look 133 = .ok (.iconst 0, 1) := by decide +kernel
theorem dX6_look_134 : decode cX6_look 134 = .ok (.iadd, 1) := by decide +kernel
theorem dX6_look_135 : decode cX6_look 135 = .ok (.istore 6, 2) := by decide +kernel
theorem dX6_look_137 : decode cX6_look 137 = .ok (.iinc 7 1, 3) := by decide +kernel
theorem dX6_look_140 : decode cX6_look 140 = .ok (.goto (-92), 3) := by decide +kernel
theorem dX6_look_143 : decode cX6_look 143 = .ok (.aload_n 0, 1) := by decide +kernel
theorem dX6_look_144 : decode cX6_look 144 = .ok (.getfield 32, 3) := by decide +kernel
theorem dX6_look_147 : decode cX6_look 147 = .ok (.iload_n 1, 1) := by decide +kernel
theorem dX6_look_148 : decode cX6_look 148 = .ok (.iaload, 1) := by decide +kernel
theorem dX6_look_149 : decode cX6_look 149 = .ok (.tableswitch 245 2 17 #[79, 245, 245, 111, 135, 245, 245, 187, 194, 245, 245, 245, 245, 245, 245, 203], 79) := by decide +kernel
theorem dX6_look_228 : decode cX6_look 228 = .ok (.aload_n 0, 1) := by decide +kernel
theorem dX6_look_229 : decode cX6_look 229 = .ok (.getfield 56, 3) := by decide +kernel
theorem dX6_look_232 : decode cX6_look 232 = .ok (.iconst 0, 1) := by decide +kernel
theorem dX6_look_233 : decode cX6_look 233 = .ok (.iload 5, 2) := by decide +kernel
theorem dX6_look_235 : decode cX6_look 235 = .ok (.iload 4, 2) := by decide +kernel
theorem dX6_look_237 : decode cX6_look 237 = .ok (.if_icmp .lt 14, 3) := by decide +kernel
theorem dX6_look_240 : decode cX6_look 240 = .ok (.iload 5, 2) := by decide +kernel
theorem dX6_look_242 : decode cX6_look 242 = .ok (.aload_n 0, 1) := by decide +kernel
theorem dX6_look_243 : decode cX6_look 243 = .ok (.getfield 38, 3) := by decide +kernel
theorem dX6_look_246 : decode cX6_look 246 = .ok (.iload_n 1, 1) := by decide +kernel
theorem dX6_look_247 : decode cX6_look 247 = .ok (.iaload, 1) := by decide +kernel
theorem dX6_look_248 : decode cX6_look 248 = .ok (.if_icmp .le 7, 3) := by decide +kernel
theorem dX6_look_251 : decode cX6_look 251 = .ok (.iconst 1, 1) := by decide +kernel
theorem dX6_look_252 : decode cX6_look 252 = .ok (.goto 4, 3) := by decide +kernel
theorem dX6_look_255 : decode cX6_look 255 = .ok (.iconst 0, 1) := by decide +kernel
theorem dX6_look_256 : decode cX6_look 256 = .ok (.bastore, 1) := by decide +kernel
theorem dX6_look_257 : decode cX6_look 257 = .ok (.goto 188, 3) := by decide +kernel
theorem dX6_look_260 : decode cX6_look 260 = .ok (.aload_n 0, 1) := by decide +kernel
theorem dX6_look_261 : decode cX6_look 261 = .ok (.getfield 56, 3) := by decide +kernel
theorem dX6_look_264 : decode cX6_look 264 = .ok (.iconst 0, 1) := by decide +kernel
theorem dX6_look_265 : decode cX6_look 265 = .ok (.aload_n 0, 1) := by decide +kernel
theorem dX6_look_266 : decode cX6_look 266 = .ok (.getfield 53, 3) := by decide +kernel
theorem dX6_look_269 : decode cX6_look 269 = .ok (.iload 4, 2) := by decide +kernel
theorem dX6_look_271 : decode cX6_look 271 = .ok (.baload, 1) := by decide +kernel
theorem dX6_look_272 : decode cX6_look 272 = .ok (.ifCond .ne 7, 3) := by decide +kernel
theorem dX6_look_275 : decode cX6_look 275 = .ok (.iconst 1, 1) := by decide +kernel
theorem dX6_look_276 : decode cX6_look 276 = .ok (.goto 4, 3) := by decide +kernel
theorem dX6_look_279 : decode cX6_look 279 = .ok (.iconst 0, 1) := by decide +kernel
theorem dX6_look_280 : decode cX6_look 280 = .ok (.bastore, 1) := by decide +kernel
theorem dX6_look_281 : decode cX6_look 281 = .ok (.goto 164, 3) := by decide +kernel
theorem dX6_look_284 : decode cX6_look 284 = .ok (.iconst 0, 1) := by decide +kernel
theorem dX6_look_285 : decode cX6_look 285 = .ok (.istore 7, 2) := by decide +kernel
theorem dX6_look_287 : decode cX6_look 287 = .ok (.iload 7, 2) := by decide +kernel
theorem dX6_look_289 : decode cX6_look 289 = .ok (.bipush 32, 2) := by decide +kernel
theorem dX6_look_291 : decode cX6_look 291 = .ok (.if_icmp .ge 42, 3) := by decide +kernel
theorem dX6_look_294 : decode cX6_look 294 = .ok (.aload_n 0, 1) := by decide +kernel
theorem dX6_look_295 : decode cX6_look 295 = .ok (.getfield 56, 3) := by decide +kernel
theorem dX6_look_298 : decode cX6_look 298 = .ok (.iload 7, 2) := by decide +kernel
theorem dX6_look_300 : decode cX6_look 300 = .ok (.iconst 1, 1) := by decide +kernel
theorem dX6_look_301 : decode cX6_look 301 = .ok (.iadd, 1) := by decide +kernel
theorem dX6_look_302 : decode cX6_look 302 = .ok (.aload_n 0, 1) := by decide +kernel
theorem dX6_look_303 : decode cX6_look 303 = .ok (.getfield 53, 3) := by decide +kernel
theorem dX6_look_306 : decode cX6_look 306 = .ok (.iload 7, 2) := by decide +kernel
theorem dX6_look_308 : decode cX6_look 308 = .ok (.baload, 1) := by decide +kernel
theorem dX6_look_309 : decode cX6_look 309 = .ok (.aload_n 0, 1) := by decide +kernel
theorem dX6_look_310 : decode cX6_look 310 = .ok (.iload_n 2, 1) := by decide +kernel
theorem dX6_look_311 : decode cX6_look 311 = .ok (.iload 4, 2) := by decide +kernel
theorem dX6_look_313 : decode cX6_look 313 = .ok (.iload 7, 2) := by decide +kernel
theorem dX6_look_315 : decode cX6_look 315 = .ok (.invokevirtual 77, 3) := by decide +kernel
theorem dX6_look_318 : decode cX6_look 318 = .ok (.if_icmp .eq 7, 3) := by decide +kernel
theorem dX6_look_321 : decode cX6_look 321 = .ok (.iconst 1, 1) := by decide +kernel
theorem dX6_look_322 : decode cX6_look 322 = .ok (.goto 4, 3) := by decide +kernel
theorem dX6_look_325 : decode cX6_look 325 = .ok (.iconst 0, 1) := by decide +kernel
theorem dX6_look_326 : decode cX6_look 326 = .ok (.bastore, 1) := by decide +kernel
theorem dX6_look_327 : decode cX6_look 327 = .ok (.iinc 7 1, 3) := by decide +kernel
theorem dX6_look_330 : decode cX6_look 330 = .ok (.goto (-43), 3) := by decide +kernel
theorem dX6_look_333 : decode cX6_look 333 = .ok (.goto 112, 3) := by decide +kernel
theorem dX6_look_336 : decode cX6_look 336 = .ok (.aload_n 0, 1) := by decide +kernel
theorem dX6_look_337 : decode cX6_look 337 = .ok (.invokevirtual 125, 3) := by decide +kernel
theorem dX6_look_340 : decode cX6_look 340 = .ok (.goto 105, 3) := by decide +kernel
theorem dX6_look_343 : decode cX6_look 343 = .ok (.aload_n 0, 1) := by decide +kernel
theorem dX6_look_344 : decode cX6_look 344 = .ok (.iload 4, 2) := by decide +kernel
theorem dX6_look_346 : decode cX6_look 346 = .ok (.invokevirtual 128, 3) := by decide +kernel
theorem dX6_look_349 : decode cX6_look 349 = .ok (.goto 96, 3) := by decide +kernel
theorem dX6_look_352 : decode cX6_look 352 = .ok (.aload_n 0, 1) := by decide +kernel
theorem dX6_look_353 : decode cX6_look 353 = .ok (.getfield 56, 3) := by decide +kernel
theorem dX6_look_356 : decode cX6_look 356 = .ok (.iconst 0, 1) := by decide +kernel
theorem dX6_look_357 : decode cX6_look 357 = .ok (.iload 6, 2) := by decide +kernel
theorem dX6_look_359 : decode cX6_look 359 = .ok (.aload_n 0, 1) := by decide +kernel
theorem dX6_look_360 : decode cX6_look 360 = .ok (.getfield 38, 3) := by decide +kernel
theorem dX6_look_363 : decode cX6_look 363 = .ok (.iload_n 1, 1) := by decide +kernel
theorem dX6_look_364 : decode cX6_look 364 = .ok (.iaload, 1) := by decide +kernel
theorem dX6_look_365 : decode cX6_look 365 = .ok (.bipush 16, 2) := by decide +kernel
theorem dX6_look_367 : decode cX6_look 367 = .ok (.idiv, 1) := by decide +kernel
theorem dX6_look_368 : decode cX6_look 368 = .ok (.if_icmp .lt 17, 3) := by decide +kernel
theorem dX6_look_371 : decode cX6_look 371 = .ok (.iload 6, 2) := by decide +kernel
theorem dX6_look_373 : decode cX6_look 373 = .ok (.aload_n 0, 1) := by decide +kernel
theorem dX6_look_374 : decode cX6_look 374 = .ok (.getfield 38, 3) := by decide +kernel
theorem dX6_look_377 : decode cX6_look 377 = .ok (.iload_n 1, 1) := by decide +kernel
theorem dX6_look_378 : decode cX6_look 378 = .ok (.iaload, 1) := by decide +kernel
theorem dX6_look_379 : decode cX6_look 379 = .ok (.bipush 16, 2) := by decide +kernel
theorem dX6_look_381 : decode cX6_look 381 = .ok (.irem, 1) := by decide +kernel
theorem dX6_look_382 : decode cX6_look 382 = .ok (.if_icmp .le 7, 3) := by decide +kernel
theorem dX6_look_385 : decode cX6_look 385 = .ok (.iconst 1, 1) := by decide +kernel
theorem dX6_look_386 : decode cX6_look 386 = .ok (.goto 4, 3) := by decide +kernel
theorem dX6_look_389 : decode cX6_look 389 = .ok (.iconst 0, 1) := by decide +kernel
theorem dX6_look_390 : decode cX6_look 390 = .ok (.bastore, 1) := by decide +kernel
theorem dX6_look_391 : decode cX6_look 391 = .ok (.goto 54, 3) := by decide +kernel
theorem dX6_look_394 : decode cX6_look 394 = .ok (.iconst 0, 1) := by decide +kernel
theorem dX6_look_395 : decode cX6_look 395 = .ok (.istore 7, 2) := by decide +kernel
theorem dX6_look_397 : decode cX6_look 397 = .ok (.iload 7, 2) := by decide +kernel
theorem dX6_look_399 : decode cX6_look 399 = .ok (.bipush 32, 2) := by decide +kernel
theorem dX6_look_401 : decode cX6_look 401 = .ok (.if_icmp .ge 44, 3) := by decide +kernel
theorem dX6_look_404 : decode cX6_look 404 = .ok (.aload_n 0, 1) := by decide +kernel
theorem dX6_look_405 : decode cX6_look 405 = .ok (.getfield 56, 3) := by decide +kernel
theorem dX6_look_408 : decode cX6_look 408 = .ok (.iload 7, 2) := by decide +kernel
theorem dX6_look_410 : decode cX6_look 410 = .ok (.iconst 1, 1) := by decide +kernel
theorem dX6_look_411 : decode cX6_look 411 = .ok (.iadd, 1) := by decide +kernel
theorem dX6_look_412 : decode cX6_look 412 = .ok (.aload_n 0, 1) := by decide +kernel
theorem dX6_look_413 : decode cX6_look 413 = .ok (.getfield 53, 3) := by decide +kernel
theorem dX6_look_416 : decode cX6_look 416 = .ok (.iload 7, 2) := by decide +kernel
theorem dX6_look_418 : decode cX6_look 418 = .ok (.baload, 1) := by decide +kernel
theorem dX6_look_419 : decode cX6_look 419 = .ok (.ifCond .eq 18, 3) := by decide +kernel
theorem dX6_look_422 : decode cX6_look 422 = .ok (.aload_n 0, 1) := by decide +kernel
theorem dX6_look_423 : decode cX6_look 423 = .ok (.iload_n 1, 1) := by decide +kernel
theorem dX6_look_424 : decode cX6_look 424 = .ok (.iload_n 2, 1) := by decide +kernel
theorem dX6_look_425 : decode cX6_look 425 = .ok (.iload 7, 2) := by decide +kernel
theorem dX6_look_427 : decode cX6_look 427 = .ok (.invokevirtual 132, 3) := by decide +kernel
theorem dX6_look_430 : decode cX6_look 430 = .ok (.ifCond .eq 7, 3) := by decide +kernel
theorem dX6_look_433 : decode cX6_look 433 = .ok (.iconst 1, 1) := by decide +kernel
theorem dX6_look_434 : decode cX6_look 434 = .ok (.goto 4, 3) := by decide +kernel
theorem dX6_look_437 : decode cX6_look 437 = .ok (.iconst 0, 1) := by decide +kernel
theorem dX6_look_438 : decode cX6_look 438 = .ok (.bastore, 1) := by decide +kernel
theorem dX6_look_439 : decode cX6_look 439 = .ok (.iinc 7 1, 3) := by decide +kernel
theorem dX6_look_442 : decode cX6_look 442 = .ok (.goto (-45), 3) := by decide +kernel
theorem dX6_look_445 : decode cX6_look 445 = .ok (.iconst 0, 1) := by decide +kernel
theorem dX6_look_446 : decode cX6_look 446 = .ok (.istore 7, 2) := by decide +kernel
theorem dX6_look_448 : decode cX6_look 448 = .ok (.iconst 0, 1) := by decide +kernel
theorem dX6_look_449 : decode cX6_look 449 = .ok (.istore 8, 2) := by decide +kernel
theorem dX6_look_451 : decode cX6_look 451 = .ok (.iload 8, 2) := by decide +kernel
theorem dX6_look_453 : decode cX6_look 453 = .ok (.bipush 32, 2) := by decide +kernel
theorem dX6_look_455 : decode cX6_look 455 = .ok (.if_icmp .gt 31, 3) := by decide +kernel
theorem dX6_look_458 : decode cX6_look 458 = .ok (.iload 7, 2) := by decide +kernel
theorem dX6_look_460 : decode cX6_look 460 = .ok (.ifCond .ne 13, 3) := by decide +kernel
theorem dX6_look_463 : decode cX6_look 463 = .ok (.aload_n 0, 1) := by decide +kernel
theorem dX6_look_464 : decode cX6_look 464 = .ok (.getfield 56, 3) := by decide +kernel
theorem dX6_look_467 : decode cX6_look 467 = .ok (.iload 8, 2) := by decide +kernel
theorem dX6_look_469 : decode cX6_look 469 = .ok (.baload, 1) := by decide +kernel
theorem dX6_look_470 : decode cX6_look 470 = .ok (.ifCond .eq 7, 3) := by decide +kernel
theorem dX6_look_473 : decode cX6_look 473 = .ok (.iconst 1, 1) := by decide +kernel
theorem dX6_look_474 : decode cX6_look 474 = .ok (.goto 4, 3) := by decide +kernel
theorem dX6_look_477 : decode cX6_look 477 = .ok (.iconst 0, 1) := by decide +kernel
theorem dX6_look_478 : decode cX6_look 478 = .ok (.istore 7, 2) := by decide +kernel
theorem dX6_look_480 : decode cX6_look 480 = .ok (.iinc 8 1, 3) := by decide +kernel
theorem dX6_look_483 : decode cX6_look 483 = .ok (.goto (-32), 3) := by decide +kernel
theorem dX6_look_486 : decode cX6_look 486 = .ok (.iload 7, 2) := by decide +kernel
theorem dX6_look_488 : decode cX6_look 488 = .ok (.ireturn, 1) := by decide +kernel
theorem dX6_lookAtTags_0 : decode cX6_lookAtTags 0 = .ok (.iconst 0, 1) := by decide +kernel
theorem dX6_lookAtTags_1 : decode cX6_lookAtTags 1 = .ok (.istore_n 1, 1) := by decide +kernel
theorem dX6_lookAtTags_2 : decode cX6_lookAtTags 2 = .ok (.iload_n 1, 1) := by decide +kernel
theorem dX6_lookAtTags_3 : decode cX6_lookAtTags 3 = .ok (.iconst 2, 1) := by decide +kernel
theorem dX6_lookAtTags_4 : decode cX6_lookAtTags 4 = .ok (.if_icmp .ge 69, 3) := by decide +kernel
theorem dX6_lookAtTags_7 : decode cX6_lookAtTags 7 = .ok (.iconst (-1), 1) := by decide +kernel
theorem dX6_lookAtTags_8 : decode cX6_lookAtTags 8 = .ok (.istore_n 2, 1) := by decide +kernel
theorem dX6_lookAtTags_9 : decode cX6_lookAtTags 9 = .ok (.iconst 0, 1) := by decide +kernel
theorem dX6_lookAtTags_10 : decode cX6_lookAtTags 10 = .ok (.istore_n 3, 1) := by decide +kernel
theorem dX6_lookAtTags_11 : decode cX6_lookAtTags 11 = .ok (.bipush 31, 2) := by decide +kernel
theorem dX6_lookAtTags_13 : decode cX6_lookAtTags 13 = .ok (.istore 4, 2) := by decide +kernel
theorem dX6_lookAtTags_15 : decode cX6_lookAtTags 15 = .ok (.iload 4, 2) := by decide +kernel
theorem dX6_lookAtTags_17 : decode cX6_lookAtTags 17 = .ok (.bipush 20, 2) := by decide +kernel
theorem dX6_lookAtTags_19 : decode cX6_lookAtTags 19 = .ok (.if_icmp .lt 34, 3) := by decide +kernel
theorem dX6_lookAtTags_22 : decode cX6_lookAtTags 22 = .ok (.aload_n 0, 1) := by decide +kernel
theorem dX6_lookAtTags_23 : decode cX6_lookAtTags 23 = .ok (.getfield 53, 3) := by decide +kernel
theorem dX6_lookAtTags_26 : decode cX6_lookAtTags 26 = .ok (.iload 4, 2) := by decide +kernel
theorem dX6_lookAtTags_28 : decode cX6_lookAtTags 28 = .ok (.baload, 1) := by decide +kernel
theorem dX6_lookAtTags_29 : decode cX6_lookAtTags 29 = .ok (.ifCond .eq 18, 3) := by decide +kernel
theorem dX6_lookAtTags_32 : decode cX6_lookAtTags 32 = .ok (.iload 4, 2) := by decide +kernel
theorem dX6_lookAtTags_34 : decode cX6_lookAtTags 34 = .ok (.invokestatic 112, 3) := by decide +kernel
theorem dX6_lookAtTags_37 : decode cX6_lookAtTags 37 = .ok (.iload_n 1, 1) := by decide +kernel
theorem dX6_lookAtTags_38 : decode cX6_lookAtTags 38 = .ok (.if_icmp .ne 9, 3) := by decide +kernel
theorem dX6_lookAtTags_41 : decode cX6_lookAtTags 41 = .ok (.iload 4, 2) := by decide +kernel
theorem dX6_lookAtTags_43 : decode cX6_lookAtTags 43 = .ok (.istore_n 2, 1) := by decide +kernel
theorem dX6_lookAtTags_44 : decode cX6_lookAtTags 44 = .ok (.iinc 3 1, 3) := by decide +kernel
theorem dX6_lookAtTags_47 : decode cX6_lookAtTags 47 = .ok (.iinc 4 (-1), 3) := by decide +kernel
theorem dX6_lookAtTags_50 : decode cX6_lookAtTags 50 = .ok (.goto (-35), 3) := by decide +kernel
theorem dX6_lookAtTags_53 : decode cX6_lookAtTags 53 = .ok (.iload_n 3, 1) := by decide +kernel
theorem dX6_lookAtTags_54 : decode cX6_lookAtTags 54 = .ok (.iconst 1, 1) := by decide +kernel
theorem dX6_lookAtTags_55 : decode cX6_lookAtTags 55 = .ok (.if_icmp .le 12, 3) := by decide +kernel
theorem dX6_lookAtTags_58 : decode cX6_lookAtTags 58 = .ok (.aload_n 0, 1) := by decide +kernel
theorem dX6_lookAtTags_59 : decode cX6_lookAtTags 59 = .ok (.getfield 56, 3) := by decide +kernel
theorem dX6_lookAtTags_62 : decode cX6_lookAtTags 62 = .ok (.iload_n 2, 1) := by decide +kernel
theorem dX6_lookAtTags_63 : decode cX6_lookAtTags 63 = .ok (.iconst 1, 1) := by decide +kernel
theorem dX6_lookAtTags_64 : decode cX6_lookAtTags 64 = .ok (.iadd, 1) := by decide +kernel
theorem dX6_lookAtTags_65 : decode cX6_lookAtTags 65 = .ok (.iconst 1, 1) := by decide +kernel
theorem dX6_lookAtTags_66 : decode cX6_lookAtTags 66 = .ok (.bastore, 1) := by decide +kernel
theorem dX6_lookAtTags_67 : decode cX6_lookAtTags 67 = .ok (.iinc 1 1, 3) := by decide +kernel
theorem dX6_lookAtTags_70 : decode cX6_lookAtTags 70 = .ok (.goto (-68), 3) := by decide +kernel
theorem dX6_lookAtTags_73 : decode cX6_lookAtTags 73 = .ok (.return_, 1) := by decide +kernel
theorem dX6_lookAtOthers_0 : decode cX6_lookAtOthers 0 = .ok (.iconst 0, 1) := by decide +kernel
theorem dX6_lookAtOthers_1 : decode cX6_lookAtOthers 1 = .ok (.istore_n 2, 1) := by decide +kernel
theorem dX6_lookAtOthers_2 : decode cX6_lookAtOthers 2 = .ok (.iload_n 2, 1) := by decide +kernel
theorem dX6_lookAtOthers_3 : decode cX6_lookAtOthers 3 = .ok (.bipush 20, 2) := by decide +kernel
theorem dX6_lookAtOthers_5 : decode cX6_lookAtOthers 5 = .ok (.if_icmp .ge 93, 3) := by decide +kernel
theorem dX6_lookAtOthers_8 : decode cX6_lookAtOthers 8 = .ok (.iconst 0, 1) := by decide +kernel
theorem dX6_lookAtOthers_9 : decode cX6_lookAtOthers 9 = .ok (.istore_n 3, 1) := by decide +kernel
theorem dX6_lookAtOthers_10 : decode cX6_lookAtOthers 10 = .ok (.iload_n 3, 1) := by decide +kernel
theorem dX6_lookAtOthers_11 : decode cX6_lookAtOthers 11 = .ok (.bipush 8, 2) := by decide +kernel
theorem dX6_lookAtOthers_13 : decode cX6_lookAtOthers 13 = .ok (.if_icmp .ge 79, 3) := by decide +kernel
theorem dX6_lookAtOthers_16 : decode cX6_lookAtOthers 16 = .ok (.aload_n 0, 1) := by decide +kernel
theorem dX6_lookAtOthers_17 : decode cX6_lookAtOthers 17 = .ok (.getfield 53, 3) := by decide +kernel
theorem dX6_lookAtOthers_20 : decode cX6_lookAtOthers 20 = .ok (.iload_n 2, 1) := by decide +kernel
theorem dX6_lookAtOthers_21 : decode cX6_lookAtOthers 21 = .ok (.baload, 1) := by decide +kernel
theorem dX6_lookAtOthers_22 : decode cX6_lookAtOthers 22 = .ok (.ifCond .eq 70, 3) := by decide +kernel
theorem dX6_lookAtOthers_25 : decode cX6_lookAtOthers 25 = .ok (.iconst 0, 1) := by decide +kernel
theorem dX6_lookAtOthers_26 : decode cX6_lookAtOthers 26 = .ok (.istore 4, 2) := by decide +kernel
theorem dX6_lookAtOthers_28 : decode cX6_lookAtOthers 28 = .ok (.iload 4, 2) := by decide +kernel
theorem dX6_lookAtOthers_30 : decode cX6_lookAtOthers 30 = .ok (.bipush 32, 2) := by decide +kernel
theorem dX6_lookAtOthers_32 : decode cX6_lookAtOthers 32 = .ok (.if_icmp .ge 54, 3) := by decide +kernel
theorem dX6_lookAtOthers_35 : decode cX6_lookAtOthers 35 = .ok (.aload_n 0, 1) := by decide +kernel
theorem dX6_lookAtOthers_36 : decode cX6_lookAtOthers 36 = .ok (.getfield 56, 3) := by decide +kernel
theorem dX6_lookAtOthers_39 : decode cX6_lookAtOthers 39 = .ok (.iload 4, 2) := by decide +kernel
theorem dX6_lookAtOthers_41 : decode cX6_lookAtOthers 41 = .ok (.iconst 1, 1) := by decide +kernel
theorem dX6_lookAtOthers_42 : decode cX6_lookAtOthers 42 = .ok (.iadd, 1) := by decide +kernel
theorem dX6_lookAtOthers_43 : decode cX6_lookAtOthers 43 = .ok (.aload_n 0, 1) := by decide +kernel
theorem dX6_lookAtOthers_44 : decode cX6_lookAtOthers 44 = .ok (.getfield 56, 3) := by decide +kernel
theorem dX6_lookAtOthers_47 : decode cX6_lookAtOthers 47 = .ok (.iload 4, 2) := by decide +kernel
theorem dX6_lookAtOthers_49 : decode cX6_lookAtOthers 49 = .ok (.iconst 1, 1) := by decide +kernel
theorem dX6_lookAtOthers_50 : decode cX6_lookAtOthers 50 = .ok (.iadd, 1) := by decide +kernel
theorem dX6_lookAtOthers_51 : decode cX6_lookAtOthers 51 = .ok (.baload, 1) := by decide +kernel
theorem dX6_lookAtOthers_52 : decode cX6_lookAtOthers 52 = .ok (.ifCond .ne 22, 3) := by decide +kernel
theorem dX6_lookAtOthers_55 : decode cX6_lookAtOthers 55 = .ok (.iload_n 1, 1) := by decide +kernel
theorem dX6_lookAtOthers_56 : decode cX6_lookAtOthers 56 = .ok (.iload_n 3, 1) := by decide +kernel
theorem dX6_lookAtOthers_57 : decode cX6_lookAtOthers 57 = .ok (.ishr, 1) := by decide +kernel
theorem dX6_lookAtOthers_58 : decode cX6_lookAtOthers 58 = .ok (.iconst 1, 1) := by decide +kernel
theorem dX6_lookAtOthers_59 : decode cX6_lookAtOthers 59 = .ok (.iand, 1) := by decide +kernel
theorem dX6_lookAtOthers_60 : decode cX6_lookAtOthers 60 = .ok (.ifCond .ne 18, 3) := by decide +kernel
theorem dX6_lookAtOthers_63 : decode cX6_lookAtOthers 63 = .ok (.aload_n 0, 1) := by decide +kernel
theorem dX6_lookAtOthers_64 : decode cX6_lookAtOthers 64 = .ok (.iload_n 2, 1) := by decide +kernel
theorem dX6_lookAtOthers_65 : decode cX6_lookAtOthers 65 = .ok (.iload_n 3, 1) := by decide +kernel
theorem dX6_lookAtOthers_66 : decode cX6_lookAtOthers 66 = .ok (.iload 4, 2) := by decide +kernel
theorem dX6_lookAtOthers_68 : decode cX6_lookAtOthers 68 = .ok (.invokevirtual 77, 3) := by decide +kernel
theorem dX6_lookAtOthers_71 : decode cX6_lookAtOthers 71 = .ok (.ifCond .eq 7, 3) := by decide +kernel
theorem dX6_lookAtOthers_74 : decode cX6_lookAtOthers 74 = .ok (.iconst 1, 1) := by decide +kernel
theorem dX6_lookAtOthers_75 : decode cX6_lookAtOthers 75 = .ok (.goto 4, 3) := by decide +kernel
theorem dX6_lookAtOthers_78 : decode cX6_lookAtOthers 78 = .ok (.iconst 0, 1) := by decide +kernel
theorem dX6_lookAtOthers_79 : decode cX6_lookAtOthers 79 = .ok (.bastore, 1) := by decide +kernel
theorem dX6_lookAtOthers_80 : decode cX6_lookAtOthers 80 = .ok (.iinc 4 1, 3) := by decide +kernel
theorem dX6_lookAtOthers_83 : decode cX6_lookAtOthers 83 = .ok (.goto (-55), 3) := by decide +kernel
theorem dX6_lookAtOthers_86 : decode cX6_lookAtOthers 86 = .ok (.iinc 3 1, 3) := by decide +kernel
theorem dX6_lookAtOthers_89 : decode cX6_lookAtOthers 89 = .ok (.goto (-79), 3) := by decide +kernel
theorem dX6_lookAtOthers_92 : decode cX6_lookAtOthers 92 = .ok (.iinc 2 1, 3) := by decide +kernel
theorem dX6_lookAtOthers_95 : decode cX6_lookAtOthers 95 = .ok (.goto (-93), 3) := by decide +kernel
theorem dX6_lookAtOthers_98 : decode cX6_lookAtOthers 98 = .ok (.return_, 1) := by decide +kernel
theorem dX6_isReady_0 : decode cX6_isReady 0 = .ok (.iconst 1, 1) := by decide +kernel
theorem dX6_isReady_1 : decode cX6_isReady 1 = .ok (.istore_n 2, 1) := by decide +kernel
theorem dX6_isReady_2 : decode cX6_isReady 2 = .ok (.iconst 0, 1) := by decide +kernel
theorem dX6_isReady_3 : decode cX6_isReady 3 = .ok (.istore_n 3, 1) := by decide +kernel
theorem dX6_isReady_4 : decode cX6_isReady 4 = .ok (.iload_n 3, 1) := by decide +kernel
theorem dX6_isReady_5 : decode cX6_isReady 5 = .ok (.aload_n 0, 1) := by decide +kernel
theorem dX6_isReady_6 : decode cX6_isReady 6 = .ok (.getfield 90, 3) := by decide +kernel
theorem dX6_isReady_9 : decode cX6_isReady 9 = .ok (.if_icmp .ge 81, 3) := by decide +kernel
theorem dX6_isReady_12 : decode cX6_isReady 12 = .ok (.aload_n 0, 1) := by decide +kernel
theorem dX6_isReady_13 : decode cX6_isReady 13 = .ok (.getfield 29, 3) := by decide +kernel
theorem dX6_isReady_16 : decode cX6_isReady 16 = .ok (.iload_n 3, 1) := by decide +kernel
theorem dX6_isReady_17 : decode cX6_isReady 17 = .ok (.iaload, 1) := by decide +kernel
theorem dX6_isReady_18 : decode cX6_isReady 18 = .ok (.iload_n 1, 1) := by decide +kernel
theorem dX6_isReady_19 : decode cX6_isReady 19 = .ok (.if_icmp .ne 65, 3) := by decide +kernel
theorem dX6_isReady_22 : decode cX6_isReady 22 = .ok (.aload_n 0, 1) := by decide +kernel
theorem dX6_isReady_23 : decode cX6_isReady 23 = .ok (.getfield 32, 3) := by decide +kernel
theorem dX6_isReady_26 : decode cX6_isReady 26 = .ok (.iload_n 3, 1) := by decide +kernel
theorem dX6_isReady_27 : decode cX6_isReady 27 = .ok (.iaload, 1) := by decide +kernel
theorem dX6_isReady_28 : decode cX6_isReady 28 = .ok (.invokestatic 93, 3) := by decide +kernel
theorem dX6_isReady_31 : decode cX6_isReady 31 = .ok (.ifCond .eq 53, 3) := by decide +kernel
theorem dX6_isReady_34 : decode cX6_isReady 34 = .ok (.iload_n 2, 1) := by decide +kernel
theorem dX6_isReady_35 : decode cX6_isReady 35 = .ok (.ifCond .eq 47, 3) := by decide +kernel
theorem dX6_isReady_38 : decode cX6_isReady 38 = .ok (.aload_n 0, 1) := by decide +kernel
theorem dX6_isReady_39 : decode cX6_isReady 39 = .ok (.getfield 47, 3) := by decide +kernel
theorem dX6_isReady_42 : decode cX6_isReady 42 = .ok (.aload_n 0, 1) := by decide +kernel
theorem dX6_isReady_43 : decode cX6_isReady 43 = .ok (.getfield 35, 3) := by decide +kernel
theorem dX6_isReady_46 : decode cX6_isReady 46 = .ok (.iload_n 3, 1) := by decide +kernel
theorem dX6_isReady_47 : decode cX6_isReady 47 = .ok (.iaload, 1) := by decide +kernel
theorem dX6_isReady_48 : decode cX6_isReady 48 = .ok (.baload, 1) := by decide +kernel
theorem dX6_isReady_49 : decode cX6_isReady 49 = .ok (.ifCond .eq 33, 3) := by decide +kernel
theorem dX6_isReady_52 : decode cX6_isReady 52 = .ok (.aload_n 0, 1) := by decide +kernel
theorem dX6_isReady_53 : decode cX6_isReady 53 = .ok (.getfield 32, 3) := by decide +kernel
theorem dX6_isReady_56 : decode cX6_isReady 56 = .ok (.iload_n 3, 1) := by decide +kernel
theorem dX6_isReady_57 : decode cX6_isReady 57 = .ok (.iaload, 1) := by decide +kernel
theorem dX6_isReady_58 : decode cX6_isReady 58 = .ok (.invokestatic 96, 3) := by decide +kernel
theorem dX6_isReady_61 : decode cX6_isReady 61 = .ok (.ifCond .eq 17, 3) := by decide +kernel
theorem dX6_isReady_64 : decode cX6_isReady 64 = .ok (.aload_n 0, 1) := by decide +kernel
theorem dX6_isReady_65 : decode cX6_isReady 65 = .ok (.getfield 47, 3) := by decide +kernel
theorem dX6_isReady_68 : decode cX6_isReady 68 = .ok (.aload_n 0, 1) := by decide +kernel
theorem dX6_isReady_69 : decode cX6_isReady 69 = .ok (.getfield 38, 3) := by decide +kernel
theorem dX6_isReady_72 : decode cX6_isReady 72 = .ok (.iload_n 3, 1) := by decide +kernel
theorem dX6_isReady_73 : decode cX6_isReady 73 = .ok (.iaload, 1) := by decide +kernel
theorem dX6_isReady_74 : decode cX6_isReady 74 = .ok (.baload, 1) := by decide +kernel
theorem dX6_isReady_75 : decode cX6_isReady 75 = .ok (.ifCond .eq 7, 3) := by decide +kernel
theorem dX6_isReady_78 : decode cX6_isReady 78 = .ok (.iconst 1, 1) := by decide +kernel
theorem dX6_isReady_79 : decode cX6_isReady 79 = .ok (.goto 4, 3) := by decide +kernel
theorem dX6_isReady_82 : decode cX6_isReady 82 = .ok (.iconst 0, 1) := by decide +kernel
theorem dX6_isReady_83 : decode cX6_isReady 83 = .ok (.istore_n 2, 1) := by decide +kernel
theorem dX6_isReady_84 : decode cX6_isReady 84 = .ok (.iinc 3 1, 3) := by decide +kernel
theorem dX6_isReady_87 : decode cX6_isReady 87 = .ok (.goto (-83), 3) := by decide +kernel
theorem dX6_isReady_90 : decode cX6_isReady 90 = .ok (.iload_n 2, 1) := by decide +kernel
theorem dX6_isReady_91 : decode cX6_isReady 91 = .ok (.ireturn, 1) := by decide +kernel
theorem dX6_settle_0 : decode cX6_settle 0 = .ok (.iconst 0, 1) := by decide +kernel
theorem dX6_settle_1 : decode cX6_settle 1 = .ok (.istore_n 2, 1) := by decide +kernel
theorem dX6_settle_2 : decode cX6_settle 2 = .ok (.iload_n 2, 1) := by decide +kernel
theorem dX6_settle_3 : decode cX6_settle 3 = .ok (.bipush 32, 2) := by decide +kernel
theorem dX6_settle_5 : decode cX6_settle 5 = .ok (.if_icmp .ge 72, 3) := by decide +kernel
theorem dX6_settle_8 : decode cX6_settle 8 = .ok (.iconst 1, 1) := by decide +kernel
theorem dX6_settle_9 : decode cX6_settle 9 = .ok (.istore_n 3, 1) := by decide +kernel
theorem dX6_settle_10 : decode cX6_settle 10 = .ok (.iconst 0, 1) := by decide +kernel
theorem dX6_settle_11 : decode cX6_settle 11 = .ok (.istore 4, 2) := by decide +kernel
theorem dX6_settle_13 : decode cX6_settle 13 = .ok (.iload 4, 2) := by decide +kernel
theorem dX6_settle_15 : decode cX6_settle 15 = .ok (.aload_n 0, 1) := by decide +kernel
theorem dX6_settle_16 : decode cX6_settle 16 = .ok (.getfield 90, 3) := by decide +kernel
theorem dX6_settle_19 : decode cX6_settle 19 = .ok (.if_icmp .ge 40, 3) := by decide +kernel
theorem dX6_settle_22 : decode cX6_settle 22 = .ok (.iload_n 3, 1) := by decide +kernel
theorem dX6_settle_23 : decode cX6_settle 23 = .ok (.ifCond .eq 36, 3) := by decide +kernel
theorem dX6_settle_26 : decode cX6_settle 26 = .ok (.aload_n 0, 1) := by decide +kernel
theorem dX6_settle_27 : decode cX6_settle 27 = .ok (.getfield 29, 3) := by decide +kernel
theorem dX6_settle_30 : decode cX6_settle 30 = .ok (.iload 4, 2) := by decide +kernel
theorem dX6_settle_32 : decode cX6_settle 32 = .ok (.iaload, 1) := by decide +kernel
theorem dX6_settle_33 : decode cX6_settle 33 = .ok (.iload_n 1, 1) := by decide +kernel
theorem dX6_settle_34 : decode cX6_settle 34 = .ok (.if_icmp .ne 13, 3) := by decide +kernel
theorem dX6_settle_37 : decode cX6_settle 37 = .ok (.aload_n 0, 1) := by decide +kernel
theorem dX6_settle_38 : decode cX6_settle 38 = .ok (.iload 4, 2) := by decide +kernel
theorem dX6_settle_40 : decode cX6_settle 40 = .ok (.iload_n 2, 1) := by decide +kernel
theorem dX6_settle_41 : decode cX6_settle 41 = .ok (.invokevirtual 135, 3) := by decide +kernel
theorem dX6_settle_44 : decode cX6_settle 44 = .ok (.ifCond .ne 7, 3) := by decide +kernel
theorem dX6_settle_47 : decode cX6_settle 47 = .ok (.iconst 1, 1) := by decide +kernel
theorem dX6_settle_48 : decode cX6_settle 48 = .ok (.goto 4, 3) := by decide +kernel
theorem dX6_settle_51 : decode cX6_settle 51 = .ok (.iconst 0, 1) := by decide +kernel
theorem dX6_settle_52 : decode cX6_settle 52 = .ok (.istore_n 3, 1) := by decide +kernel
theorem dX6_settle_53 : decode cX6_settle 53 = .ok (.iinc 4 1, 3) := by decide +kernel
theorem dX6_settle_56 : decode cX6_settle 56 = .ok (.goto (-43), 3) := by decide +kernel
theorem dX6_settle_59 : decode cX6_settle 59 = .ok (.aload_n 0, 1) := by decide +kernel
theorem dX6_settle_60 : decode cX6_settle 60 = .ok (.getfield 41, 3) := by decide +kernel
theorem dX6_settle_63 : decode cX6_settle 63 = .ok (.bipush 32, 2) := by decide +kernel
theorem dX6_settle_65 : decode cX6_settle 65 = .ok (.iload_n 1, 1) := by decide +kernel
theorem dX6_settle_66 : decode cX6_settle 66 = .ok (.imul, 1) := by decide +kernel
theorem dX6_settle_67 : decode cX6_settle 67 = .ok (.iload_n 2, 1) := by decide +kernel
theorem dX6_settle_68 : decode cX6_settle 68 = .ok (.iadd, 1) := by decide +kernel
theorem dX6_settle_69 : decode cX6_settle 69 = .ok (.iload_n 3, 1) := by decide +kernel
theorem dX6_settle_70 : decode cX6_settle 70 = .ok (.bastore, 1) := by decide +kernel
theorem dX6_settle_71 : decode cX6_settle 71 = .ok (.iinc 2 1, 3) := by decide +kernel
theorem dX6_settle_74 : decode cX6_settle 74 = .ok (.goto (-72), 3) := by decide +kernel
theorem dX6_settle_77 : decode cX6_settle 77 = .ok (.aload_n 0, 1) := by decide +kernel
theorem dX6_settle_78 : decode cX6_settle 78 = .ok (.getfield 47, 3) := by decide +kernel
theorem dX6_settle_81 : decode cX6_settle 81 = .ok (.iload_n 1, 1) := by decide +kernel
theorem dX6_settle_82 : decode cX6_settle 82 = .ok (.iconst 1, 1) := by decide +kernel
theorem dX6_settle_83 : decode cX6_settle 83 = .ok (.bastore, 1) := by decide +kernel
theorem dX6_settle_84 : decode cX6_settle 84 = .ok (.return_, 1) := by decide +kernel
theorem dX6_make_0 : decode cX6_make 0 = .ok (.aload_n 0, 1) := by decide +kernel
theorem dX6_make_1 : decode cX6_make 1 = .ok (.getfield 62, 3) := by decide +kernel
theorem dX6_make_4 : decode cX6_make 4 = .ok (.ifCond .eq 4, 3) := by decide +kernel
theorem dX6_make_7 : decode cX6_make 7 = .ok (.return_, 1) := by decide +kernel
theorem dX6_make_8 : decode cX6_make 8 = .ok (.aload_n 0, 1) := by decide +kernel
theorem dX6_make_9 : decode cX6_make 9 = .ok (.iconst 1, 1) := by decide +kernel
theorem dX6_make_10 : decode cX6_make 10 = .ok (.putfield 62, 3) := by decide +kernel
theorem dX6_make_13 : decode cX6_make 13 = .ok (.iconst 0, 1) := by decide +kernel
theorem dX6_make_14 : decode cX6_make 14 = .ok (.istore_n 1, 1) := by decide +kernel
theorem dX6_make_15 : decode cX6_make 15 = .ok (.iload_n 1, 1) := by decide +kernel
theorem dX6_make_16 : decode cX6_make 16 = .ok (.bipush 12, 2) := by decide +kernel
theorem dX6_make_18 : decode cX6_make 18 = .ok (.if_icmp .ge 16, 3) := by decide +kernel
theorem dX6_make_21 : decode cX6_make 21 = .ok (.aload_n 0, 1) := by decide +kernel
theorem dX6_make_22 : decode cX6_make 22 = .ok (.getfield 47, 3) := by decide +kernel
theorem dX6_make_25 : decode cX6_make 25 = .ok (.iload_n 1, 1) := by decide +kernel
theorem dX6_make_26 : decode cX6_make 26 = .ok (.iconst 0, 1) := by decide +kernel
theorem dX6_make_27 : decode cX6_make 27 = .ok (.bastore, 1) := by decide +kernel
theorem dX6_make_28 : decode cX6_make 28 = .ok (.iinc 1 1, 3) := by decide +kernel
theorem dX6_make_31 : decode cX6_make 31 = .ok (.goto (-16), 3) := by decide +kernel
theorem dX6_make_34 : decode cX6_make 34 = .ok (.iconst 1, 1) := by decide +kernel
theorem dX6_make_35 : decode cX6_make 35 = .ok (.istore_n 1, 1) := by decide +kernel
theorem dX6_make_36 : decode cX6_make 36 = .ok (.iload_n 1, 1) := by decide +kernel
theorem dX6_make_37 : decode cX6_make 37 = .ok (.ifCond .eq 48, 3) := by decide +kernel
theorem dX6_make_40 : decode cX6_make 40 = .ok (.iconst 0, 1) := by decide +kernel
theorem dX6_make_41 : decode cX6_make 41 = .ok (.istore_n 1, 1) := by decide +kernel
theorem dX6_make_42 : decode cX6_make 42 = .ok (.iconst 0, 1) := by decide +kernel
theorem dX6_make_43 : decode cX6_make 43 = .ok (.istore_n 2, 1) := by decide +kernel
theorem dX6_make_44 : decode cX6_make 44 = .ok (.iload_n 2, 1) := by decide +kernel
theorem dX6_make_45 : decode cX6_make 45 = .ok (.aload_n 0, 1) := by decide +kernel
theorem dX6_make_46 : decode cX6_make 46 = .ok (.getfield 70, 3) := by decide +kernel
theorem dX6_make_49 : decode cX6_make 49 = .ok (.if_icmp .ge 33, 3) := by decide +kernel
theorem dX6_make_52 : decode cX6_make 52 = .ok (.aload_n 0, 1) := by decide +kernel
theorem dX6_make_53 : decode cX6_make 53 = .ok (.getfield 47, 3) := by decide +kernel
theorem dX6_make_56 : decode cX6_make 56 = .ok (.iload_n 2, 1) := by decide +kernel
theorem dX6_make_57 : decode cX6_make 57 = .ok (.baload, 1) := by decide +kernel
theorem dX6_make_58 : decode cX6_make 58 = .ok (.ifCond .ne 18, 3) := by decide +kernel
theorem dX6_make_61 : decode cX6_make 61 = .ok (.aload_n 0, 1) := by decide +kernel
theorem dX6_make_62 : decode cX6_make 62 = .ok (.iload_n 2, 1) := by decide +kernel
theorem dX6_make_63 : decode cX6_make 63 = .ok (.invokevirtual 138, 3) := by decide +kernel
theorem dX6_make_66 : decode cX6_make 66 = .ok (.ifCond .eq 10, 3) := by decide +kernel
theorem dX6_make_69 : decode cX6_make 69 = .ok (.aload_n 0, 1) := by decide +kernel
theorem dX6_make_70 : decode cX6_make 70 = .ok (.iload_n 2, 1) := by decide +kernel
theorem dX6_make_71 : decode cX6_make 71 = .ok (.invokevirtual 141, 3) := by decide +kernel
theorem dX6_make_74 : decode cX6_make 74 = .ok (.iconst 1, 1) := by decide +kernel
theorem dX6_make_75 : decode cX6_make 75 = .ok (.istore_n 1, 1) := by decide +kernel
theorem dX6_make_76 : decode cX6_make 76 = .ok (.iinc 2 1, 3) := by decide +kernel
theorem dX6_make_79 : decode cX6_make 79 = .ok (.goto (-35), 3) := by decide +kernel
theorem dX6_make_82 : decode cX6_make 82 = .ok (.goto (-46), 3) := by decide +kernel
theorem dX6_make_85 : decode cX6_make 85 = .ok (.aload_n 0, 1) := by decide +kernel
theorem dX6_make_86 : decode cX6_make 86 = .ok (.invokevirtual 144, 3) := by decide +kernel
theorem dX6_make_89 : decode cX6_make 89 = .ok (.aload_n 0, 1) := by decide +kernel
theorem dX6_make_90 : decode cX6_make 90 = .ok (.invokevirtual 147, 3) := by decide +kernel
theorem dX6_make_93 : decode cX6_make 93 = .ok (.return_, 1) := by decide +kernel
theorem dX6_see_0 : decode cX6_see 0 = .ok (.iconst 0, 1) := by decide +kernel
theorem dX6_see_1 : decode cX6_see 1 = .ok (.istore_n 1, 1) := by decide +kernel
theorem dX6_see_2 : decode cX6_see 2 = .ok (.iload_n 1, 1) := by decide +kernel
theorem dX6_see_3 : decode cX6_see 3 = .ok (.bipush 12, 2) := by decide +kernel
theorem dX6_see_5 : decode cX6_see 5 = .ok (.if_icmp .ge 56, 3) := by decide +kernel
theorem dX6_see_8 : decode cX6_see 8 = .ok (.iconst 0, 1) := by decide +kernel
theorem dX6_see_9 : decode cX6_see 9 = .ok (.istore_n 2, 1) := by decide +kernel
theorem dX6_see_10 : decode cX6_see 10 = .ok (.iload_n 2, 1) := by decide +kernel
theorem dX6_see_11 : decode cX6_see 11 = .ok (.bipush 32, 2) := by decide +kernel
theorem dX6_see_13 : decode cX6_see 13 = .ok (.if_icmp .ge 42, 3) := by decide +kernel
theorem dX6_see_16 : decode cX6_see 16 = .ok (.aload_n 0, 1) := by decide +kernel
theorem dX6_see_17 : decode cX6_see 17 = .ok (.getfield 44, 3) := by decide +kernel
theorem dX6_see_20 : decode cX6_see 20 = .ok (.bipush 32, 2) := by decide +kernel
theorem dX6_see_22 : decode cX6_see 22 = .ok (.iload_n 1, 1) := by decide +kernel
theorem dX6_see_23 : decode cX6_see 23 = .ok (.imul, 1) := by decide +kernel
theorem dX6_see_24 : decode cX6_see 24 = .ok (.iload_n 2, 1) := by decide +kernel
theorem dX6_see_25 : decode cX6_see 25 = .ok (.iadd, 1) := by decide +kernel
theorem dX6_see_26 : decode cX6_see 26 = .ok (.iload_n 1, 1) := by decide +kernel
theorem dX6_see_27 : decode cX6_see 27 = .ok (.aload_n 0, 1) := by decide +kernel
theorem dX6_see_28 : decode cX6_see 28 = .ok (.getfield 70, 3) := by decide +kernel
theorem dX6_see_31 : decode cX6_see 31 = .ok (.if_icmp .ge 16, 3) := by decide +kernel
theorem dX6_see_34 : decode cX6_see 34 = .ok (.aload_n 0, 1) := by decide +kernel
theorem dX6_see_35 : decode cX6_see 35 = .ok (.iload_n 1, 1) := by decide +kernel
theorem dX6_see_36 : decode cX6_see 36 = .ok (.iload_n 2, 1) := by decide +kernel
theorem dX6_see_37 : decode cX6_see 37 = .ok (.invokevirtual 150, 3) := by decide +kernel
theorem dX6_see_40 : decode cX6_see 40 = .ok (.ifCond .eq 7, 3) := by decide +kernel
theorem dX6_see_43 : decode cX6_see 43 = .ok (.iconst 1, 1) := by decide +kernel
theorem dX6_see_44 : decode cX6_see 44 = .ok (.goto 4, 3) := by decide +kernel
theorem dX6_see_47 : decode cX6_see 47 = .ok (.iconst 0, 1) := by decide +kernel
theorem dX6_see_48 : decode cX6_see 48 = .ok (.bastore, 1) := by decide +kernel
theorem dX6_see_49 : decode cX6_see 49 = .ok (.iinc 2 1, 3) := by decide +kernel
theorem dX6_see_52 : decode cX6_see 52 = .ok (.goto (-42), 3) := by decide +kernel
theorem dX6_see_55 : decode cX6_see 55 = .ok (.iinc 1 1, 3) := by decide +kernel
theorem dX6_see_58 : decode cX6_see 58 = .ok (.goto (-56), 3) := by decide +kernel
theorem dX6_see_61 : decode cX6_see 61 = .ok (.iconst 0, 1) := by decide +kernel
theorem dX6_see_62 : decode cX6_see 62 = .ok (.istore_n 1, 1) := by decide +kernel
theorem dX6_see_63 : decode cX6_see 63 = .ok (.iload_n 1, 1) := by decide +kernel
theorem dX6_see_64 : decode cX6_see 64 = .ok (.bipush 12, 2) := by decide +kernel
theorem dX6_see_66 : decode cX6_see 66 = .ok (.if_icmp .ge 143, 3) := by decide +kernel
theorem dX6_see_69 : decode cX6_see 69 = .ok (.iconst 0, 1) := by decide +kernel
theorem dX6_see_70 : decode cX6_see 70 = .ok (.istore_n 2, 1) := by decide +kernel
theorem dX6_see_71 : decode cX6_see 71 = .ok (.iload_n 2, 1) := by decide +kernel
theorem dX6_see_72 : decode cX6_see 72 = .ok (.aload_n 0, 1) := by decide +kernel
theorem dX6_see_73 : decode cX6_see 73 = .ok (.getfield 90, 3) := by decide +kernel
theorem dX6_see_76 : decode cX6_see 76 = .ok (.if_icmp .ge 127, 3) := by decide +kernel
theorem dX6_see_79 : decode cX6_see 79 = .ok (.iconst 0, 1) := by decide +kernel
theorem dX6_see_80 : decode cX6_see 80 = .ok (.istore_n 3, 1) := by decide +kernel
theorem dX6_see_81 : decode cX6_see 81 = .ok (.iload_n 3, 1) := by decide +kernel
theorem dX6_see_82 : decode cX6_see 82 = .ok (.bipush 32, 2) := by decide +kernel
theorem dX6_see_84 : decode cX6_see 84 = .ok (.if_icmp .ge 113, 3) := by decide +kernel
theorem dX6_see_87 : decode cX6_see 87 = .ok (.aload_n 0, 1) := by decide +kernel
theorem dX6_see_88 : decode cX6_see 88 = .ok (.getfield 32, 3) := by decide +kernel
theorem dX6_see_91 : decode cX6_see 91 = .ok (.iload_n 2, 1) := by decide +kernel
theorem dX6_see_92 : decode cX6_see 92 = .ok (.iaload, 1) := by decide +kernel
theorem dX6_see_93 : decode cX6_see 93 = .ok (.bipush 16, 2) := by decide +kernel
theorem dX6_see_95 : decode cX6_see 95 = .ok (.if_icmp .ne 102, 3) := by decide +kernel
theorem dX6_see_98 : decode cX6_see 98 = .ok (.iconst 0, 1) := by decide +kernel
theorem dX6_see_99 : decode cX6_see 99 = .ok (.istore 4, 2) := by decide +kernel
theorem dX6_see_101 : decode cX6_see 101 = .ok (.iload 4, 2) := by decide +kernel
theorem dX6_see_103 : decode cX6_see 103 = .ok (.bipush 32, 2) := by decide +kernel
theorem dX6_see_105 : decode cX6_see 105 = .ok (.if_icmp .ge 86, 3) := by decide +kernel
theorem dX6_see_108 : decode cX6_see 108 = .ok (.aload_n 0, 1) := by decide +kernel
theorem dX6_see_109 : decode cX6_see 109 = .ok (.getfield 44, 3) := by decide +kernel
theorem dX6_see_112 : decode cX6_see 112 = .ok (.bipush 32, 2) := by decide +kernel
theorem dX6_see_114 : decode cX6_see 114 = .ok (.aload_n 0, 1) := by decide +kernel
theorem dX6_see_115 : decode cX6_see 115 = .ok (.getfield 29, 3) := by decide +kernel
theorem dX6_see_118 : decode cX6_see 118 = .ok (.iload_n 2, 1) := by decide +kernel
theorem dX6_see_119 : decode cX6_see 119 = .ok (.iaload, 1) := by decide +kernel
theorem dX6_see_120 : decode cX6_see 120 = .ok (.imul, 1) := by decide +kernel
theorem dX6_see_121 : decode cX6_see 121 = .ok (.iload_n 3, 1) := by decide +kernel
theorem dX6_see_122 : decode cX6_see 122 = .ok (.iadd, 1) := by decide +kernel
theorem dX6_see_123 : decode cX6_see 123 = .ok (.baload, 1) := by decide +kernel
theorem dX6_see_124 : decode cX6_see 124 = .ok (.ifCond .eq 67, 3) := by decide +kernel
theorem dX6_see_127 : decode cX6_see 127 = .ok (.aload_n 0, 1) := by decide +kernel
theorem dX6_see_128 : decode cX6_see 128 = .ok (.getfield 44, 3) := by decide +kernel
theorem dX6_see_131 : decode cX6_see 131 = .ok (.bipush 32, 2) := by decide +kernel
theorem dX6_see_133 : decode cX6_see 133 = .ok (.aload_n 0, 1) := by decide +kernel
theorem dX6_see_134 : decode cX6_see 134 = .ok (.getfield 35, 3) := by decide +kernel
theorem dX6_see_137 : decode cX6_see 137 = .ok (.iload_n 2, 1) := by decide +kernel
theorem dX6_see_138 : decode cX6_see 138 = .ok (.iaload, 1) := by decide +kernel
theorem dX6_see_139 : decode cX6_see 139 = .ok (.imul, 1) := by decide +kernel
theorem dX6_see_140 : decode cX6_see 140 = .ok (.iload 4, 2) := by decide +kernel
theorem dX6_see_142 : decode cX6_see 142 = .ok (.iadd, 1) := by decide +kernel
theorem dX6_see_143 : decode cX6_see 143 = .ok (.aload_n 0, 1) := by decide +kernel
theorem dX6_see_144 : decode cX6_see 144 = .ok (.getfield 44, 3) := by decide +kernel
theorem dX6_see_147 : decode cX6_see 147 = .ok (.bipush 32, 2) := by decide +kernel
theorem dX6_see_149 : decode cX6_see 149 = .ok (.aload_n 0, 1) := by decide +kernel
theorem dX6_see_150 : decode cX6_see 150 = .ok (.getfield 35, 3) := by decide +kernel
theorem dX6_see_153 : decode cX6_see 153 = .ok (.iload_n 2, 1) := by decide +kernel
theorem dX6_see_154 : decode cX6_see 154 = .ok (.iaload, 1) := by decide +kernel
theorem dX6_see_155 : decode cX6_see 155 = .ok (.imul, 1) := by decide +kernel
theorem dX6_see_156 : decode cX6_see 156 = .ok (.iload 4, 2) := by decide +kernel
theorem dX6_see_158 : decode cX6_see 158 = .ok (.iadd, 1) := by decide +kernel
theorem dX6_see_159 : decode cX6_see 159 = .ok (.baload, 1) := by decide +kernel
theorem dX6_see_160 : decode cX6_see 160 = .ok (.ifCond .ne 19, 3) := by decide +kernel
theorem dX6_see_163 : decode cX6_see 163 = .ok (.aload_n 0, 1) := by decide +kernel
theorem dX6_see_164 : decode cX6_see 164 = .ok (.iload_n 3, 1) := by decide +kernel
theorem dX6_see_165 : decode cX6_see 165 = .ok (.aload_n 0, 1) := by decide +kernel
theorem dX6_see_166 : decode cX6_see 166 = .ok (.getfield 29, 3) := by decide +kernel
theorem dX6_see_169 : decode cX6_see 169 = .ok (.iload_n 2, 1) := by decide +kernel
theorem dX6_see_170 : decode cX6_see 170 = .ok (.iaload, 1) := by decide +kernel
theorem dX6_see_171 : decode cX6_see 171 = .ok (.iload 4, 2) := by decide +kernel
theorem dX6_see_173 : decode cX6_see 173 = .ok (.invokevirtual 122, 3) := by decide +kernel
theorem dX6_see_176 : decode cX6_see 176 = .ok (.ifCond .eq 7, 3) := by decide +kernel
theorem dX6_see_179 : decode cX6_see 179 = .ok (.iconst 1, 1) := by decide +kernel
theorem dX6_see_180 : decode cX6_see 180 = .ok (.goto 4, 3) := by decide +kernel
theorem dX6_see_183 : decode cX6_see 183 = .ok (.iconst 0, 1) := by decide +kernel
theorem dX6_see_184 : decode cX6_see 184 = .ok (.bastore, 1) := by decide +kernel
theorem dX6_see_185 : decode cX6_see 185 = .ok (.iinc 4 1, 3) := by decide +kernel
theorem dX6_see_188 : decode cX6_see 188 = .ok (.goto (-87), 3) := by decide +kernel
theorem dX6_see_191 : decode cX6_see 191 = .ok (.iinc 3 1, 3) := by decide +kernel
theorem dX6_see_194 : decode cX6_see 194 = .ok (.goto (-113), 3) := by decide +kernel
theorem dX6_see_197 : decode cX6_see 197 = .ok (.iinc 2 1, 3) := by decide +kernel
theorem dX6_see_200 : decode cX6_see 200 = .ok (.goto (-129), 3) := by decide +kernel
theorem dX6_see_203 : decode cX6_see 203 = .ok (.iinc 1 1, 3) := by decide +kernel
theorem dX6_see_206 : decode cX6_see 206 = .ok (.goto (-143), 3) := by decide +kernel
theorem dX6_see_209 : decode cX6_see 209 = .ok (.return_, 1) := by decide +kernel
theorem dX6_report_0 : decode cX6_report 0 = .ok (.aload_n 0, 1) := by decide +kernel
theorem dX6_report_1 : decode cX6_report 1 = .ok (.iconst 0, 1) := by decide +kernel
theorem dX6_report_2 : decode cX6_report 2 = .ok (.putfield 153, 3) := by decide +kernel
theorem dX6_report_5 : decode cX6_report 5 = .ok (.aload_n 0, 1) := by decide +kernel
theorem dX6_report_6 : decode cX6_report 6 = .ok (.iconst 0, 1) := by decide +kernel
theorem dX6_report_7 : decode cX6_report 7 = .ok (.putfield 156, 3) := by decide +kernel
theorem dX6_report_10 : decode cX6_report 10 = .ok (.iconst 0, 1) := by decide +kernel
theorem dX6_report_11 : decode cX6_report 11 = .ok (.istore_n 1, 1) := by decide +kernel
theorem dX6_report_12 : decode cX6_report 12 = .ok (.iload_n 1, 1) := by decide +kernel
theorem dX6_report_13 : decode cX6_report 13 = .ok (.bipush 32, 2) := by decide +kernel
theorem dX6_report_15 : decode cX6_report 15 = .ok (.if_icmp .ge 92, 3) := by decide +kernel
theorem dX6_report_18 : decode cX6_report 18 = .ok (.iconst 0, 1) := by decide +kernel
theorem dX6_report_19 : decode cX6_report 19 = .ok (.istore_n 2, 1) := by decide +kernel
theorem dX6_report_20 : decode cX6_report 20 = .ok (.iload_n 2, 1) := by decide +kernel
theorem dX6_report_21 : decode cX6_report 21 = .ok (.aload_n 0, 1) := by decide +kernel
theorem dX6_report_22 : decode cX6_report 22 = .ok (.getfield 70, 3) := by decide +kernel
theorem dX6_report_25 : decode cX6_report 25 = .ok (.if_icmp .ge 76, 3) := by decide +kernel
theorem dX6_report_28 : decode cX6_report 28 = .ok (.iconst 0, 1) := by decide +kernel
theorem dX6_report_29 : decode cX6_report 29 = .ok (.istore_n 3, 1) := by decide +kernel
theorem dX6_report_30 : decode cX6_report 30 = .ok (.iload_n 3, 1) := by decide +kernel
theorem dX6_report_31 : decode cX6_report 31 = .ok (.aload_n 0, 1) := by decide +kernel
theorem dX6_report_32 : decode cX6_report 32 = .ok (.getfield 90, 3) := by decide +kernel
theorem dX6_report_35 : decode cX6_report 35 = .ok (.if_icmp .ge 60, 3) := by decide +kernel
theorem dX6_report_38 : decode cX6_report 38 = .ok (.aload_n 0, 1) := by decide +kernel
theorem dX6_report_39 : decode cX6_report 39 = .ok (.getfield 44, 3) := by decide +kernel
theorem dX6_report_42 : decode cX6_report 42 = .ok (.bipush 32, 2) := by decide +kernel
theorem dX6_report_44 : decode cX6_report 44 = .ok (.iload_n 2, 1) := by decide +kernel
theorem dX6_report_45 : decode cX6_report 45 = .ok (.imul, 1) := by decide +kernel
theorem dX6_report_46 : decode cX6_report 46 = .ok (.iload_n 1, 1) := by decide +kernel
theorem dX6_report_47 : decode cX6_report 47 = .ok (.iadd, 1) := by decide +kernel
theorem dX6_report_48 : decode cX6_report 48 = .ok (.baload, 1) := by decide +kernel
theorem dX6_report_49 : decode cX6_report 49 = .ok (.ifCond .eq 46, 3) := by decide +kernel
theorem dX6_report_52 : decode cX6_report 52 = .ok (.aload_n 0, 1) := by decide +kernel
theorem dX6_report_53 : decode cX6_report 53 = .ok (.getfield 29, 3) := by decide +kernel
theorem dX6_report_56 : decode cX6_report 56 = .ok (.iload_n 3, 1) := by decide +kernel
theorem dX6_report_57 : decode cX6_report 57 = .ok (.iaload, 1) := by decide +kernel
theorem dX6_report_58 : decode cX6_report 58 = .ok (.iload_n 2, 1) := by decide +kernel
theorem dX6_report_59 : decode cX6_report 59 = .ok (.if_icmp .ne 30, 3) := by decide +kernel
theorem dX6_report_62 : decode cX6_report 62 = .ok (.aload_n 0, 1) := by decide +kernel
theorem dX6_report_63 : decode cX6_report 63 = .ok (.getfield 32, 3) := by decide +kernel
theorem dX6_report_66 : decode cX6_report 66 = .ok (.iload_n 3, 1) := by decide +kernel
theorem dX6_report_67 : decode cX6_report 67 = .ok (.iaload, 1) := by decide +kernel
theorem dX6_report_68 : decode cX6_report 68 = .ok (.bipush 16, 2) := by decide +kernel
theorem dX6_report_70 : decode cX6_report 70 = .ok (.if_icmp .eq 19, 3) := by decide +kernel
theorem dX6_report_73 : decode cX6_report 73 = .ok (.aload_n 0, 1) := by decide +kernel
theorem dX6_report_74 : decode cX6_report 74 = .ok (.iload_n 3, 1) := by decide +kernel
theorem dX6_report_75 : decode cX6_report 75 = .ok (.iload_n 1, 1) := by decide +kernel
theorem dX6_report_76 : decode cX6_report 76 = .ok (.invokevirtual 135, 3) := by decide +kernel
theorem dX6_report_79 : decode cX6_report 79 = .ok (.ifCond .eq 10, 3) := by decide +kernel
theorem dX6_report_82 : decode cX6_report 82 = .ok (.aload_n 0, 1) := by decide +kernel
theorem dX6_report_83 : decode cX6_report 83 = .ok (.iload_n 1, 1) := by decide +kernel
theorem dX6_report_84 : decode cX6_report 84 = .ok (.iload_n 2, 1) := by decide +kernel
theorem dX6_report_85 : decode cX6_report 85 = .ok (.iload_n 3, 1) := by decide +kernel
theorem dX6_report_86 : decode cX6_report 86 = .ok (.invokevirtual 159, 3) := by decide +kernel
theorem dX6_report_89 : decode cX6_report 89 = .ok (.iinc 3 1, 3) := by decide +kernel
theorem dX6_report_92 : decode cX6_report 92 = .ok (.goto (-62), 3) := by decide +kernel
theorem dX6_report_95 : decode cX6_report 95 = .ok (.iinc 2 1, 3) := by decide +kernel
theorem dX6_report_98 : decode cX6_report 98 = .ok (.goto (-78), 3) := by decide +kernel
theorem dX6_report_101 : decode cX6_report 101 = .ok (.iinc 1 1, 3) := by decide +kernel
theorem dX6_report_104 : decode cX6_report 104 = .ok (.goto (-92), 3) := by decide +kernel
theorem dX6_report_107 : decode cX6_report 107 = .ok (.return_, 1) := by decide +kernel
theorem dX6_note_0 : decode cX6_note 0 = .ok (.iconst 0, 1) := by decide +kernel
theorem dX6_note_1 : decode cX6_note 1 = .ok (.istore 4, 2) := by decide +kernel
theorem dX6_note_3 : decode cX6_note 3 = .ok (.iload 4, 2) := by decide +kernel
theorem dX6_note_5 : decode cX6_note 5 = .ok (.bipush 32, 2) := by decide +kernel
theorem dX6_note_7 : decode cX6_note 7 = .ok (.if_icmp .gt 115, 3) := by decide +kernel
theorem dX6_note_10 : decode cX6_note 10 = .ok (.aload_n 0, 1) := by decide +kernel
theorem dX6_note_11 : decode cX6_note 11 = .ok (.getfield 56, 3) := by decide +kernel
theorem dX6_note_14 : decode cX6_note 14 = .ok (.iload 4, 2) := by decide +kernel
theorem dX6_note_16 : decode cX6_note 16 = .ok (.baload, 1) := by decide +kernel
theorem dX6_note_17 : decode cX6_note 17 = .ok (.ifCond .eq 99, 3) := by decide +kernel
theorem dX6_note_20 : decode cX6_note 20 = .ok (.aload_n 0, 1) := by decide +kernel
theorem dX6_note_21 : decode cX6_note 21 = .ok (.getfield 153, 3) := by decide +kernel
theorem dX6_note_24 : decode cX6_note 24 = .ok (.sipush 250, 3) := by decide +kernel
theorem dX6_note_27 : decode cX6_note 27 = .ok (.if_icmp .gt 89, 3) := by decide +kernel
theorem dX6_note_30 : decode cX6_note 30 = .ok (.aload_n 0, 1) := by decide +kernel
theorem dX6_note_31 : decode cX6_note 31 = .ok (.getfield 59, 3) := by decide +kernel
theorem dX6_note_34 : decode cX6_note 34 = .ok (.iconst 4, 1) := by decide +kernel
theorem dX6_note_35 : decode cX6_note 35 = .ok (.aload_n 0, 1) := by decide +kernel
theorem dX6_note_36 : decode cX6_note 36 = .ok (.getfield 153, 3) := by decide +kernel
theorem dX6_note_39 : decode cX6_note 39 = .ok (.imul, 1) := by decide +kernel
theorem dX6_note_40 : decode cX6_note 40 = .ok (.iload_n 1, 1) := by decide +kernel
theorem dX6_note_41 : decode cX6_note 41 = .ok (.iastore, 1) := by decide +kernel
theorem dX6_note_42 : decode cX6_note 42 = .ok (.aload_n 0, 1) := by decide +kernel
theorem dX6_note_43 : decode cX6_note 43 = .ok (.getfield 59, 3) := by decide +kernel
theorem dX6_note_46 : decode cX6_note 46 = .ok (.iconst 4, 1) := by decide +kernel
theorem dX6_note_47 : decode cX6_note 47 = .ok (.aload_n 0, 1) := by decide +kernel
theorem dX6_note_48 : decode cX6_note 48 = .ok (.getfield 153, 3) := by decide +kernel
theorem dX6_note_51 : decode cX6_note 51 = .ok (.imul, 1) := by decide +kernel
theorem dX6_note_52 : decode cX6_note 52 = .ok (.iconst 1, 1) := by decide +kernel
theorem dX6_note_53 : decode cX6_note 53 = .ok (.iadd, 1) := by decide +kernel
theorem dX6_note_54 : decode cX6_note 54 = .ok (.iload_n 2, 1) := by decide +kernel
theorem dX6_note_55 : decode cX6_note 55 = .ok (.iastore, 1) := by decide +kernel
theorem dX6_note_56 : decode cX6_note 56 = .ok (.aload_n 0, 1) := by decide +kernel
theorem dX6_note_57 : decode cX6_note 57 = .ok (.getfield 59, 3) := by decide +kernel
theorem dX6_note_60 : decode cX6_note 60 = .ok (.iconst 4, 1) := by decide +kernel
theorem dX6_note_61 : decode cX6_note 61 = .ok (.aload_n 0, 1) := by decide +kernel
theorem dX6_note_62 : decode cX6_note 62 = .ok (.getfield 153, 3) := by decide +kernel
theorem dX6_note_65 : decode cX6_note 65 = .ok (.imul, 1) := by decide +kernel
theorem dX6_note_66 : decode cX6_note 66 = .ok (.iconst 2, 1) := by decide +kernel
theorem dX6_note_67 : decode cX6_note 67 = .ok (.iadd, 1) := by decide +kernel
theorem dX6_note_68 : decode cX6_note 68 = .ok (.iload_n 3, 1) := by decide +kernel
theorem dX6_note_69 : decode cX6_note 69 = .ok (.iastore, 1) := by decide +kernel
theorem dX6_note_70 : decode cX6_note 70 = .ok (.aload_n 0, 1) := by decide +kernel
theorem dX6_note_71 : decode cX6_note 71 = .ok (.getfield 59, 3) := by decide +kernel
theorem dX6_note_74 : decode cX6_note 74 = .ok (.iconst 4, 1) := by decide +kernel
theorem dX6_note_75 : decode cX6_note 75 = .ok (.aload_n 0, 1) := by decide +kernel
theorem dX6_note_76 : decode cX6_note 76 = .ok (.getfield 153, 3) := by decide +kernel
theorem dX6_note_79 : decode cX6_note 79 = .ok (.imul, 1) := by decide +kernel
theorem dX6_note_80 : decode cX6_note 80 = .ok (.iconst 3, 1) := by decide +kernel
theorem dX6_note_81 : decode cX6_note 81 = .ok (.iadd, 1) := by decide +kernel
theorem dX6_note_82 : decode cX6_note 82 = .ok (.iload 4, 2) := by decide +kernel
theorem dX6_note_84 : decode cX6_note 84 = .ok (.iconst 1, 1) := by decide +kernel
theorem dX6_note_85 : decode cX6_note 85 = .ok (.isub, 1) := by decide +kernel
theorem dX6_note_86 : decode cX6_note 86 = .ok (.iastore, 1) := by decide +kernel
theorem dX6_note_87 : decode cX6_note 87 = .ok (.aload_n 0, 1) := by decide +kernel
theorem dX6_note_88 : decode cX6_note 88 = .ok (.dup, 1) := by decide +kernel
theorem dX6_note_89 : decode cX6_note 89 = .ok (.getfield 153, 3) := by decide +kernel
theorem dX6_note_92 : decode cX6_note 92 = .ok (.iconst 1, 1) := by decide +kernel
theorem dX6_note_93 : decode cX6_note 93 = .ok (.iadd, 1) := by decide +kernel
theorem dX6_note_94 : decode cX6_note 94 = .ok (.putfield 153, 3) := by decide +kernel
theorem dX6_note_97 : decode cX6_note 97 = .ok (.aload_n 0, 1) := by decide +kernel
theorem dX6_note_98 : decode cX6_note 98 = .ok (.aload_n 0, 1) := by decide +kernel
theorem dX6_note_99 : decode cX6_note 99 = .ok (.getfield 153, 3) := by decide +kernel
theorem dX6_note_102 : decode cX6_note 102 = .ok (.sipush 250, 3) := by decide +kernel
theorem dX6_note_105 : decode cX6_note 105 = .ok (.if_icmp .le 7, 3) := by decide +kernel
theorem dX6_note_108 : decode cX6_note 108 = .ok (.iconst 1, 1) := by decide +kernel
theorem dX6_note_109 : decode cX6_note 109 = .ok (.goto 4, 3) := by decide +kernel
theorem dX6_note_112 : decode cX6_note 112 = .ok (.iconst 0, 1) := by decide +kernel
theorem dX6_note_113 : decode cX6_note 113 = .ok (.putfield 156, 3) := by decide +kernel
theorem dX6_note_116 : decode cX6_note 116 = .ok (.iinc 4 1, 3) := by decide +kernel
theorem dX6_note_119 : decode cX6_note 119 = .ok (.goto (-116), 3) := by decide +kernel
theorem dX6_note_122 : decode cX6_note 122 = .ok (.return_, 1) := by decide +kernel
theorem dX6_run_0 : decode cX6_run 0 = .ok (.aload_n 0, 1) := by decide +kernel
theorem dX6_run_1 : decode cX6_run 1 = .ok (.invokevirtual 163, 3) := by decide +kernel
theorem dX6_run_4 : decode cX6_run 4 = .ok (.aload_n 0, 1) := by decide +kernel
theorem dX6_run_5 : decode cX6_run 5 = .ok (.getfield 156, 3) := by decide +kernel
theorem dX6_run_8 : decode cX6_run 8 = .ok (.ifCond .eq 8, 3) := by decide +kernel
theorem dX6_run_11 : decode cX6_run 11 = .ok (.bipush (-4), 2) := by decide +kernel
theorem dX6_run_13 : decode cX6_run 13 = .ok (.goto 7, 3) := by decide +kernel
theorem dX6_run_16 : decode cX6_run 16 = .ok (.aload_n 0, 1) := by decide +kernel
theorem dX6_run_17 : decode cX6_run 17 = .ok (.getfield 153, 3) := by decide +kernel
theorem dX6_run_20 : decode cX6_run 20 = .ok (.ireturn, 1) := by decide +kernel
theorem dX6_result_0 : decode cX6_result 0 = .ok (.iload_n 2, 1) := by decide +kernel
theorem dX6_result_1 : decode cX6_result 1 = .ok (.iconst 0, 1) := by decide +kernel
theorem dX6_result_2 : decode cX6_result 2 = .ok (.iconst 3, 1) := by decide +kernel
theorem dX6_result_3 : decode cX6_result 3 = .ok (.invokestatic 66, 3) := by decide +kernel
theorem dX6_result_6 : decode cX6_result 6 = .ok (.ifCond .ne 5, 3) := by decide +kernel
theorem dX6_result_9 : decode cX6_result 9 = .ok (.iconst (-1), 1) := by decide +kernel
theorem dX6_result_10 : decode cX6_result 10 = .ok (.ireturn, 1) := by decide +kernel
theorem dX6_result_11 : decode cX6_result 11 = .ok (.aload_n 0, 1) := by decide +kernel
theorem dX6_result_12 : decode cX6_result 12 = .ok (.invokevirtual 163, 3) := by decide +kernel
theorem dX6_result_15 : decode cX6_result 15 = .ok (.aload_n 0, 1) := by decide +kernel
theorem dX6_result_16 : decode cX6_result 16 = .ok (.getfield 156, 3) := by decide +kernel
theorem dX6_result_19 : decode cX6_result 19 = .ok (.ifCond .eq 8, 3) := by decide +kernel
theorem dX6_result_22 : decode cX6_result 22 = .ok (.bipush (-4), 2) := by decide +kernel
theorem dX6_result_24 : decode cX6_result 24 = .ok (.goto 32, 3) := by decide +kernel
theorem dX6_result_27 : decode cX6_result 27 = .ok (.iload_n 1, 1) := by decide +kernel
theorem dX6_result_28 : decode cX6_result 28 = .ok (.iconst 0, 1) := by decide +kernel
theorem dX6_result_29 : decode cX6_result 29 = .ok (.aload_n 0, 1) := by decide +kernel
theorem dX6_result_30 : decode cX6_result 30 = .ok (.getfield 153, 3) := by decide +kernel
theorem dX6_result_33 : decode cX6_result 33 = .ok (.iconst 1, 1) := by decide +kernel
theorem dX6_result_34 : decode cX6_result 34 = .ok (.isub, 1) := by decide +kernel
theorem dX6_result_35 : decode cX6_result 35 = .ok (.invokestatic 66, 3) := by decide +kernel
theorem dX6_result_38 : decode cX6_result 38 = .ok (.ifCond .eq 16, 3) := by decide +kernel
theorem dX6_result_41 : decode cX6_result 41 = .ok (.aload_n 0, 1) := by decide +kernel
theorem dX6_result_42 : decode cX6_result 42 = .ok (.getfield 59, 3) := by decide +kernel
theorem dX6_result_45 : decode cX6_result 45 = .ok (.iconst 4, 1) := by decide +kernel
theorem dX6_result_46 : decode cX6_result 46 = .ok (.iload_n 1, 1) := by decide +kernel
theorem dX6_result_47 : decode cX6_result 47 = .ok (.imul, 1) := by decide +kernel
theorem dX6_result_48 : decode cX6_result 48 = .ok (.iload_n 2, 1) := by decide +kernel
theorem dX6_result_49 : decode cX6_result 49 = .ok (.iadd, 1) := by decide +kernel
theorem dX6_result_50 : decode cX6_result 50 = .ok (.iaload, 1) := by decide +kernel
theorem dX6_result_51 : decode cX6_result 51 = .ok (.goto 5, 3) := by decide +kernel
theorem dX6_result_54 : decode cX6_result 54 = .ok (.bipush (-2), 2) := by decide +kernel
theorem dX6_result_56 : decode cX6_result 56 = .ok (.ireturn, 1) := by decide +kernel
theorem dX6_worst_0 : decode cX6_worst 0 = .ok (.iload_n 1, 1) := by decide +kernel
theorem dX6_worst_1 : decode cX6_worst 1 = .ok (.iconst 0, 1) := by decide +kernel
theorem dX6_worst_2 : decode cX6_worst 2 = .ok (.iconst 2, 1) := by decide +kernel
theorem dX6_worst_3 : decode cX6_worst 3 = .ok (.invokestatic 66, 3) := by decide +kernel
theorem dX6_worst_6 : decode cX6_worst 6 = .ok (.ifCond .ne 5, 3) := by decide +kernel
theorem dX6_worst_9 : decode cX6_worst 9 = .ok (.iconst (-1), 1) := by decide +kernel
theorem dX6_worst_10 : decode cX6_worst 10 = .ok (.ireturn, 1) := by decide +kernel
theorem dX6_worst_11 : decode cX6_worst 11 = .ok (.aload_n 0, 1) := by decide +kernel
theorem dX6_worst_12 : decode cX6_worst 12 = .ok (.invokevirtual 163, 3) := by decide +kernel
theorem dX6_worst_15 : decode cX6_worst 15 = .ok (.iconst 0, 1) := by decide +kernel
theorem dX6_worst_16 : decode cX6_worst 16 = .ok (.istore_n 2, 1) := by decide +kernel
theorem dX6_worst_17 : decode cX6_worst 17 = .ok (.iconst 0, 1) := by decide +kernel
theorem dX6_worst_18 : decode cX6_worst 18 = .ok (.istore_n 3, 1) := by decide +kernel
theorem dX6_worst_19 : decode cX6_worst 19 = .ok (.iload_n 3, 1) := by decide +kernel
theorem dX6_worst_20 : decode cX6_worst 20 = .ok (.aload_n 0, 1) := by decide +kernel
theorem dX6_worst_21 : decode cX6_worst 21 = .ok (.getfield 153, 3) := by decide +kernel
theorem dX6_worst_24 : decode cX6_worst 24 = .ok (.if_icmp .ge 43, 3) := by decide +kernel
theorem dX6_worst_27 : decode cX6_worst 27 = .ok (.aload_n 0, 1) := by decide +kernel
theorem dX6_worst_28 : decode cX6_worst 28 = .ok (.getfield 156, 3) := by decide +kernel
theorem dX6_worst_31 : decode cX6_worst 31 = .ok (.ifCond .ne 36, 3) := by decide +kernel
theorem dX6_worst_34 : decode cX6_worst 34 = .ok (.iload_n 2, 1) := by decide +kernel
theorem dX6_worst_35 : decode cX6_worst 35 = .ok (.aload_n 0, 1) := by decide +kernel
theorem dX6_worst_36 : decode cX6_worst 36 = .ok (.getfield 17, 3) := by decide +kernel
theorem dX6_worst_39 : decode cX6_worst 39 = .ok (.aload_n 0, 1) := by decide +kernel
theorem dX6_worst_40 : decode cX6_worst 40 = .ok (.getfield 59, 3) := by decide +kernel
theorem dX6_worst_43 : decode cX6_worst 43 = .ok (.iconst 4, 1) := by decide +kernel
theorem dX6_worst_44 : decode cX6_worst 44 = .ok (.iload_n 3, 1) := by decide +kernel
theorem dX6_worst_45 : decode cX6_worst 45 = .ok (.imul, 1) := by decide +kernel
theorem dX6_worst_46 : decode cX6_worst 46 = .ok (.iconst 1, 1) := by decide +kernel
theorem dX6_worst_47 : decode cX6_worst 47 = .ok (.iadd, 1) := by decide +kernel
theorem dX6_worst_48 : decode cX6_worst 48 = .ok (.iaload, 1) := by decide +kernel
theorem dX6_worst_49 : decode cX6_worst 49 = .ok (.iaload, 1) := by decide +kernel
theorem dX6_worst_50 : decode cX6_worst 50 = .ok (.iload_n 1, 1) := by decide +kernel
theorem dX6_worst_51 : decode cX6_worst 51 = .ok (.if_icmp .ne 7, 3) := by decide +kernel
theorem dX6_worst_54 : decode cX6_worst 54 = .ok (.iconst 1, 1) := by decide +kernel
theorem dX6_worst_55 : decode cX6_worst 55 = .ok (.goto 4, 3) := by decide +kernel
theorem dX6_worst_58 : decode cX6_worst 58 = .ok (.iconst 0, 1) := by decide +kernel
theorem dX6_worst_59 : decode cX6_worst 59 = .ok (.iadd, 1) := by decide +kernel
theorem dX6_worst_60 : decode cX6_worst 60 = .ok (.istore_n 2, 1) := by decide +kernel
theorem dX6_worst_61 : decode cX6_worst 61 = .ok (.iinc 3 1, 3) := by decide +kernel
theorem dX6_worst_64 : decode cX6_worst 64 = .ok (.goto (-45), 3) := by decide +kernel
theorem dX6_worst_67 : decode cX6_worst 67 = .ok (.aload_n 0, 1) := by decide +kernel
theorem dX6_worst_68 : decode cX6_worst 68 = .ok (.getfield 156, 3) := by decide +kernel
theorem dX6_worst_71 : decode cX6_worst 71 = .ok (.ifCond .eq 8, 3) := by decide +kernel
theorem dX6_worst_74 : decode cX6_worst 74 = .ok (.bipush (-4), 2) := by decide +kernel
theorem dX6_worst_76 : decode cX6_worst 76 = .ok (.goto 4, 3) := by decide +kernel
theorem dX6_worst_79 : decode cX6_worst 79 = .ok (.iload_n 2, 1) := by decide +kernel
theorem dX6_worst_80 : decode cX6_worst 80 = .ok (.ireturn, 1) := by decide +kernel
theorem dX6_fits_0 : decode cX6_fits 0 = .ok (.iload_n 1, 1) := by decide +kernel
theorem dX6_fits_1 : decode cX6_fits 1 = .ok (.iconst 0, 1) := by decide +kernel
theorem dX6_fits_2 : decode cX6_fits 2 = .ok (.bipush 31, 2) := by decide +kernel
theorem dX6_fits_4 : decode cX6_fits 4 = .ok (.invokestatic 66, 3) := by decide +kernel
theorem dX6_fits_7 : decode cX6_fits 7 = .ok (.ifCond .eq 11, 3) := by decide +kernel
theorem dX6_fits_10 : decode cX6_fits 10 = .ok (.aload_n 0, 1) := by decide +kernel
theorem dX6_fits_11 : decode cX6_fits 11 = .ok (.iload_n 2, 1) := by decide +kernel
theorem dX6_fits_12 : decode cX6_fits 12 = .ok (.invokevirtual 83, 3) := by decide +kernel
theorem dX6_fits_15 : decode cX6_fits 15 = .ok (.ifCond .ne 5, 3) := by decide +kernel
theorem dX6_fits_18 : decode cX6_fits 18 = .ok (.iconst (-1), 1) := by decide +kernel
theorem dX6_fits_19 : decode cX6_fits 19 = .ok (.ireturn, 1) := by decide +kernel
theorem dX6_fits_20 : decode cX6_fits 20 = .ok (.aload_n 0, 1) := by decide +kernel
theorem dX6_fits_21 : decode cX6_fits 21 = .ok (.invokevirtual 163, 3) := by decide +kernel
theorem dX6_fits_24 : decode cX6_fits 24 = .ok (.aload_n 0, 1) := by decide +kernel
theorem dX6_fits_25 : decode cX6_fits 25 = .ok (.getfield 41, 3) := by decide +kernel
theorem dX6_fits_28 : decode cX6_fits 28 = .ok (.bipush 32, 2) := by decide +kernel
theorem dX6_fits_30 : decode cX6_fits 30 = .ok (.iload_n 2, 1) := by decide +kernel
theorem dX6_fits_31 : decode cX6_fits 31 = .ok (.imul, 1) := by decide +kernel
theorem dX6_fits_32 : decode cX6_fits 32 = .ok (.iload_n 1, 1) := by decide +kernel
theorem dX6_fits_33 : decode cX6_fits 33 = .ok (.iadd, 1) := by decide +kernel
theorem dX6_fits_34 : decode cX6_fits 34 = .ok (.baload, 1) := by decide +kernel
theorem dX6_fits_35 : decode cX6_fits 35 = .ok (.ifCond .eq 7, 3) := by decide +kernel
theorem dX6_fits_38 : decode cX6_fits 38 = .ok (.iconst 1, 1) := by decide +kernel
theorem dX6_fits_39 : decode cX6_fits 39 = .ok (.goto 4, 3) := by decide +kernel
theorem dX6_fits_42 : decode cX6_fits 42 = .ok (.iconst 0, 1) := by decide +kernel
theorem dX6_fits_43 : decode cX6_fits 43 = .ok (.ireturn, 1) := by decide +kernel
theorem dX6_focus_0 : decode cX6_focus 0 = .ok (.aload_n 0, 1) := by decide +kernel
theorem dX6_focus_1 : decode cX6_focus 1 = .ok (.iload_n 1, 1) := by decide +kernel
theorem dX6_focus_2 : decode cX6_focus 2 = .ok (.invokevirtual 83, 3) := by decide +kernel
theorem dX6_focus_5 : decode cX6_focus 5 = .ok (.ifCond .ne 5, 3) := by decide +kernel
theorem dX6_focus_8 : decode cX6_focus 8 = .ok (.iconst (-1), 1) := by decide +kernel
theorem dX6_focus_9 : decode cX6_focus 9 = .ok (.ireturn, 1) := by decide +kernel
theorem dX6_focus_10 : decode cX6_focus 10 = .ok (.iload_n 2, 1) := by decide +kernel
theorem dX6_focus_11 : decode cX6_focus 11 = .ok (.istore_n 3, 1) := by decide +kernel
theorem dX6_focus_12 : decode cX6_focus 12 = .ok (.iconst 0, 1) := by decide +kernel
theorem dX6_focus_13 : decode cX6_focus 13 = .ok (.istore 4, 2) := by decide +kernel
theorem dX6_focus_15 : decode cX6_focus 15 = .ok (.iload 4, 2) := by decide +kernel
theorem dX6_focus_17 : decode cX6_focus 17 = .ok (.bipush 32, 2) := by decide +kernel
theorem dX6_focus_19 : decode cX6_focus 19 = .ok (.if_icmp .ge 47, 3) := by decide +kernel
theorem dX6_focus_22 : decode cX6_focus 22 = .ok (.iload_n 2, 1) := by decide +kernel
theorem dX6_focus_23 : decode cX6_focus 23 = .ok (.ifCond .lt 43, 3) := by decide +kernel
theorem dX6_focus_26 : decode cX6_focus 26 = .ok (.aload_n 0, 1) := by decide +kernel
theorem dX6_focus_27 : decode cX6_focus 27 = .ok (.iload_n 1, 1) := by decide +kernel
theorem dX6_focus_28 : decode cX6_focus 28 = .ok (.iload 4, 2) := by decide +kernel
theorem dX6_focus_30 : decode cX6_focus 30 = .ok (.invokevirtual 150, 3) := by decide +kernel
theorem dX6_focus_33 : decode cX6_focus 33 = .ok (.istore 5, 2) := by decide +kernel
theorem dX6_focus_35 : decode cX6_focus 35 = .ok (.iload 5, 2) := by decide +kernel
theorem dX6_focus_37 : decode cX6_focus 37 = .ok (.ifCond .eq 10, 3) := by decide +kernel
theorem dX6_focus_40 : decode cX6_focus 40 = .ok (.iload_n 3, 1) := by decide +kernel
theorem dX6_focus_41 : decode cX6_focus 41 = .ok (.ifCond .ne 6, 3) := by decide +kernel
theorem dX6_focus_44 : decode cX6_focus 44 = .ok (.iload 4, 2) := by decide +kernel
theorem dX6_focus_46 : decode cX6_focus 46 = .ok (.ireturn, 1) := by decide +kernel
theorem dX6_focus_47 : decode cX6_focus 47 = .ok (.iload_n 3, 1) := by decide +kernel
theorem dX6_focus_48 : decode cX6_focus 48 = .ok (.iload 5, 2) := by decide +kernel
theorem dX6_focus_50 : decode cX6_focus 50 = .ok (.ifCond .eq 7, 3) := by decide +kernel
theorem dX6_focus_53 : decode cX6_focus 53 = .ok (.iconst 1, 1) := by decide +kernel
theorem dX6_focus_54 : decode cX6_focus 54 = .ok (.goto 4, 3) := by decide +kernel
theorem dX6_focus_57 : decode cX6_focus 57 = .ok (.iconst 0, 1) := by decide +kernel
theorem dX6_focus_58 : decode cX6_focus 58 = .ok (.isub, 1) := by decide +kernel
theorem dX6_focus_59 : decode cX6_focus 59 = .ok (.istore_n 3, 1) := by decide +kernel
theorem dX6_focus_60 : decode cX6_focus 60 = .ok (.iinc 4 1, 3) := by decide +kernel
theorem dX6_focus_63 : decode cX6_focus 63 = .ok (.goto (-48), 3) := by decide +kernel
theorem dX6_focus_66 : decode cX6_focus 66 = .ok (.bipush (-2), 2) := by decide +kernel
theorem dX6_focus_68 : decode cX6_focus 68 = .ok (.ireturn, 1) := by decide +kernel
theorem dX6_value_0 : decode cX6_value 0 = .ok (.iload_n 1, 1) := by decide +kernel
theorem dX6_value_1 : decode cX6_value 1 = .ok (.iconst 0, 1) := by decide +kernel
theorem dX6_value_2 : decode cX6_value 2 = .ok (.bipush 31, 2) := by decide +kernel
theorem dX6_value_4 : decode cX6_value 4 = .ok (.invokestatic 66, 3) := by decide +kernel
theorem dX6_value_7 : decode cX6_value 7 = .ok (.ifCond .eq 11, 3) := by decide +kernel
theorem dX6_value_10 : decode cX6_value 10 = .ok (.aload_n 0, 1) := by decide +kernel
theorem dX6_value_11 : decode cX6_value 11 = .ok (.iload_n 2, 1) := by decide +kernel
theorem dX6_value_12 : decode cX6_value 12 = .ok (.invokevirtual 83, 3) := by decide +kernel
theorem dX6_value_15 : decode cX6_value 15 = .ok (.ifCond .ne 5, 3) := by decide +kernel
theorem dX6_value_18 : decode cX6_value 18 = .ok (.iconst (-1), 1) := by decide +kernel
theorem dX6_value_19 : decode cX6_value 19 = .ok (.ireturn, 1) := by decide +kernel
theorem dX6_value_20 : decode cX6_value 20 = .ok (.iload_n 3, 1) := by decide +kernel
theorem dX6_value_21 : decode cX6_value 21 = .ok (.istore 4, 2) := by decide +kernel
theorem dX6_value_23 : decode cX6_value 23 = .ok (.iconst 0, 1) := by decide +kernel
theorem dX6_value_24 : decode cX6_value 24 = .ok (.istore 5, 2) := by decide +kernel
theorem dX6_value_26 : decode cX6_value 26 = .ok (.iload 5, 2) := by decide +kernel
theorem dX6_value_28 : decode cX6_value 28 = .ok (.bipush 32, 2) := by decide +kernel
theorem dX6_value_30 : decode cX6_value 30 = .ok (.if_icmp .ge 51, 3) := by decide +kernel
theorem dX6_value_33 : decode cX6_value 33 = .ok (.iload_n 3, 1) := by decide +kernel
theorem dX6_value_34 : decode cX6_value 34 = .ok (.ifCond .lt 47, 3) := by decide +kernel
theorem dX6_value_37 : decode cX6_value 37 = .ok (.aload_n 0, 1) := by decide +kernel
theorem dX6_value_38 : decode cX6_value 38 = .ok (.iload_n 1, 1) := by decide +kernel
theorem dX6_value_39 : decode cX6_value 39 = .ok (.iload_n 2, 1) := by decide +kernel
theorem dX6_value_40 : decode cX6_value 40 = .ok (.iload 5, 2) := by decide +kernel
theorem dX6_value_42 : decode cX6_value 42 = .ok (.invokevirtual 122, 3) := by decide +kernel
theorem dX6_value_45 : decode cX6_value 45 = .ok (.istore 6, 2) := by decide +kernel
theorem dX6_value_47 : decode cX6_value 47 = .ok (.iload 6, 2) := by decide +kernel
theorem dX6_value_49 : decode cX6_value 49 = .ok (.ifCond .eq 11, 3) := by decide +kernel
theorem dX6_value_52 : decode cX6_value 52 = .ok (.iload 4, 2) := by decide +kernel
theorem dX6_value_54 : decode cX6_value 54 = .ok (.ifCond .ne 6, 3) := by decide +kernel
theorem dX6_value_57 : decode cX6_value 57 = .ok (.iload 5, 2) := by decide +kernel
theorem dX6_value_59 : decode cX6_value 59 = .ok (.ireturn, 1) := by decide +kernel
theorem dX6_value_60 : decode cX6_value 60 = .ok (.iload 4, 2) := by decide +kernel
theorem dX6_value_62 : decode cX6_value 62 = .ok (.iload 6, 2) := by decide +kernel
theorem dX6_value_64 : decode cX6_value 64 = .ok (.ifCond .eq 7, 3) := by decide +kernel
theorem dX6_value_67 : decode cX6_value 67 = .ok (.iconst 1, 1) := by decide +kernel
theorem dX6_value_68 : decode cX6_value 68 = .ok (.goto 4, 3) := by decide +kernel
theorem dX6_value_71 : decode cX6_value 71 = .ok (.iconst 0, 1) := by decide +kernel
theorem dX6_value_72 : decode cX6_value 72 = .ok (.isub, 1) := by decide +kernel
theorem dX6_value_73 : decode cX6_value 73 = .ok (.istore 4, 2) := by decide +kernel
theorem dX6_value_75 : decode cX6_value 75 = .ok (.iinc 5 1, 3) := by decide +kernel
theorem dX6_value_78 : decode cX6_value 78 = .ok (.goto (-52), 3) := by decide +kernel
theorem dX6_value_81 : decode cX6_value 81 = .ok (.bipush (-2), 2) := by decide +kernel
theorem dX6_value_83 : decode cX6_value 83 = .ok (.ireturn, 1) := by decide +kernel
theorem dX6_isOf_0 : decode cX6_isOf 0 = .ok (.iload_n 1, 1) := by decide +kernel
theorem dX6_isOf_1 : decode cX6_isOf 1 = .ok (.iconst 0, 1) := by decide +kernel
theorem dX6_isOf_2 : decode cX6_isOf 2 = .ok (.bipush 31, 2) := by decide +kernel
theorem dX6_isOf_4 : decode cX6_isOf 4 = .ok (.invokestatic 66, 3) := by decide +kernel
theorem dX6_isOf_7 : decode cX6_isOf 7 = .ok (.ifCond .eq 13, 3) := by decide +kernel
theorem dX6_isOf_10 : decode cX6_isOf 10 = .ok (.iload_n 2, 1) := by decide +kernel
theorem dX6_isOf_11 : decode cX6_isOf 11 = .ok (.iconst 0, 1) := by decide +kernel
theorem dX6_isOf_12 : decode cX6_isOf 12 = .ok (.bipush 19, 2) := by decide +kernel
theorem dX6_isOf_14 : decode cX6_isOf 14 = .ok (.invokestatic 66, 3) := by decide +kernel
theorem dX6_isOf_17 : decode cX6_isOf 17 = .ok (.ifCond .ne 7, 3) := by decide +kernel
theorem dX6_isOf_20 : decode cX6_isOf 20 = .ok (.iconst (-1), 1) := by decide +kernel
theorem dX6_isOf_21 : decode cX6_isOf 21 = .ok (.goto 17, 3) := by decide +kernel
theorem dX6_isOf_24 : decode cX6_isOf 24 = .ok (.aload_n 0, 1) := by decide +kernel
theorem dX6_isOf_25 : decode cX6_isOf 25 = .ok (.iload_n 1, 1) := by decide +kernel
theorem dX6_isOf_26 : decode cX6_isOf 26 = .ok (.iload_n 2, 1) := by decide +kernel
theorem dX6_isOf_27 : decode cX6_isOf 27 = .ok (.invokevirtual 106, 3) := by decide +kernel
theorem dX6_isOf_30 : decode cX6_isOf 30 = .ok (.ifCond .eq 7, 3) := by decide +kernel
theorem dX6_isOf_33 : decode cX6_isOf 33 = .ok (.iconst 1, 1) := by decide +kernel
theorem dX6_isOf_34 : decode cX6_isOf 34 = .ok (.goto 4, 3) := by decide +kernel
theorem dX6_isOf_37 : decode cX6_isOf 37 = .ok (.iconst 0, 1) := by decide +kernel
theorem dX6_isOf_38 : decode cX6_isOf 38 = .ok (.ireturn, 1) := by decide +kernel
theorem dX6_count_0 : decode cX6_count 0 = .ok (.iload_n 1, 1) := by decide +kernel
theorem dX6_count_1 : decode cX6_count 1 = .ok (.tableswitch 51 0 3 #[31, 36, 41, 46], 31) := by decide +kernel
theorem dX6_count_32 : decode cX6_count 32 = .ok (.aload_n 0, 1) := by decide +kernel
theorem dX6_count_33 : decode cX6_count 33 = .ok (.getfield 80, 3) := by decide +kernel
theorem dX6_count_36 : decode cX6_count 36 = .ok (.ireturn, 1) := by decide +kernel
theorem dX6_count_37 : decode cX6_count 37 = .ok (.aload_n 0, 1) := by decide +kernel
theorem dX6_count_38 : decode cX6_count 38 = .ok (.getfield 70, 3) := by decide +kernel
theorem dX6_count_41 : decode cX6_count 41 = .ok (.ireturn, 1) := by decide +kernel
theorem dX6_count_42 : decode cX6_count 42 = .ok (.aload_n 0, 1) := by decide +kernel
theorem dX6_count_43 : decode cX6_count 43 = .ok (.getfield 87, 3) := by decide +kernel
theorem dX6_count_46 : decode cX6_count 46 = .ok (.ireturn, 1) := by decide +kernel
theorem dX6_count_47 : decode cX6_count 47 = .ok (.aload_n 0, 1) := by decide +kernel
theorem dX6_count_48 : decode cX6_count 48 = .ok (.getfield 90, 3) := by decide +kernel
theorem dX6_count_51 : decode cX6_count 51 = .ok (.ireturn, 1) := by decide +kernel
theorem dX6_count_52 : decode cX6_count 52 = .ok (.iconst (-1), 1) := by decide +kernel
theorem dX6_count_53 : decode cX6_count 53 = .ok (.ireturn, 1) := by decide +kernel
