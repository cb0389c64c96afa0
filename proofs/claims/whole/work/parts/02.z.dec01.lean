theorem dX8_init_1 : decode cX8_init 1 = .ok (.invokespecial 3, 3) := by decide +kernel
theorem dX8_init_4 : decode cX8_init 4 = .ok (.aload_n 0, 1) := by decide +kernel
theorem dX8_init_5 : decode cX8_init 5 = .ok (.iconst 4, 1) := by decide +kernel
theorem dX8_init_6 : decode cX8_init 6 = .ok (.bipush 105, 2) := by decide +kernel
theorem dX8_init_8 : decode cX8_init 8 = .ok (.multianewarray 11 2, 4) := by decide +kernel
theorem dX8_init_12 : decode cX8_init 12 = .ok (.putfield 13, 3) := by decide +kernel
theorem dX8_init_15 : decode cX8_init 15 = .ok (.aload_n 0, 1) := by decide +kernel
theorem dX8_init_16 : decode cX8_init 16 = .ok (.iconst 3, 1) := by decide +kernel
theorem dX8_init_17 : decode cX8_init 17 = .ok (.bipush 105, 2) := by decide +kernel
theorem dX8_init_19 : decode cX8_init 19 = .ok (.multianewarray 11 2, 4) := by decide +kernel
theorem dX8_init_23 : decode cX8_init 23 = .ok (.putfield 16, 3) := by decide +kernel
theorem dX8_init_26 : decode cX8_init 26 = .ok (.aload_n 0, 1) := by decide +kernel
theorem dX8_init_27 : decode cX8_init 27 = .ok (.iconst 3, 1) := by decide +kernel
theorem dX8_init_28 : decode cX8_init 28 = .ok (.bipush 105, 2) := by decide +kernel
theorem dX8_init_30 : decode cX8_init 30 = .ok (.multianewarray 11 2, 4) := by decide +kernel
theorem dX8_init_34 : decode cX8_init 34 = .ok (.putfield 19, 3) := by decide +kernel
theorem dX8_init_37 : decode cX8_init 37 = .ok (.aload_n 0, 1) := by decide +kernel
theorem dX8_init_38 : decode cX8_init 38 = .ok (.aload_n 1, 1) := by decide +kernel
theorem dX8_init_39 : decode cX8_init 39 = .ok (.putfield 22, 3) := by decide +kernel
theorem dX8_init_42 : decode cX8_init 42 = .ok (.aload_n 0, 1) := by decide +kernel
theorem dX8_init_43 : decode cX8_init 43 = .ok (.aload_n 2, 1) := by decide +kernel
theorem dX8_init_44 : decode cX8_init 44 = .ok (.putfield 26, 3) := by decide +kernel
theorem dX8_init_47 : decode cX8_init 47 = .ok (.aload_n 0, 1) := by decide +kernel
theorem dX8_init_48 : decode cX8_init 48 = .ok (.new 30, 3) := by decide +kernel
theorem dX8_init_51 : decode cX8_init 51 = .ok (.dup, 1) := by decide +kernel
theorem dX8_init_52 : decode cX8_init 52 = .ok (.aload_n 1, 1) := by decide +kernel
theorem dX8_init_53 : decode cX8_init 53 = .ok (.invokespecial 32, 3) := by decide +kernel
theorem dX8_init_56 : decode cX8_init 56 = .ok (.putfield 35, 3) := by decide +kernel
theorem dX8_init_59 : decode cX8_init 59 = .ok (.return_, 1) := by decide +kernel
theorem dX8_plan_0 : decode cX8_plan 0 = .ok (.iconst 3, 1) := by decide +kernel
theorem dX8_plan_1 : decode cX8_plan 1 = .ok (.aload_n 1, 1) := by decide +kernel
theorem dX8_plan_2 : decode cX8_plan 2 = .ok (.iload_n 2, 1) := by decide +kernel
theorem dX8_plan_3 : decode cX8_plan 3 = .ok (.invokevirtual 39, 3) := by decide +kernel
theorem dX8_plan_6 : decode cX8_plan 6 = .ok (.invokestatic 45, 3) := by decide +kernel
theorem dX8_plan_9 : decode cX8_plan 9 = .ok (.istore_n 3, 1) := by decide +kernel
theorem dX8_plan_10 : decode cX8_plan 10 = .ok (.aload_n 0, 1) := by decide +kernel
theorem dX8_plan_11 : decode cX8_plan 11 = .ok (.aload_n 1, 1) := by decide +kernel
theorem dX8_plan_12 : decode cX8_plan 12 = .ok (.iload_n 2, 1) := by decide +kernel
theorem dX8_plan_13 : decode cX8_plan 13 = .ok (.iload_n 3, 1) := by decide +kernel
theorem dX8_plan_14 : decode cX8_plan 14 = .ok (.invokevirtual 51, 3) := by decide +kernel
theorem dX8_plan_17 : decode cX8_plan 17 = .ok (.iconst 0, 1) := by decide +kernel
theorem dX8_plan_18 : decode cX8_plan 18 = .ok (.istore 4, 2) := by decide +kernel
theorem dX8_plan_20 : decode cX8_plan 20 = .ok (.iload 4, 2) := by decide +kernel
theorem dX8_plan_22 : decode cX8_plan 22 = .ok (.iload_n 3, 1) := by decide +kernel
theorem dX8_plan_23 : decode cX8_plan 23 = .ok (.if_icmp .ge 66, 3) := by decide +kernel
theorem dX8_plan_26 : decode cX8_plan 26 = .ok (.iconst 1, 1) := by decide +kernel
theorem dX8_plan_27 : decode cX8_plan 27 = .ok (.istore 5, 2) := by decide +kernel
theorem dX8_plan_29 : decode cX8_plan 29 = .ok (.iload 5, 2) := by decide +kernel
theorem dX8_plan_31 : decode cX8_plan 31 = .ok (.bipush 99, 2) := by decide +kernel
theorem dX8_plan_33 : decode cX8_plan 33 = .ok (.if_icmp .gt 50, 3) := by decide +kernel
theorem dX8_plan_36 : decode cX8_plan 36 = .ok (.aload_n 0, 1) := by decide +kernel
theorem dX8_plan_37 : decode cX8_plan 37 = .ok (.iload 5, 2) := by decide +kernel
theorem dX8_plan_39 : decode cX8_plan 39 = .ok (.iload 4, 2) := by decide +kernel
theorem dX8_plan_41 : decode cX8_plan 41 = .ok (.invokevirtual 55, 3) := by decide +kernel
theorem dX8_plan_44 : decode cX8_plan 44 = .ok (.aload_n 0, 1) := by decide +kernel
theorem dX8_plan_45 : decode cX8_plan 45 = .ok (.getfield 16, 3) := by decide +kernel
theorem dX8_plan_48 : decode cX8_plan 48 = .ok (.iload 4, 2) := by decide +kernel
theorem dX8_plan_50 : decode cX8_plan 50 = .ok (.aaload, 1) := by decide +kernel
theorem dX8_plan_51 : decode cX8_plan 51 = .ok (.iload 5, 2) := by decide +kernel
theorem dX8_plan_53 : decode cX8_plan 53 = .ok (.aload_n 0, 1) := by decide +kernel
theorem dX8_plan_54 : decode cX8_plan 54 = .ok (.getfield 19, 3) := by decide +kernel
theorem dX8_plan_57 : decode cX8_plan 57 = .ok (.iload 4, 2) := by decide +kernel
theorem dX8_plan_59 : decode cX8_plan 59 = .ok (.aaload, 1) := by decide +kernel
theorem dX8_plan_60 : decode cX8_plan 60 = .ok (.bipush 104, 2) := by decide +kernel
theorem dX8_plan_62 : decode cX8_plan 62 = .ok (.iload 5, 2) := by decide +kernel
theorem dX8_plan_64 : decode cX8_plan 64 = .ok (.aload_n 0, 1) := by decide +kernel
theorem dX8_plan_65 : decode cX8_plan 65 = .ok (.getfield 22, 3) := by decide +kernel
theorem dX8_plan_68 : decode cX8_plan 68 = .ok (.invokevirtual 59, 3) := by decide +kernel
theorem dX8_plan_71 : decode cX8_plan 71 = .ok (.iadd, 1) := by decide +kernel
theorem dX8_plan_72 : decode cX8_plan 72 = .ok (.invokestatic 45, 3) := by decide +kernel
theorem dX8_plan_75 : decode cX8_plan 75 = .ok (.iaload, 1) := by decide +kernel
theorem dX8_plan_76 : decode cX8_plan 76 = .ok (.iastore, 1) := by decide +kernel
theorem dX8_plan_77 : decode cX8_plan 77 = .ok (.iinc 5 1, 3) := by decide +kernel
theorem dX8_plan_80 : decode cX8_plan 80 = .ok (.goto (-51), 3) := by decide +kernel
theorem dX8_plan_83 : decode cX8_plan 83 = .ok (.iinc 4 1, 3) := by decide +kernel
theorem dX8_plan_86 : decode cX8_plan 86 = .ok (.goto (-66), 3) := by decide +kernel
theorem dX8_plan_89 : decode cX8_plan 89 = .ok (.aload_n 0, 1) := by decide +kernel
theorem dX8_plan_90 : decode cX8_plan 90 = .ok (.aload_n 1, 1) := by decide +kernel
theorem dX8_plan_91 : decode cX8_plan 91 = .ok (.aload_n 1, 1) := by decide +kernel
theorem dX8_plan_92 : decode cX8_plan 92 = .ok (.invokevirtual 65, 3) := by decide +kernel
theorem dX8_plan_95 : decode cX8_plan 95 = .ok (.ifCond .ne 7, 3) := by decide +kernel
theorem dX8_plan_98 : decode cX8_plan 98 = .ok (.iconst 0, 1) := by decide +kernel
theorem dX8_plan_99 : decode cX8_plan 99 = .ok (.goto 4, 3) := by decide +kernel
theorem dX8_plan_102 : decode cX8_plan 102 = .ok (.iconst 1, 1) := by decide +kernel
theorem dX8_plan_103 : decode cX8_plan 103 = .ok (.iload_n 2, 1) := by decide +kernel
theorem dX8_plan_104 : decode cX8_plan 104 = .ok (.invokevirtual 68, 3) := by decide +kernel
theorem dX8_plan_107 : decode cX8_plan 107 = .ok (.iload_n 3, 1) := by decide +kernel
theorem dX8_plan_108 : decode cX8_plan 108 = .ok (.iconst 1, 1) := by decide +kernel
theorem dX8_plan_109 : decode cX8_plan 109 = .ok (.isub, 1) := by decide +kernel
theorem dX8_plan_110 : decode cX8_plan 110 = .ok (.invokevirtual 55, 3) := by decide +kernel
theorem dX8_plan_113 : decode cX8_plan 113 = .ok (.aload_n 0, 1) := by decide +kernel
theorem dX8_plan_114 : decode cX8_plan 114 = .ok (.iconst (-1), 1) := by decide +kernel
theorem dX8_plan_115 : decode cX8_plan 115 = .ok (.putfield 71, 3) := by decide +kernel
theorem dX8_plan_118 : decode cX8_plan 118 = .ok (.aload_n 1, 1) := by decide +kernel
theorem dX8_plan_119 : decode cX8_plan 119 = .ok (.iload_n 2, 1) := by decide +kernel
theorem dX8_plan_120 : decode cX8_plan 120 = .ok (.invokevirtual 75, 3) := by decide +kernel
theorem dX8_plan_123 : decode cX8_plan 123 = .ok (.istore 4, 2) := by decide +kernel
theorem dX8_plan_125 : decode cX8_plan 125 = .ok (.iload 4, 2) := by decide +kernel
theorem dX8_plan_127 : decode cX8_plan 127 = .ok (.bipush 99, 2) := by decide +kernel
theorem dX8_plan_129 : decode cX8_plan 129 = .ok (.if_icmp .gt 39, 3) := by decide +kernel
theorem dX8_plan_132 : decode cX8_plan 132 = .ok (.aload_n 0, 1) := by decide +kernel
theorem dX8_plan_133 : decode cX8_plan 133 = .ok (.iload 4, 2) := by decide +kernel
theorem dX8_plan_135 : decode cX8_plan 135 = .ok (.iload_n 3, 1) := by decide +kernel
theorem dX8_plan_136 : decode cX8_plan 136 = .ok (.invokevirtual 78, 3) := by decide +kernel
theorem dX8_plan_139 : decode cX8_plan 139 = .ok (.istore 5, 2) := by decide +kernel
theorem dX8_plan_141 : decode cX8_plan 141 = .ok (.iload 5, 2) := by decide +kernel
theorem dX8_plan_143 : decode cX8_plan 143 = .ok (.aload_n 0, 1) := by decide +kernel
theorem dX8_plan_144 : decode cX8_plan 144 = .ok (.getfield 71, 3) := by decide +kernel
theorem dX8_plan_147 : decode cX8_plan 147 = .ok (.if_icmp .le 15, 3) := by decide +kernel
theorem dX8_plan_150 : decode cX8_plan 150 = .ok (.aload_n 0, 1) := by decide +kernel
theorem dX8_plan_151 : decode cX8_plan 151 = .ok (.iload 5, 2) := by decide +kernel
theorem dX8_plan_153 : decode cX8_plan 153 = .ok (.putfield 71, 3) := by decide +kernel
theorem dX8_plan_156 : decode cX8_plan 156 = .ok (.aload_n 0, 1) := by decide +kernel
theorem dX8_plan_157 : decode cX8_plan 157 = .ok (.iload 4, 2) := by decide +kernel
theorem dX8_plan_159 : decode cX8_plan 159 = .ok (.putfield 81, 3) := by decide +kernel
theorem dX8_plan_162 : decode cX8_plan 162 = .ok (.iinc 4 1, 3) := by decide +kernel
theorem dX8_plan_165 : decode cX8_plan 165 = .ok (.goto (-40), 3) := by decide +kernel
theorem dX8_plan_168 : decode cX8_plan 168 = .ok (.return_, 1) := by decide +kernel
theorem dX8_seeChances_0 : decode cX8_seeChances 0 = .ok (.aload_n 0, 1) := by decide +kernel
theorem dX8_seeChances_1 : decode cX8_seeChances 1 = .ok (.getfield 35, 3) := by decide +kernel
theorem dX8_seeChances_4 : decode cX8_seeChances 4 = .ok (.aload_n 1, 1) := by decide +kernel
theorem dX8_seeChances_5 : decode cX8_seeChances 5 = .ok (.iload_n 2, 1) := by decide +kernel
theorem dX8_seeChances_6 : decode cX8_seeChances 6 = .ok (.invokevirtual 84, 3) := by decide +kernel
theorem dX8_seeChances_9 : decode cX8_seeChances 9 = .ok (.aload_n 0, 1) := by decide +kernel
theorem dX8_seeChances_10 : decode cX8_seeChances 10 = .ok (.getfield 35, 3) := by decide +kernel
theorem dX8_seeChances_13 : decode cX8_seeChances 13 = .ok (.iconst 0, 1) := by decide +kernel
theorem dX8_seeChances_14 : decode cX8_seeChances 14 = .ok (.putfield 88, 3) := by decide +kernel
theorem dX8_seeChances_17 : decode cX8_seeChances 17 = .ok (.iload_n 3, 1) := by decide +kernel
theorem dX8_seeChances_18 : decode cX8_seeChances 18 = .ok (.istore 4, 2) := by decide +kernel
theorem dX8_seeChances_20 : decode cX8_seeChances 20 = .ok (.iload 4, 2) := by decide +kernel
theorem dX8_seeChances_22 : decode cX8_seeChances 22 = .ok (.ifCond .le 55, 3) := by decide +kernel
theorem dX8_seeChances_25 : decode cX8_seeChances 25 = .ok (.iconst 1, 1) := by decide +kernel
theorem dX8_seeChances_26 : decode cX8_seeChances 26 = .ok (.istore 5, 2) := by decide +kernel
theorem dX8_seeChances_28 : decode cX8_seeChances 28 = .ok (.iload 5, 2) := by decide +kernel
theorem dX8_seeChances_30 : decode cX8_seeChances 30 = .ok (.bipush 99, 2) := by decide +kernel
theorem dX8_seeChances_32 : decode cX8_seeChances 32 = .ok (.if_icmp .gt 32, 3) := by decide +kernel
theorem dX8_seeChances_35 : decode cX8_seeChances 35 = .ok (.aload_n 0, 1) := by decide +kernel
theorem dX8_seeChances_36 : decode cX8_seeChances 36 = .ok (.getfield 13, 3) := by decide +kernel
theorem dX8_seeChances_39 : decode cX8_seeChances 39 = .ok (.iload 4, 2) := by decide +kernel
theorem dX8_seeChances_41 : decode cX8_seeChances 41 = .ok (.aaload, 1) := by decide +kernel
theorem dX8_seeChances_42 : decode cX8_seeChances 42 = .ok (.iload 5, 2) := by decide +kernel
theorem dX8_seeChances_44 : decode cX8_seeChances 44 = .ok (.aload_n 0, 1) := by decide +kernel
theorem dX8_seeChances_45 : decode cX8_seeChances 45 = .ok (.getfield 26, 3) := by decide +kernel
theorem dX8_seeChances_48 : decode cX8_seeChances 48 = .ok (.aload_n 0, 1) := by decide +kernel
theorem dX8_seeChances_49 : decode cX8_seeChances 49 = .ok (.getfield 35, 3) := by decide +kernel
theorem dX8_seeChances_52 : decode cX8_seeChances 52 = .ok (.iload 5, 2) := by decide +kernel
theorem dX8_seeChances_54 : decode cX8_seeChances 54 = .ok (.invokevirtual 91, 3) := by decide +kernel
theorem dX8_seeChances_57 : decode cX8_seeChances 57 = .ok (.iastore, 1) := by decide +kernel
theorem dX8_seeChances_58 : decode cX8_seeChances 58 = .ok (.iinc 5 1, 3) := by decide +kernel
theorem dX8_seeChances_61 : decode cX8_seeChances 61 = .ok (.goto (-33), 3) := by decide +kernel
theorem dX8_seeChances_64 : decode cX8_seeChances 64 = .ok (.aload_n 0, 1) := by decide +kernel
theorem dX8_seeChances_65 : decode cX8_seeChances 65 = .ok (.getfield 35, 3) := by decide +kernel
theorem dX8_seeChances_68 : decode cX8_seeChances 68 = .ok (.invokevirtual 97, 3) := by decide +kernel
theorem dX8_seeChances_71 : decode cX8_seeChances 71 = .ok (.iinc 4 (-1), 3) := by decide +kernel
theorem dX8_seeChances_74 : decode cX8_seeChances 74 = .ok (.goto (-54), 3) := by decide +kernel
theorem dX8_seeChances_77 : decode cX8_seeChances 77 = .ok (.return_, 1) := by decide +kernel
theorem dX8_fillRows_0 : decode cX8_fillRows 0 = .ok (.aload_n 0, 1) := by decide +kernel
theorem dX8_fillRows_1 : decode cX8_fillRows 1 = .ok (.getfield 19, 3) := by decide +kernel
theorem dX8_fillRows_4 : decode cX8_fillRows 4 = .ok (.iconst 0, 1) := by decide +kernel
theorem dX8_fillRows_5 : decode cX8_fillRows 5 = .ok (.aaload, 1) := by decide +kernel
theorem dX8_fillRows_6 : decode cX8_fillRows 6 = .ok (.iload_n 1, 1) := by decide +kernel
theorem dX8_fillRows_7 : decode cX8_fillRows 7 = .ok (.sipush 1000, 3) := by decide +kernel
theorem dX8_fillRows_10 : decode cX8_fillRows 10 = .ok (.imul, 1) := by decide +kernel
theorem dX8_fillRows_11 : decode cX8_fillRows 11 = .ok (.invokestatic 100, 3) := by decide +kernel
theorem dX8_fillRows_14 : decode cX8_fillRows 14 = .ok (.iconst 1, 1) := by decide +kernel
theorem dX8_fillRows_15 : decode cX8_fillRows 15 = .ok (.istore_n 3, 1) := by decide +kernel
theorem dX8_fillRows_16 : decode cX8_fillRows 16 = .ok (.iload_n 3, 1) := by decide +kernel
theorem dX8_fillRows_17 : decode cX8_fillRows 17 = .ok (.iload_n 2, 1) := by decide +kernel
theorem dX8_fillRows_18 : decode cX8_fillRows 18 = .ok (.if_icmp .gt 90, 3) := by decide +kernel
theorem dX8_fillRows_21 : decode cX8_fillRows 21 = .ok (.iload_n 3, 1) := by decide +kernel
theorem dX8_fillRows_22 : decode cX8_fillRows 22 = .ok (.iconst 3, 1) := by decide +kernel
theorem dX8_fillRows_23 : decode cX8_fillRows 23 = .ok (.if_icmp .ge 85, 3) := by decide +kernel
theorem dX8_fillRows_26 : decode cX8_fillRows 26 = .ok (.aload_n 0, 1) := by decide +kernel
theorem dX8_fillRows_27 : decode cX8_fillRows 27 = .ok (.getfield 19, 3) := by decide +kernel
theorem dX8_fillRows_30 : decode cX8_fillRows 30 = .ok (.iload_n 3, 1) := by decide +kernel
theorem dX8_fillRows_31 : decode cX8_fillRows 31 = .ok (.aaload, 1) := by decide +kernel
theorem dX8_fillRows_32 : decode cX8_fillRows 32 = .ok (.iload_n 1, 1) := by decide +kernel
theorem dX8_fillRows_33 : decode cX8_fillRows 33 = .ok (.sipush 1000, 3) := by decide +kernel
theorem dX8_fillRows_36 : decode cX8_fillRows 36 = .ok (.imul, 1) := by decide +kernel
theorem dX8_fillRows_37 : decode cX8_fillRows 37 = .ok (.invokestatic 100, 3) := by decide +kernel
theorem dX8_fillRows_40 : decode cX8_fillRows 40 = .ok (.bipush 99, 2) := by decide +kernel
theorem dX8_fillRows_42 : decode cX8_fillRows 42 = .ok (.istore 4, 2) := by decide +kernel
theorem dX8_fillRows_44 : decode cX8_fillRows 44 = .ok (.iload 4, 2) := by decide +kernel
theorem dX8_fillRows_46 : decode cX8_fillRows 46 = .ok (.iconst 1, 1) := by decide +kernel
theorem dX8_fillRows_47 : decode cX8_fillRows 47 = .ok (.if_icmp .lt 55, 3) := by decide +kernel
theorem dX8_fillRows_50 : decode cX8_fillRows 50 = .ok (.aload_n 0, 1) := by decide +kernel
theorem dX8_fillRows_51 : decode cX8_fillRows 51 = .ok (.iload 4, 2) := by decide +kernel
theorem dX8_fillRows_53 : decode cX8_fillRows 53 = .ok (.iload_n 3, 1) := by decide +kernel
theorem dX8_fillRows_54 : decode cX8_fillRows 54 = .ok (.invokevirtual 78, 3) := by decide +kernel
theorem dX8_fillRows_57 : decode cX8_fillRows 57 = .ok (.istore 5, 2) := by decide +kernel
theorem dX8_fillRows_59 : decode cX8_fillRows 59 = .ok (.aload_n 0, 1) := by decide +kernel
theorem dX8_fillRows_60 : decode cX8_fillRows 60 = .ok (.getfield 19, 3) := by decide +kernel
theorem dX8_fillRows_63 : decode cX8_fillRows 63 = .ok (.iload_n 3, 1) := by decide +kernel
theorem dX8_fillRows_64 : decode cX8_fillRows 64 = .ok (.aaload, 1) := by decide +kernel
theorem dX8_fillRows_65 : decode cX8_fillRows 65 = .ok (.iload 4, 2) := by decide +kernel
theorem dX8_fillRows_67 : decode cX8_fillRows 67 = .ok (.iload 4, 2) := by decide +kernel
theorem dX8_fillRows_69 : decode cX8_fillRows 69 = .ok (.bipush 99, 2) := by decide +kernel
theorem dX8_fillRows_71 : decode cX8_fillRows 71 = .ok (.if_icmp .ne 8, 3) := by decide +kernel
theorem dX8_fillRows_74 : decode cX8_fillRows 74 = .ok (.iload 5, 2) := by decide +kernel
theorem dX8_fillRows_76 : decode cX8_fillRows 76 = .ok (.goto 19, 3) := by decide +kernel
theorem dX8_fillRows_79 : decode cX8_fillRows 79 = .ok (.iload 5, 2) := by decide +kernel
theorem dX8_fillRows_81 : decode cX8_fillRows 81 = .ok (.aload_n 0, 1) := by decide +kernel
theorem dX8_fillRows_82 : decode cX8_fillRows 82 = .ok (.getfield 19, 3) := by decide +kernel
theorem dX8_fillRows_85 : decode cX8_fillRows 85 = .ok (.iload_n 3, 1) := by decide +kernel
theorem dX8_fillRows_86 : decode cX8_fillRows 86 = .ok (.aaload, 1) := by decide +kernel
theorem dX8_fillRows_87 : decode cX8_fillRows 87 = .ok (.iload 4, 2) := by decide +kernel
theorem dX8_fillRows_89 : decode cX8_fillRows 89 = .ok (.iconst 1, 1) := by decide +kernel
theorem dX8_fillRows_90 : decode cX8_fillRows 90 = .ok (.iadd, 1) := by decide +kernel
theorem dX8_fillRows_91 : decode cX8_fillRows 91 = .ok (.iaload, 1) := by decide +kernel
theorem dX8_fillRows_92 : decode cX8_fillRows 92 = .ok (.invokestatic 106, 3) := by decide +kernel
theorem dX8_fillRows_95 : decode cX8_fillRows 95 = .ok (.iastore, 1) := by decide +kernel
theorem dX8_fillRows_96 : decode cX8_fillRows 96 = .ok (.iinc 4 (-1), 3) := by decide +kernel
theorem dX8_fillRows_99 : decode cX8_fillRows 99 = .ok (.goto (-55), 3) := by decide +kernel
theorem dX8_fillRows_102 : decode cX8_fillRows 102 = .ok (.iinc 3 1, 3) := by decide +kernel
theorem dX8_fillRows_105 : decode cX8_fillRows 105 = .ok (.goto (-89), 3) := by decide +kernel
theorem dX8_fillRows_108 : decode cX8_fillRows 108 = .ok (.return_, 1) := by decide +kernel
theorem dX8_meanOfAsking_0 : decode cX8_meanOfAsking 0 = .ok (.aload_n 0, 1) := by decide +kernel
theorem dX8_meanOfAsking_1 : decode cX8_meanOfAsking 1 = .ok (.getfield 13, 3) := by decide +kernel
theorem dX8_meanOfAsking_4 : decode cX8_meanOfAsking 4 = .ok (.iload_n 2, 1) := by decide +kernel
theorem dX8_meanOfAsking_5 : decode cX8_meanOfAsking 5 = .ok (.aaload, 1) := by decide +kernel
theorem dX8_meanOfAsking_6 : decode cX8_meanOfAsking 6 = .ok (.iload_n 1, 1) := by decide +kernel
theorem dX8_meanOfAsking_7 : decode cX8_meanOfAsking 7 = .ok (.iaload, 1) := by decide +kernel
theorem dX8_meanOfAsking_8 : decode cX8_meanOfAsking 8 = .ok (.istore_n 3, 1) := by decide +kernel
theorem dX8_meanOfAsking_9 : decode cX8_meanOfAsking 9 = .ok (.iload_n 3, 1) := by decide +kernel
theorem dX8_meanOfAsking_10 : decode cX8_meanOfAsking 10 = .ok (.aload_n 0, 1) := by decide +kernel
theorem dX8_meanOfAsking_11 : decode cX8_meanOfAsking 11 = .ok (.getfield 16, 3) := by decide +kernel
theorem dX8_meanOfAsking_14 : decode cX8_meanOfAsking 14 = .ok (.iload_n 2, 1) := by decide +kernel
theorem dX8_meanOfAsking_15 : decode cX8_meanOfAsking 15 = .ok (.iconst 1, 1) := by decide +kernel
theorem dX8_meanOfAsking_16 : decode cX8_meanOfAsking 16 = .ok (.isub, 1) := by decide +kernel
theorem dX8_meanOfAsking_17 : decode cX8_meanOfAsking 17 = .ok (.aaload, 1) := by decide +kernel
theorem dX8_meanOfAsking_18 : decode cX8_meanOfAsking 18 = .ok (.iload_n 1, 1) := by decide +kernel
theorem dX8_meanOfAsking_19 : decode cX8_meanOfAsking 19 = .ok (.iaload, 1) := by decide +kernel
theorem dX8_meanOfAsking_20 : decode cX8_meanOfAsking 20 = .ok (.imul, 1) := by decide +kernel
theorem dX8_meanOfAsking_21 : decode cX8_meanOfAsking 21 = .ok (.bipush 100, 2) := by decide +kernel
theorem dX8_meanOfAsking_23 : decode cX8_meanOfAsking 23 = .ok (.iload_n 3, 1) := by decide +kernel
theorem dX8_meanOfAsking_24 : decode cX8_meanOfAsking 24 = .ok (.isub, 1) := by decide +kernel
theorem dX8_meanOfAsking_25 : decode cX8_meanOfAsking 25 = .ok (.aload_n 0, 1) := by decide +kernel
theorem dX8_meanOfAsking_26 : decode cX8_meanOfAsking 26 = .ok (.getfield 19, 3) := by decide +kernel
theorem dX8_meanOfAsking_29 : decode cX8_meanOfAsking 29 = .ok (.iload_n 2, 1) := by decide +kernel
theorem dX8_meanOfAsking_30 : decode cX8_meanOfAsking 30 = .ok (.iconst 1, 1) := by decide +kernel
theorem dX8_meanOfAsking_31 : decode cX8_meanOfAsking 31 = .ok (.isub, 1) := by decide +kernel
theorem dX8_meanOfAsking_32 : decode cX8_meanOfAsking 32 = .ok (.aaload, 1) := by decide +kernel
theorem dX8_meanOfAsking_33 : decode cX8_meanOfAsking 33 = .ok (.iload_n 1, 1) := by decide +kernel
theorem dX8_meanOfAsking_34 : decode cX8_meanOfAsking 34 = .ok (.iaload, 1) := by decide +kernel
theorem dX8_meanOfAsking_35 : decode cX8_meanOfAsking 35 = .ok (.imul, 1) := by decide +kernel
theorem dX8_meanOfAsking_36 : decode cX8_meanOfAsking 36 = .ok (.iadd, 1) := by decide +kernel
theorem dX8_meanOfAsking_37 : decode cX8_meanOfAsking 37 = .ok (.bipush 100, 2) := by decide +kernel
theorem dX8_meanOfAsking_39 : decode cX8_meanOfAsking 39 = .ok (.idiv, 1) := by decide +kernel
theorem dX8_meanOfAsking_40 : decode cX8_meanOfAsking 40 = .ok (.ireturn, 1) := by decide +kernel
theorem dX8_emptyParts_0 : decode cX8_emptyParts 0 = .ok (.aload_n 1, 1) := by decide +kernel
theorem dX8_emptyParts_1 : decode cX8_emptyParts 1 = .ok (.aload_n 1, 1) := by decide +kernel
theorem dX8_emptyParts_2 : decode cX8_emptyParts 2 = .ok (.invokevirtual 65, 3) := by decide +kernel
theorem dX8_emptyParts_5 : decode cX8_emptyParts 5 = .ok (.ifCond .ne 7, 3) := by decide +kernel
theorem dX8_emptyParts_8 : decode cX8_emptyParts 8 = .ok (.iconst 0, 1) := by decide +kernel
theorem dX8_emptyParts_9 : decode cX8_emptyParts 9 = .ok (.goto 4, 3) := by decide +kernel
theorem dX8_emptyParts_12 : decode cX8_emptyParts 12 = .ok (.iconst 1, 1) := by decide +kernel
theorem dX8_emptyParts_13 : decode cX8_emptyParts 13 = .ok (.iload_n 2, 1) := by decide +kernel
theorem dX8_emptyParts_14 : decode cX8_emptyParts 14 = .ok (.invokevirtual 68, 3) := by decide +kernel
theorem dX8_emptyParts_17 : decode cX8_emptyParts 17 = .ok (.ifCond .le 5, 3) := by decide +kernel
theorem dX8_emptyParts_20 : decode cX8_emptyParts 20 = .ok (.iconst 0, 1) := by decide +kernel
theorem dX8_emptyParts_21 : decode cX8_emptyParts 21 = .ok (.ireturn, 1) := by decide +kernel
theorem dX8_emptyParts_22 : decode cX8_emptyParts 22 = .ok (.aload_n 0, 1) := by decide +kernel
theorem dX8_emptyParts_23 : decode cX8_emptyParts 23 = .ok (.getfield 35, 3) := by decide +kernel
theorem dX8_emptyParts_26 : decode cX8_emptyParts 26 = .ok (.aload_n 1, 1) := by decide +kernel
theorem dX8_emptyParts_27 : decode cX8_emptyParts 27 = .ok (.iload_n 2, 1) := by decide +kernel
theorem dX8_emptyParts_28 : decode cX8_emptyParts 28 = .ok (.invokevirtual 84, 3) := by decide +kernel
theorem dX8_emptyParts_31 : decode cX8_emptyParts 31 = .ok (.aload_n 0, 1) := by decide +kernel
theorem dX8_emptyParts_32 : decode cX8_emptyParts 32 = .ok (.getfield 35, 3) := by decide +kernel
theorem dX8_emptyParts_35 : decode cX8_emptyParts 35 = .ok (.iconst 0, 1) := by decide +kernel
theorem dX8_emptyParts_36 : decode cX8_emptyParts 36 = .ok (.putfield 88, 3) := by decide +kernel
theorem dX8_emptyParts_39 : decode cX8_emptyParts 39 = .ok (.ldc2_w 109, 3) := by decide +kernel
theorem dX8_emptyParts_42 : decode cX8_emptyParts 42 = .ok (.lstore_n 3, 1) := by decide +kernel
theorem dX8_emptyParts_43 : decode cX8_emptyParts 43 = .ok (.aload_n 1, 1) := by decide +kernel
theorem dX8_emptyParts_44 : decode cX8_emptyParts 44 = .ok (.iload_n 2, 1) := by decide +kernel
theorem dX8_emptyParts_45 : decode cX8_emptyParts 45 = .ok (.invokevirtual 39, 3) := by decide +kernel
theorem dX8_emptyParts_48 : decode cX8_emptyParts 48 = .ok (.istore 5, 2) := by decide +kernel
theorem dX8_emptyParts_50 : decode cX8_emptyParts 50 = .ok (.iload 5, 2) := by decide +kernel
theorem dX8_emptyParts_52 : decode cX8_emptyParts 52 = .ok (.ifCond .le 42, 3) := by decide +kernel
theorem dX8_emptyParts_55 : decode cX8_emptyParts 55 = .ok (.lload_n 3, 1) := by decide +kernel
theorem dX8_emptyParts_56 : decode cX8_emptyParts 56 = .ok (.lload_n 3, 1) := by decide +kernel
theorem dX8_emptyParts_57 : decode cX8_emptyParts 57 = .ok (.aload_n 0, 1) := by decide +kernel
theorem dX8_emptyParts_58 : decode cX8_emptyParts 58 = .ok (.getfield 26, 3) := by decide +kernel
theorem dX8_emptyParts_61 : decode cX8_emptyParts 61 = .ok (.aload_n 0, 1) := by decide +kernel
theorem dX8_emptyParts_62 : decode cX8_emptyParts 62 = .ok (.getfield 35, 3) := by decide +kernel
theorem dX8_emptyParts_65 : decode cX8_emptyParts 65 = .ok (.aload_n 1, 1) := by decide +kernel
theorem dX8_emptyParts_66 : decode cX8_emptyParts 66 = .ok (.iload_n 2, 1) := by decide +kernel
theorem dX8_emptyParts_67 : decode cX8_emptyParts 67 = .ok (.invokevirtual 75, 3) := by decide +kernel
theorem dX8_emptyParts_70 : decode cX8_emptyParts 70 = .ok (.invokevirtual 91, 3) := by decide +kernel
theorem dX8_emptyParts_73 : decode cX8_emptyParts 73 = .ok (.i2l, 1) := by decide +kernel
theorem dX8_emptyParts_74 : decode cX8_emptyParts 74 = .ok (.lmul, 1) := by decide +kernel
theorem dX8_emptyParts_75 : decode cX8_emptyParts 75 = .ok (.ldc2_w 111, 3) := by decide +kernel
theorem dX8_emptyParts_78 : decode cX8_emptyParts 78 = .ok (.ldiv, 1) := by decide +kernel
theorem dX8_emptyParts_79 : decode cX8_emptyParts 79 = .ok (.lsub, 1) := by decide +kernel
theorem dX8_emptyParts_80 : decode cX8_emptyParts 80 = .ok (.lstore_n 3, 1) := by decide +kernel
theorem dX8_emptyParts_81 : decode cX8_emptyParts 81 = .ok (.aload_n 0, 1) := by decide +kernel
theorem dX8_emptyParts_82 : decode cX8_emptyParts 82 = .ok (.getfield 35, 3) := by decide +kernel
theorem dX8_emptyParts_85 : decode cX8_emptyParts 85 = .ok (.invokevirtual 97, 3) := by decide +kernel
theorem dX8_emptyParts_88 : decode cX8_emptyParts 88 = .ok (.iinc 5 (-1), 3) := by decide +kernel
theorem dX8_emptyParts_91 : decode cX8_emptyParts 91 = .ok (.goto (-41), 3) := by decide +kernel
theorem dX8_emptyParts_94 : decode cX8_emptyParts 94 = .ok (.lload_n 3, 1) := by decide +kernel
theorem dX8_emptyParts_95 : decode cX8_emptyParts 95 = .ok (.l2i, 1) := by decide +kernel
theorem dX8_emptyParts_96 : decode cX8_emptyParts 96 = .ok (.ireturn, 1) := by decide +kernel
theorem dX9_init_0 : decode cX9_init 0 = .ok (.aload_n 0, 1) := by decide +kernel
theorem dX9_init_1 : decode cX9_init 1 = .ok (.invokespecial 3, 3) := by decide +kernel
theorem dX9_init_4 : decode cX9_init 4 = .ok (.aload_n 0, 1) := by decide +kernel
theorem dX9_init_5 : decode cX9_init 5 = .ok (.bipush 71, 2) := by decide +kernel
theorem dX9_init_7 : decode cX9_init 7 = .ok (.newarray .int, 2) := by decide +kernel
theorem dX9_init_9 : decode cX9_init 9 = .ok (.putfield 11, 3) := by decide +kernel
theorem dX9_init_12 : decode cX9_init 12 = .ok (.aload_n 0, 1) := by decide +kernel
theorem dX9_init_13 : decode cX9_init 13 = .ok (.aload_n 1, 1) := by decide +kernel
theorem dX9_init_14 : decode cX9_init 14 = .ok (.putfield 15, 3) := by decide +kernel
theorem dX9_init_17 : decode cX9_init 17 = .ok (.return_, 1) := by decide +kernel
theorem dX9_become_0 : decode cX9_become 0 = .ok (.aload_n 1, 1) := by decide +kernel
theorem dX9_become_1 : decode cX9_become 1 = .ok (.getfield 11, 3) := by decide +kernel
theorem dX9_become_4 : decode cX9_become 4 = .ok (.iconst 0, 1) := by decide +kernel
theorem dX9_become_5 : decode cX9_become 5 = .ok (.aload_n 0, 1) := by decide +kernel
theorem dX9_become_6 : decode cX9_become 6 = .ok (.getfield 11, 3) := by decide +kernel
theorem dX9_become_9 : decode cX9_become 9 = .ok (.iconst 0, 1) := by decide +kernel
theorem dX9_become_10 : decode cX9_become 10 = .ok (.bipush 71, 2) := by decide +kernel
theorem dX9_become_12 : decode cX9_become 12 = .ok (.invokestatic 19, 3) := by decide +kernel
theorem dX9_become_15 : decode cX9_become 15 = .ok (.return_, 1) := by decide +kernel
theorem dX9_of_0 : decode cX9_of 0 = .ok (.aload_n 0, 1) := by decide +kernel
theorem dX9_of_1 : decode cX9_of 1 = .ok (.getfield 11, 3) := by decide +kernel
theorem dX9_of_4 : decode cX9_of 4 = .ok (.iload_n 1, 1) := by decide +kernel
theorem dX9_of_5 : decode cX9_of 5 = .ok (.iload_n 2, 1) := by decide +kernel
theorem dX9_of_6 : decode cX9_of 6 = .ok (.iadd, 1) := by decide +kernel
theorem dX9_of_7 : decode cX9_of 7 = .ok (.iaload, 1) := by decide +kernel
theorem dX9_of_8 : decode cX9_of 8 = .ok (.ireturn, 1) := by decide +kernel
theorem dX9_round_0 : decode cX9_round 0 = .ok (.aload_n 0, 1) := by decide +kernel
theorem dX9_round_1 : decode cX9_round 1 = .ok (.getfield 11, 3) := by decide +kernel
theorem dX9_round_4 : decode cX9_round 4 = .ok (.iconst 0, 1) := by decide +kernel
theorem dX9_round_5 : decode cX9_round 5 = .ok (.iaload, 1) := by decide +kernel
theorem dX9_round_6 : decode cX9_round 6 = .ok (.ireturn, 1) := by decide +kernel
theorem dX9_bar_0 : decode cX9_bar 0 = .ok (.aload_n 0, 1) := by decide +kernel
theorem dX9_bar_1 : decode cX9_bar 1 = .ok (.getfield 11, 3) := by decide +kernel
theorem dX9_bar_4 : decode cX9_bar 4 = .ok (.iconst 1, 1) := by decide +kernel
theorem dX9_bar_5 : decode cX9_bar 5 = .ok (.iaload, 1) := by decide +kernel
theorem dX9_bar_6 : decode cX9_bar 6 = .ok (.ireturn, 1) := by decide +kernel
theorem dX9_minute_0 : decode cX9_minute 0 = .ok (.aload_n 0, 1) := by decide +kernel
theorem dX9_minute_1 : decode cX9_minute 1 = .ok (.getfield 11, 3) := by decide +kernel
theorem dX9_minute_4 : decode cX9_minute 4 = .ok (.iconst 2, 1) := by decide +kernel
theorem dX9_minute_5 : decode cX9_minute 5 = .ok (.iaload, 1) := by decide +kernel
theorem dX9_minute_6 : decode cX9_minute 6 = .ok (.ireturn, 1) := by decide +kernel
theorem dX9_made_0 : decode cX9_made 0 = .ok (.aload_n 0, 1) := by decide +kernel
theorem dX9_made_1 : decode cX9_made 1 = .ok (.getfield 11, 3) := by decide +kernel
theorem dX9_made_4 : decode cX9_made 4 = .ok (.iconst 4, 1) := by decide +kernel
theorem dX9_made_5 : decode cX9_made 5 = .ok (.iaload, 1) := by decide +kernel
theorem dX9_made_6 : decode cX9_made 6 = .ok (.ireturn, 1) := by decide +kernel
theorem dX9_best_0 : decode cX9_best 0 = .ok (.aload_n 0, 1) := by decide +kernel
theorem dX9_best_1 : decode cX9_best 1 = .ok (.getfield 11, 3) := by decide +kernel
theorem dX9_best_4 : decode cX9_best 4 = .ok (.bipush 53, 2) := by decide +kernel
theorem dX9_best_6 : decode cX9_best 6 = .ok (.iload_n 1, 1) := by decide +kernel
theorem dX9_best_7 : decode cX9_best 7 = .ok (.bipush 6, 2) := by decide +kernel
theorem dX9_best_9 : decode cX9_best 9 = .ok (.imul, 1) := by decide +kernel
theorem dX9_best_10 : decode cX9_best 10 = .ok (.iadd, 1) := by decide +kernel
theorem dX9_best_11 : decode cX9_best 11 = .ok (.iload_n 2, 1) := by decide +kernel
theorem dX9_best_12 : decode cX9_best 12 = .ok (.iadd, 1) := by decide +kernel
theorem dX9_best_13 : decode cX9_best 13 = .ok (.iaload, 1) := by decide +kernel
theorem dX9_best_14 : decode cX9_best 14 = .ok (.ireturn, 1) := by decide +kernel
theorem dX9_waited_0 : decode cX9_waited 0 = .ok (.aload_n 0, 1) := by decide +kernel
theorem dX9_waited_1 : decode cX9_waited 1 = .ok (.getfield 11, 3) := by decide +kernel
theorem dX9_waited_4 : decode cX9_waited 4 = .ok (.iconst 2, 1) := by decide +kernel
theorem dX9_waited_5 : decode cX9_waited 5 = .ok (.iaload, 1) := by decide +kernel
theorem dX9_waited_6 : decode cX9_waited 6 = .ok (.aload_n 0, 1) := by decide +kernel
theorem dX9_waited_7 : decode cX9_waited 7 = .ok (.getfield 11, 3) := by decide +kernel
theorem dX9_waited_10 : decode cX9_waited 10 = .ok (.bipush 41, 2) := by decide +kernel
theorem dX9_waited_12 : decode cX9_waited 12 = .ok (.iload_n 1, 1) := by decide +kernel
theorem dX9_waited_13 : decode cX9_waited 13 = .ok (.iadd, 1) := by decide +kernel
theorem dX9_waited_14 : decode cX9_waited 14 = .ok (.iaload, 1) := by decide +kernel
theorem dX9_waited_15 : decode cX9_waited 15 = .ok (.isub, 1) := by decide +kernel
theorem dX9_waited_16 : decode cX9_waited 16 = .ok (.ireturn, 1) := by decide +kernel
theorem dX9_least_0 : decode cX9_least 0 = .ok (.aload_n 0, 1) := by decide +kernel
theorem dX9_least_1 : decode cX9_least 1 = .ok (.getfield 11, 3) := by decide +kernel
theorem dX9_least_4 : decode cX9_least 4 = .ok (.bipush 17, 2) := by decide +kernel
theorem dX9_least_6 : decode cX9_least 6 = .ok (.iload_n 1, 1) := by decide +kernel
theorem dX9_least_7 : decode cX9_least 7 = .ok (.iadd, 1) := by decide +kernel
theorem dX9_least_8 : decode cX9_least 8 = .ok (.iaload, 1) := by decide +kernel
theorem dX9_least_9 : decode cX9_least 9 = .ok (.aload_n 0, 1) := by decide +kernel
theorem dX9_least_10 : decode cX9_least 10 = .ok (.getfield 11, 3) := by decide +kernel
theorem dX9_least_13 : decode cX9_least 13 = .ok (.iconst 1, 1) := by decide +kernel
theorem dX9_least_14 : decode cX9_least 14 = .ok (.iaload, 1) := by decide +kernel
theorem dX9_least_15 : decode cX9_least 15 = .ok (.invokestatic 25, 3) := by decide +kernel
theorem dX9_least_18 : decode cX9_least 18 = .ok (.ireturn, 1) := by decide +kernel
theorem dX9_triesLeft_0 : decode cX9_triesLeft 0 = .ok (.aload_n 0, 1) := by decide +kernel
theorem dX9_triesLeft_1 : decode cX9_triesLeft 1 = .ok (.getfield 15, 3) := by decide +kernel
theorem dX9_triesLeft_4 : decode cX9_triesLeft 4 = .ok (.invokevirtual 31, 3) := by decide +kernel
theorem dX9_triesLeft_7 : decode cX9_triesLeft 7 = .ok (.aload_n 0, 1) := by decide +kernel
theorem dX9_triesLeft_8 : decode cX9_triesLeft 8 = .ok (.getfield 11, 3) := by decide +kernel
theorem dX9_triesLeft_11 : decode cX9_triesLeft 11 = .ok (.bipush 11, 2) := by decide +kernel
theorem dX9_triesLeft_13 : decode cX9_triesLeft 13 = .ok (.iload_n 1, 1) := by decide +kernel
theorem dX9_triesLeft_14 : decode cX9_triesLeft 14 = .ok (.iadd, 1) := by decide +kernel
theorem dX9_triesLeft_15 : decode cX9_triesLeft 15 = .ok (.iaload, 1) := by decide +kernel
theorem dX9_triesLeft_16 : decode cX9_triesLeft 16 = .ok (.isub, 1) := by decide +kernel
theorem dX9_triesLeft_17 : decode cX9_triesLeft 17 = .ok (.ireturn, 1) := by decide +kernel
theorem dX9_isIn_0 : decode cX9_isIn 0 = .ok (.aload_n 0, 1) := by decide +kernel
theorem dX9_isIn_1 : decode cX9_isIn 1 = .ok (.getfield 11, 3) := by decide +kernel
theorem dX9_isIn_4 : decode cX9_isIn 4 = .ok (.bipush 47, 2) := by decide +kernel
theorem dX9_isIn_6 : decode cX9_isIn 6 = .ok (.iload_n 1, 1) := by decide +kernel
theorem dX9_isIn_7 : decode cX9_isIn 7 = .ok (.iadd, 1) := by decide +kernel
theorem dX9_isIn_8 : decode cX9_isIn 8 = .ok (.iaload, 1) := by decide +kernel
theorem dX9_isIn_9 : decode cX9_isIn 9 = .ok (.ifCond .ne 40, 3) := by decide +kernel
theorem dX9_isIn_12 : decode cX9_isIn 12 = .ok (.aload_n 0, 1) := by decide +kernel
theorem dX9_isIn_13 : decode cX9_isIn 13 = .ok (.getfield 11, 3) := by decide +kernel
theorem dX9_isIn_16 : decode cX9_isIn 16 = .ok (.bipush 11, 2) := by decide +kernel
theorem dX9_isIn_18 : decode cX9_isIn 18 = .ok (.iload_n 1, 1) := by decide +kernel
theorem dX9_isIn_19 : decode cX9_isIn 19 = .ok (.iadd, 1) := by decide +kernel
theorem dX9_isIn_20 : decode cX9_isIn 20 = .ok (.iaload, 1) := by decide +kernel
theorem dX9_isIn_21 : decode cX9_isIn 21 = .ok (.aload_n 0, 1) := by decide +kernel
theorem dX9_isIn_22 : decode cX9_isIn 22 = .ok (.getfield 15, 3) := by decide +kernel
theorem dX9_isIn_25 : decode cX9_isIn 25 = .ok (.invokevirtual 31, 3) := by decide +kernel
theorem dX9_isIn_28 : decode cX9_isIn 28 = .ok (.if_icmp .ge 21, 3) := by decide +kernel
theorem dX9_isIn_31 : decode cX9_isIn 31 = .ok (.aload_n 0, 1) := by decide +kernel
theorem dX9_isIn_32 : decode cX9_isIn 32 = .ok (.getfield 11, 3) := by decide +kernel
theorem dX9_isIn_35 : decode cX9_isIn 35 = .ok (.bipush 17, 2) := by decide +kernel
theorem dX9_isIn_37 : decode cX9_isIn 37 = .ok (.iload_n 1, 1) := by decide +kernel
theorem dX9_isIn_38 : decode cX9_isIn 38 = .ok (.iadd, 1) := by decide +kernel
theorem dX9_isIn_39 : decode cX9_isIn 39 = .ok (.iaload, 1) := by decide +kernel
theorem dX9_isIn_40 : decode cX9_isIn 40 = .ok (.bipush 99, 2) := by decide +kernel
theorem dX9_isIn_42 : decode cX9_isIn 42 = .ok (.if_icmp .gt 7, 3) := by decide +kernel
theorem dX9_isIn_45 : decode cX9_isIn 45 = .ok (.iconst 1, 1) := by decide +kernel
theorem dX9_isIn_46 : decode cX9_isIn 46 = .ok (.goto 4, 3) := by decide +kernel
theorem dX9_isIn_49 : decode cX9_isIn 49 = .ok (.iconst 0, 1) := by decide +kernel
theorem dX9_isIn_50 : decode cX9_isIn 50 = .ok (.ireturn, 1) := by decide +kernel
theorem dX9_isNobodyIn_0 : decode cX9_isNobodyIn 0 = .ok (.iconst 0, 1) := by decide +kernel
theorem dX9_isNobodyIn_1 : decode cX9_isNobodyIn 1 = .ok (.istore_n 1, 1) := by decide +kernel
theorem dX9_isNobodyIn_2 : decode cX9_isNobodyIn 2 = .ok (.iload_n 1, 1) := by decide +kernel
theorem dX9_isNobodyIn_3 : decode cX9_isNobodyIn 3 = .ok (.aload_n 0, 1) := by decide +kernel
theorem dX9_isNobodyIn_4 : decode cX9_isNobodyIn 4 = .ok (.getfield 15, 3) := by decide +kernel
theorem dX9_isNobodyIn_7 : decode cX9_isNobodyIn 7 = .ok (.getfield 37, 3) := by decide +kernel
theorem dX9_isNobodyIn_10 : decode cX9_isNobodyIn 10 = .ok (.if_icmp .ge 19, 3) := by decide +kernel
theorem dX9_isNobodyIn_13 : decode cX9_isNobodyIn 13 = .ok (.aload_n 0, 1) := by decide +kernel
theorem dX9_isNobodyIn_14 : decode cX9_isNobodyIn 14 = .ok (.iload_n 1, 1) := by decide +kernel
theorem dX9_isNobodyIn_15 : decode cX9_isNobodyIn 15 = .ok (.invokevirtual 41, 3) := by decide +kernel
theorem dX9_isNobodyIn_18 : decode cX9_isNobodyIn 18 = .ok (.ifCond .eq 5, 3) := by decide +kernel
theorem dX9_isNobodyIn_21 : decode cX9_isNobodyIn 21 = .ok (.iconst 0, 1) := by decide +kernel
theorem dX9_isNobodyIn_22 : decode cX9_isNobodyIn 22 = .ok (.ireturn, 1) := by decide +kernel
theorem dX9_isNobodyIn_23 : decode cX9_isNobodyIn 23 = .ok (.iinc 1 1, 3) := by decide +kernel
theorem dX9_isNobodyIn_26 : decode cX9_isNobodyIn 26 = .ok (.goto (-24), 3) := by decide +kernel
theorem dX9_isNobodyIn_29 : decode cX9_isNobodyIn 29 = .ok (.iconst 1, 1) := by decide +kernel
theorem dX9_isNobodyIn_30 : decode cX9_isNobodyIn 30 = .ok (.ireturn, 1) := by decide +kernel
theorem dX9_howManyIn_0 : decode cX9_howManyIn 0 = .ok (.iconst 0, 1) := by decide +kernel
theorem dX9_howManyIn_1 : decode cX9_howManyIn 1 = .ok (.istore_n 1, 1) := by decide +kernel
theorem dX9_howManyIn_2 : decode cX9_howManyIn 2 = .ok (.iconst 0, 1) := by decide +kernel
theorem dX9_howManyIn_3 : decode cX9_howManyIn 3 = .ok (.istore_n 2, 1) := by decide +kernel
theorem dX9_howManyIn_4 : decode cX9_howManyIn 4 = .ok (.iload_n 2, 1) := by decide +kernel
theorem dX9_howManyIn_5 : decode cX9_howManyIn 5 = .ok (.aload_n 0, 1) := by decide +kernel
theorem dX9_howManyIn_6 : decode cX9_howManyIn 6 = .ok (.getfield 15, 3) := by decide +kernel
theorem dX9_howManyIn_9 : decode cX9_howManyIn 9 = .ok (.getfield 37, 3) := by decide +kernel
theorem dX9_howManyIn_12 : decode cX9_howManyIn 12 = .ok (.if_icmp .ge 25, 3) := by decide +kernel
theorem dX9_howManyIn_15 : decode cX9_howManyIn 15 = .ok (.iload_n 1, 1) := by decide +kernel
theorem dX9_howManyIn_16 : decode cX9_howManyIn 16 = .ok (.aload_n 0, 1) := by decide +kernel
theorem dX9_howManyIn_17 : decode cX9_howManyIn 17 = .ok (.iload_n 2, 1) := by decide +kernel
theorem dX9_howManyIn_18 : decode cX9_howManyIn 18 = .ok (.invokevirtual 41, 3) := by decide +kernel
theorem dX9_howManyIn_21 : decode cX9_howManyIn 21 = .ok (.ifCond .eq 7, 3) := by decide +kernel
theorem dX9_howManyIn_24 : decode cX9_howManyIn 24 = .ok (.iconst 1, 1) := by decide +kernel
theorem dX9_howManyIn_25 : decode cX9_howManyIn 25 = .ok (.goto 4, 3) := by decide +kernel
theorem dX9_howManyIn_28 : decode cX9_howManyIn 28 = .ok (.iconst 0, 1) := by decide +kernel
theorem dX9_howManyIn_29 : decode cX9_howManyIn 29 = .ok (.iadd, 1) := by decide +kernel
theorem dX9_howManyIn_30 : decode cX9_howManyIn 30 = .ok (.istore_n 1, 1) := by decide +kernel
theorem dX9_howManyIn_31 : decode cX9_howManyIn 31 = .ok (.iinc 2 1, 3) := by decide +kernel
theorem dX9_howManyIn_34 : decode cX9_howManyIn 34 = .ok (.goto (-30), 3) := by decide +kernel
theorem dX9_howManyIn_37 : decode cX9_howManyIn 37 = .ok (.iload_n 1, 1) := by decide +kernel
theorem dX9_howManyIn_38 : decode cX9_howManyIn 38 = .ok (.ireturn, 1) := by decide +kernel
theorem dX9_isAhead_0 : decode cX9_isAhead 0 = .ok (.aload_n 0, 1) := by decide +kernel
theorem dX9_isAhead_1 : decode cX9_isAhead 1 = .ok (.getfield 11, 3) := by decide +kernel
theorem dX9_isAhead_4 : decode cX9_isAhead 4 = .ok (.iconst 5, 1) := by decide +kernel
theorem dX9_isAhead_5 : decode cX9_isAhead 5 = .ok (.iload_n 1, 1) := by decide +kernel
theorem dX9_isAhead_6 : decode cX9_isAhead 6 = .ok (.iadd, 1) := by decide +kernel
theorem dX9_isAhead_7 : decode cX9_isAhead 7 = .ok (.iaload, 1) := by decide +kernel
theorem dX9_isAhead_8 : decode cX9_isAhead 8 = .ok (.aload_n 0, 1) := by decide +kernel
theorem dX9_isAhead_9 : decode cX9_isAhead 9 = .ok (.getfield 11, 3) := by decide +kernel
theorem dX9_isAhead_12 : decode cX9_isAhead 12 = .ok (.iconst 5, 1) := by decide +kernel
theorem dX9_isAhead_13 : decode cX9_isAhead 13 = .ok (.iload_n 2, 1) := by decide +kernel
theorem dX9_isAhead_14 : decode cX9_isAhead 14 = .ok (.iadd, 1) := by decide +kernel
theorem dX9_isAhead_15 : decode cX9_isAhead 15 = .ok (.iaload, 1) := by decide +kernel
theorem dX9_isAhead_16 : decode cX9_isAhead 16 = .ok (.if_icmp .eq 28, 3) := by decide +kernel
theorem dX9_isAhead_19 : decode cX9_isAhead 19 = .ok (.aload_n 0, 1) := by decide +kernel
theorem dX9_isAhead_20 : decode cX9_isAhead 20 = .ok (.getfield 11, 3) := by decide +kernel
theorem dX9_isAhead_23 : decode cX9_isAhead 23 = .ok (.iconst 5, 1) := by decide +kernel
theorem dX9_isAhead_24 : decode cX9_isAhead 24 = .ok (.iload_n 1, 1) := by decide +kernel
theorem dX9_isAhead_25 : decode cX9_isAhead 25 = .ok (.iadd, 1) := by decide +kernel
theorem dX9_isAhead_26 : decode cX9_isAhead 26 = .ok (.iaload, 1) := by decide +kernel
theorem dX9_isAhead_27 : decode cX9_isAhead 27 = .ok (.aload_n 0, 1) := by decide +kernel
theorem dX9_isAhead_28 : decode cX9_isAhead 28 = .ok (.getfield 11, 3) := by decide +kernel
theorem dX9_isAhead_31 : decode cX9_isAhead 31 = .ok (.iconst 5, 1) := by decide +kernel
theorem dX9_isAhead_32 : decode cX9_isAhead 32 = .ok (.iload_n 2, 1) := by decide +kernel
theorem dX9_isAhead_33 : decode cX9_isAhead 33 = .ok (.iadd, 1) := by decide +kernel
theorem dX9_isAhead_34 : decode cX9_isAhead 34 = .ok (.iaload, 1) := by decide +kernel
theorem dX9_isAhead_35 : decode cX9_isAhead 35 = .ok (.if_icmp .ge 7, 3) := by decide +kernel
theorem dX9_isAhead_38 : decode cX9_isAhead 38 = .ok (.iconst 1, 1) := by decide +kernel
theorem dX9_isAhead_39 : decode cX9_isAhead 39 = .ok (.goto 4, 3) := by decide +kernel
theorem dX9_isAhead_42 : decode cX9_isAhead 42 = .ok (.iconst 0, 1) := by decide +kernel
theorem dX9_isAhead_43 : decode cX9_isAhead 43 = .ok (.ireturn, 1) := by decide +kernel
theorem dX9_isAhead_44 : decode cX9_isAhead 44 = .ok (.aload_n 0, 1) := by decide +kernel
theorem dX9_isAhead_45 : decode cX9_isAhead 45 = .ok (.getfield 11, 3) := by decide +kernel
theorem dX9_isAhead_48 : decode cX9_isAhead 48 = .ok (.bipush 11, 2) := by decide +kernel
theorem dX9_isAhead_50 : decode cX9_isAhead 50 = .ok (.iload_n 1, 1) := by decide +kernel
theorem dX9_isAhead_51 : decode cX9_isAhead 51 = .ok (.iadd, 1) := by decide +kernel
theorem dX9_isAhead_52 : decode cX9_isAhead 52 = .ok (.iaload, 1) := by decide +kernel
theorem dX9_isAhead_53 : decode cX9_isAhead 53 = .ok (.aload_n 0, 1) := by decide +kernel
theorem dX9_isAhead_54 : decode cX9_isAhead 54 = .ok (.getfield 11, 3) := by decide +kernel
theorem dX9_isAhead_57 : decode cX9_isAhead 57 = .ok (.bipush 11, 2) := by decide +kernel
theorem dX9_isAhead_59 : decode cX9_isAhead 59 = .ok (.iload_n 2, 1) := by decide +kernel
theorem dX9_isAhead_60 : decode cX9_isAhead 60 = .ok (.iadd, 1) := by decide +kernel
theorem dX9_isAhead_61 : decode cX9_isAhead 61 = .ok (.iaload, 1) := by decide +kernel
theorem dX9_isAhead_62 : decode cX9_isAhead 62 = .ok (.if_icmp .eq 30, 3) := by decide +kernel
theorem dX9_isAhead_65 : decode cX9_isAhead 65 = .ok (.aload_n 0, 1) := by decide +kernel
theorem dX9_isAhead_66 : decode cX9_isAhead 66 = .ok (.getfield 11, 3) := by decide +kernel
theorem dX9_isAhead_69 : decode cX9_isAhead 69 = .ok (.bipush 11, 2) := by decide +kernel
theorem dX9_isAhead_71 : decode cX9_isAhead 71 = .ok (.iload_n 1, 1) := by decide +kernel
theorem dX9_isAhead_72 : decode cX9_isAhead 72 = .ok (.iadd, 1) := by decide +kernel
theorem dX9_isAhead_73 : decode cX9_isAhead 73 = .ok (.iaload, 1) := by decide +kernel
theorem dX9_isAhead_74 : decode cX9_isAhead 74 = .ok (.aload_n 0, 1) := by decide +kernel
theorem dX9_isAhead_75 : decode cX9_isAhead 75 = .ok (.getfield 11, 3) := by decide +kernel
theorem dX9_isAhead_78 : decode cX9_isAhead 78 = .ok (.bipush 11, 2) := by decide +kernel
theorem dX9_isAhead_80 : decode cX9_isAhead 80 = .ok (.iload_n 2, 1) := by decide +kernel
theorem dX9_isAhead_81 : decode cX9_isAhead 81 = .ok (.iadd, 1) := by decide +kernel
theorem dX9_isAhead_82 : decode cX9_isAhead 82 = .ok (.iaload, 1) := by decide +kernel
theorem dX9_isAhead_83 : decode cX9_isAhead 83 = .ok (.if_icmp .ge 7, 3) := by decide +kernel
theorem dX9_isAhead_86 : decode cX9_isAhead 86 = .ok (.iconst 1, 1) := by decide +kernel
theorem dX9_isAhead_87 : decode cX9_isAhead 87 = .ok (.goto 4, 3) := by decide +kernel
theorem dX9_isAhead_90 : decode cX9_isAhead 90 = .ok (.iconst 0, 1) := by decide +kernel
theorem dX9_isAhead_91 : decode cX9_isAhead 91 = .ok (.ireturn, 1) := by decide +kernel
theorem dX9_isAhead_92 : decode cX9_isAhead 92 = .ok (.iload_n 1, 1) := by decide +kernel
theorem dX9_isAhead_93 : decode cX9_isAhead 93 = .ok (.iload_n 2, 1) := by decide +kernel
theorem dX9_isAhead_94 : decode cX9_isAhead 94 = .ok (.if_icmp .ge 7, 3) := by decide +kernel
theorem dX9_isAhead_97 : decode cX9_isAhead 97 = .ok (.iconst 1, 1) := by decide +kernel
theorem dX9_isAhead_98 : decode cX9_isAhead 98 = .ok (.goto 4, 3) := by decide +kernel
theorem dX9_isAhead_101 : decode cX9_isAhead 101 = .ok (.iconst 0, 1) := by decide +kernel
theorem dX9_isAhead_102 : decode cX9_isAhead 102 = .ok (.ireturn, 1) := by decide +kernel
theorem dX9_called_0 : decode cX9_called 0 = .ok (.iconst (-1), 1) := by decide +kernel
theorem dX9_called_1 : decode cX9_called 1 = .ok (.istore_n 1, 1) := by decide +kernel
theorem dX9_called_2 : decode cX9_called 2 = .ok (.iconst 0, 1) := by decide +kernel
theorem dX9_called_3 : decode cX9_called 3 = .ok (.istore_n 2, 1) := by decide +kernel
theorem dX9_called_4 : decode cX9_called 4 = .ok (.iload_n 2, 1) := by decide +kernel
theorem dX9_called_5 : decode cX9_called 5 = .ok (.aload_n 0, 1) := by decide +kernel
theorem dX9_called_6 : decode cX9_called 6 = .ok (.getfield 15, 3) := by decide +kernel
theorem dX9_called_9 : decode cX9_called 9 = .ok (.getfield 37, 3) := by decide +kernel
theorem dX9_called_12 : decode cX9_called 12 = .ok (.if_icmp .ge 33, 3) := by decide +kernel
theorem dX9_called_15 : decode cX9_called 15 = .ok (.aload_n 0, 1) := by decide +kernel
theorem dX9_called_16 : decode cX9_called 16 = .ok (.iload_n 2, 1) := by decide +kernel
theorem dX9_called_17 : decode cX9_called 17 = .ok (.invokevirtual 41, 3) := by decide +kernel
theorem dX9_called_20 : decode cX9_called 20 = .ok (.ifCond .eq 19, 3) := by decide +kernel
theorem dX9_called_23 : decode cX9_called 23 = .ok (.iload_n 1, 1) := by decide +kernel
theorem dX9_called_24 : decode cX9_called 24 = .ok (.iconst (-1), 1) := by decide +kernel
theorem dX9_called_25 : decode cX9_called 25 = .ok (.if_icmp .eq 12, 3) := by decide +kernel
theorem dX9_called_28 : decode cX9_called 28 = .ok (.aload_n 0, 1) := by decide +kernel
theorem dX9_called_29 : decode cX9_called 29 = .ok (.iload_n 2, 1) := by decide +kernel
theorem dX9_called_30 : decode cX9_called 30 = .ok (.iload_n 1, 1) := by decide +kernel
theorem dX9_called_31 : decode cX9_called 31 = .ok (.invokevirtual 45, 3) := by decide +kernel
theorem dX9_called_34 : decode cX9_called 34 = .ok (.ifCond .eq 5, 3) := by decide +kernel
theorem dX9_called_37 : decode cX9_called 37 = .ok (.iload_n 2, 1) := by decide +kernel
theorem dX9_called_38 : decode cX9_called 38 = .ok (.istore_n 1, 1) := by decide +kernel
theorem dX9_called_39 : decode cX9_called 39 = .ok (.iinc 2 1, 3) := by decide +kernel
theorem dX9_called_42 : decode cX9_called 42 = .ok (.goto (-38), 3) := by decide +kernel
theorem dX9_called_45 : decode cX9_called 45 = .ok (.iload_n 1, 1) := by decide +kernel
theorem dX9_called_46 : decode cX9_called 46 = .ok (.ireturn, 1) := by decide +kernel
theorem dX9_begin_0 : decode cX9_begin 0 = .ok (.aload_n 0, 1) := by decide +kernel
theorem dX9_begin_1 : decode cX9_begin 1 = .ok (.getfield 11, 3) := by decide +kernel
theorem dX9_begin_4 : decode cX9_begin 4 = .ok (.iconst 0, 1) := by decide +kernel
theorem dX9_begin_5 : decode cX9_begin 5 = .ok (.invokestatic 49, 3) := by decide +kernel
theorem dX9_begin_8 : decode cX9_begin 8 = .ok (.iconst 0, 1) := by decide +kernel
theorem dX9_begin_9 : decode cX9_begin 9 = .ok (.istore_n 1, 1) := by decide +kernel
theorem dX9_begin_10 : decode cX9_begin 10 = .ok (.iload_n 1, 1) := by decide +kernel
theorem dX9_begin_11 : decode cX9_begin 11 = .ok (.aload_n 0, 1) := by decide +kernel
theorem dX9_begin_12 : decode cX9_begin 12 = .ok (.getfield 15, 3) := by decide +kernel
theorem dX9_begin_15 : decode cX9_begin 15 = .ok (.getfield 37, 3) := by decide +kernel
theorem dX9_begin_18 : decode cX9_begin 18 = .ok (.if_icmp .ge 35, 3) := by decide +kernel
theorem dX9_begin_21 : decode cX9_begin 21 = .ok (.aload_n 0, 1) := by decide +kernel
theorem dX9_begin_22 : decode cX9_begin 22 = .ok (.getfield 11, 3) := by decide +kernel
theorem dX9_begin_25 : decode cX9_begin 25 = .ok (.bipush 29, 2) := by decide +kernel
theorem dX9_begin_27 : decode cX9_begin 27 = .ok (.iload_n 1, 1) := by decide +kernel
theorem dX9_begin_28 : decode cX9_begin 28 = .ok (.iadd, 1) := by decide +kernel
theorem dX9_begin_29 : decode cX9_begin 29 = .ok (.aload_n 0, 1) := by decide +kernel
theorem dX9_begin_30 : decode cX9_begin 30 = .ok (.getfield 15, 3) := by decide +kernel
theorem dX9_begin_33 : decode cX9_begin 33 = .ok (.bipush 6, 2) := by decide +kernel
theorem dX9_begin_35 : decode cX9_begin 35 = .ok (.iload_n 1, 1) := by decide +kernel
theorem dX9_begin_36 : decode cX9_begin 36 = .ok (.invokevirtual 55, 3) := by decide +kernel
theorem dX9_begin_39 : decode cX9_begin 39 = .ok (.iastore, 1) := by decide +kernel
theorem dX9_begin_40 : decode cX9_begin 40 = .ok (.aload_n 0, 1) := by decide +kernel
theorem dX9_begin_41 : decode cX9_begin 41 = .ok (.iload_n 1, 1) := by decide +kernel
theorem dX9_begin_42 : decode cX9_begin 42 = .ok (.bipush 7, 2) := by decide +kernel
theorem dX9_begin_44 : decode cX9_begin 44 = .ok (.invokevirtual 58, 3) := by decide +kernel
theorem dX9_begin_47 : decode cX9_begin 47 = .ok (.iinc 1 1, 3) := by decide +kernel
theorem dX9_begin_50 : decode cX9_begin 50 = .ok (.goto (-40), 3) := by decide +kernel
theorem dX9_begin_53 : decode cX9_begin 53 = .ok (.aload_n 0, 1) := by decide +kernel
theorem dX9_begin_54 : decode cX9_begin 54 = .ok (.getfield 11, 3) := by decide +kernel
theorem dX9_begin_57 : decode cX9_begin 57 = .ok (.iconst 3, 1) := by decide +kernel
theorem dX9_begin_58 : decode cX9_begin 58 = .ok (.iconst (-1), 1) := by decide +kernel
theorem dX9_begin_59 : decode cX9_begin 59 = .ok (.iastore, 1) := by decide +kernel
theorem dX9_begin_60 : decode cX9_begin 60 = .ok (.return_, 1) := by decide +kernel
theorem dX9_startRound_0 : decode cX9_startRound 0 = .ok (.aload_n 0, 1) := by decide +kernel
theorem dX9_startRound_1 : decode cX9_startRound 1 = .ok (.getfield 11, 3) := by decide +kernel
theorem dX9_startRound_4 : decode cX9_startRound 4 = .ok (.bipush 23, 2) := by decide +kernel
theorem dX9_startRound_6 : decode cX9_startRound 6 = .ok (.iload_n 1, 1) := by decide +kernel
theorem dX9_startRound_7 : decode cX9_startRound 7 = .ok (.iadd, 1) := by decide +kernel
theorem dX9_startRound_8 : decode cX9_startRound 8 = .ok (.aload_n 0, 1) := by decide +kernel
theorem dX9_startRound_9 : decode cX9_startRound 9 = .ok (.getfield 15, 3) := by decide +kernel
theorem dX9_startRound_12 : decode cX9_startRound 12 = .ok (.invokevirtual 62, 3) := by decide +kernel
theorem dX9_startRound_15 : decode cX9_startRound 15 = .ok (.iastore, 1) := by decide +kernel
theorem dX9_startRound_16 : decode cX9_startRound 16 = .ok (.aload_n 0, 1) := by decide +kernel
theorem dX9_startRound_17 : decode cX9_startRound 17 = .ok (.getfield 11, 3) := by decide +kernel
theorem dX9_startRound_20 : decode cX9_startRound 20 = .ok (.bipush 17, 2) := by decide +kernel
theorem dX9_startRound_22 : decode cX9_startRound 22 = .ok (.iload_n 1, 1) := by decide +kernel
theorem dX9_startRound_23 : decode cX9_startRound 23 = .ok (.iadd, 1) := by decide +kernel
theorem dX9_startRound_24 : decode cX9_startRound 24 = .ok (.iconst 1, 1) := by decide +kernel
theorem dX9_startRound_25 : decode cX9_startRound 25 = .ok (.iastore, 1) := by decide +kernel
theorem dX9_startRound_26 : decode cX9_startRound 26 = .ok (.aload_n 0, 1) := by decide +kernel
theorem dX9_startRound_27 : decode cX9_startRound 27 = .ok (.getfield 11, 3) := by decide +kernel
theorem dX9_startRound_30 : decode cX9_startRound 30 = .ok (.iconst 5, 1) := by decide +kernel
theorem dX9_startRound_31 : decode cX9_startRound 31 = .ok (.iload_n 1, 1) := by decide +kernel
theorem dX9_startRound_32 : decode cX9_startRound 32 = .ok (.iadd, 1) := by decide +kernel
theorem dX9_startRound_33 : decode cX9_startRound 33 = .ok (.aload_n 0, 1) := by decide +kernel
theorem dX9_startRound_34 : decode cX9_startRound 34 = .ok (.getfield 15, 3) := by decide +kernel
theorem dX9_startRound_37 : decode cX9_startRound 37 = .ok (.iload_n 2, 1) := by decide +kernel
theorem dX9_startRound_38 : decode cX9_startRound 38 = .ok (.iload_n 1, 1) := by decide +kernel
theorem dX9_startRound_39 : decode cX9_startRound 39 = .ok (.invokevirtual 55, 3) := by decide +kernel
theorem dX9_startRound_42 : decode cX9_startRound 42 = .ok (.iastore, 1) := by decide +kernel
theorem dX9_startRound_43 : decode cX9_startRound 43 = .ok (.return_, 1) := by decide +kernel
theorem dX9_beginJerk_0 : decode cX9_beginJerk 0 = .ok (.aload_n 0, 1) := by decide +kernel
theorem dX9_beginJerk_1 : decode cX9_beginJerk 1 = .ok (.getfield 11, 3) := by decide +kernel
theorem dX9_beginJerk_4 : decode cX9_beginJerk 4 = .ok (.iconst 0, 1) := by decide +kernel
theorem dX9_beginJerk_5 : decode cX9_beginJerk 5 = .ok (.iconst 1, 1) := by decide +kernel
theorem dX9_beginJerk_6 : decode cX9_beginJerk 6 = .ok (.iastore, 1) := by decide +kernel
theorem dX9_beginJerk_7 : decode cX9_beginJerk 7 = .ok (.aload_n 0, 1) := by decide +kernel
theorem dX9_beginJerk_8 : decode cX9_beginJerk 8 = .ok (.getfield 11, 3) := by decide +kernel
theorem dX9_beginJerk_11 : decode cX9_beginJerk 11 = .ok (.iconst 1, 1) := by decide +kernel
theorem dX9_beginJerk_12 : decode cX9_beginJerk 12 = .ok (.iconst 0, 1) := by decide +kernel
theorem dX9_beginJerk_13 : decode cX9_beginJerk 13 = .ok (.iastore, 1) := by decide +kernel
theorem dX9_beginJerk_14 : decode cX9_beginJerk 14 = .ok (.aload_n 0, 1) := by decide +kernel
theorem dX9_beginJerk_15 : decode cX9_beginJerk 15 = .ok (.getfield 11, 3) := by decide +kernel
theorem dX9_beginJerk_18 : decode cX9_beginJerk 18 = .ok (.iconst 3, 1) := by decide +kernel
theorem dX9_beginJerk_19 : decode cX9_beginJerk 19 = .ok (.iconst (-1), 1) := by decide +kernel
theorem dX9_beginJerk_20 : decode cX9_beginJerk 20 = .ok (.iastore, 1) := by decide +kernel
theorem dX9_beginJerk_21 : decode cX9_beginJerk 21 = .ok (.iconst 0, 1) := by decide +kernel
theorem dX9_beginJerk_22 : decode cX9_beginJerk 22 = .ok (.istore_n 1, 1) := by decide +kernel
theorem dX9_beginJerk_23 : decode cX9_beginJerk 23 = .ok (.iload_n 1, 1) := by decide +kernel
theorem dX9_beginJerk_24 : decode cX9_beginJerk 24 = .ok (.aload_n 0, 1) := by decide +kernel
theorem dX9_beginJerk_25 : decode cX9_beginJerk 25 = .ok (.getfield 15, 3) := by decide +kernel
theorem dX9_beginJerk_28 : decode cX9_beginJerk 28 = .ok (.getfield 37, 3) := by decide +kernel
theorem dX9_beginJerk_31 : decode cX9_beginJerk 31 = .ok (.if_icmp .ge 75, 3) := by decide +kernel
theorem dX9_beginJerk_34 : decode cX9_beginJerk 34 = .ok (.aload_n 0, 1) := by decide +kernel
theorem dX9_beginJerk_35 : decode cX9_beginJerk 35 = .ok (.getfield 11, 3) := by decide +kernel
theorem dX9_beginJerk_38 : decode cX9_beginJerk 38 = .ok (.bipush 11, 2) := by decide +kernel
theorem dX9_beginJerk_40 : decode cX9_beginJerk 40 = .ok (.iload_n 1, 1) := by decide +kernel
theorem dX9_beginJerk_41 : decode cX9_beginJerk 41 = .ok (.iadd, 1) := by decide +kernel
theorem dX9_beginJerk_42 : decode cX9_beginJerk 42 = .ok (.iconst 0, 1) := by decide +kernel
theorem dX9_beginJerk_43 : decode cX9_beginJerk 43 = .ok (.iastore, 1) := by decide +kernel
theorem dX9_beginJerk_44 : decode cX9_beginJerk 44 = .ok (.aload_n 0, 1) := by decide +kernel
theorem dX9_beginJerk_45 : decode cX9_beginJerk 45 = .ok (.getfield 11, 3) := by decide +kernel
theorem dX9_beginJerk_48 : decode cX9_beginJerk 48 = .ok (.bipush 41, 2) := by decide +kernel
theorem dX9_beginJerk_50 : decode cX9_beginJerk 50 = .ok (.iload_n 1, 1) := by decide +kernel
theorem dX9_beginJerk_51 : decode cX9_beginJerk 51 = .ok (.iadd, 1) := by decide +kernel
theorem dX9_beginJerk_52 : decode cX9_beginJerk 52 = .ok (.aload_n 0, 1) := by decide +kernel
theorem dX9_beginJerk_53 : decode cX9_beginJerk 53 = .ok (.getfield 11, 3) := by decide +kernel
theorem dX9_beginJerk_56 : decode cX9_beginJerk 56 = .ok (.iconst 2, 1) := by decide +kernel
theorem dX9_beginJerk_57 : decode cX9_beginJerk 57 = .ok (.iaload, 1) := by decide +kernel
theorem dX9_beginJerk_58 : decode cX9_beginJerk 58 = .ok (.iastore, 1) := by decide +kernel
theorem dX9_beginJerk_59 : decode cX9_beginJerk 59 = .ok (.aload_n 0, 1) := by decide +kernel
theorem dX9_beginJerk_60 : decode cX9_beginJerk 60 = .ok (.iconst 0, 1) := by decide +kernel
theorem dX9_beginJerk_61 : decode cX9_beginJerk 61 = .ok (.iload_n 1, 1) := by decide +kernel
theorem dX9_beginJerk_62 : decode cX9_beginJerk 62 = .ok (.invokevirtual 65, 3) := by decide +kernel
theorem dX9_beginJerk_65 : decode cX9_beginJerk 65 = .ok (.ifCond .le 25, 3) := by decide +kernel
theorem dX9_beginJerk_68 : decode cX9_beginJerk 68 = .ok (.aload_n 0, 1) := by decide +kernel
theorem dX9_beginJerk_69 : decode cX9_beginJerk 69 = .ok (.getfield 11, 3) := by decide +kernel
theorem dX9_beginJerk_72 : decode cX9_beginJerk 72 = .ok (.bipush 47, 2) := by decide +kernel
theorem dX9_beginJerk_74 : decode cX9_beginJerk 74 = .ok (.iload_n 1, 1) := by decide +kernel
theorem dX9_beginJerk_75 : decode cX9_beginJerk 75 = .ok (.iadd, 1) := by decide +kernel
theorem dX9_beginJerk_76 : decode cX9_beginJerk 76 = .ok (.iaload, 1) := by decide +kernel
theorem dX9_beginJerk_77 : decode cX9_beginJerk 77 = .ok (.ifCond .ne 13, 3) := by decide +kernel
theorem dX9_beginJerk_80 : decode cX9_beginJerk 80 = .ok (.aload_n 0, 1) := by decide +kernel
theorem dX9_beginJerk_81 : decode cX9_beginJerk 81 = .ok (.iload_n 1, 1) := by decide +kernel
theorem dX9_beginJerk_82 : decode cX9_beginJerk 82 = .ok (.bipush 8, 2) := by decide +kernel
theorem dX9_beginJerk_84 : decode cX9_beginJerk 84 = .ok (.invokevirtual 58, 3) := by decide +kernel
theorem dX9_beginJerk_87 : decode cX9_beginJerk 87 = .ok (.goto 13, 3) := by decide +kernel
theorem dX9_beginJerk_90 : decode cX9_beginJerk 90 = .ok (.aload_n 0, 1) := by decide +kernel
theorem dX9_beginJerk_91 : decode cX9_beginJerk 91 = .ok (.getfield 11, 3) := by decide +kernel
theorem dX9_beginJerk_94 : decode cX9_beginJerk 94 = .ok (.bipush 47, 2) := by decide +kernel
theorem dX9_beginJerk_96 : decode cX9_beginJerk 96 = .ok (.iload_n 1, 1) := by decide +kernel
theorem dX9_beginJerk_97 : decode cX9_beginJerk 97 = .ok (.iadd, 1) := by decide +kernel
theorem dX9_beginJerk_98 : decode cX9_beginJerk 98 = .ok (.iconst 1, 1) := by decide +kernel
theorem dX9_beginJerk_99 : decode cX9_beginJerk 99 = .ok (.iastore, 1) := by decide +kernel
theorem dX9_beginJerk_100 : decode cX9_beginJerk 100 = .ok (.iinc 1 1, 3) := by decide +kernel
theorem dX9_beginJerk_103 : decode cX9_beginJerk 103 = .ok (.goto (-80), 3) := by decide +kernel
theorem dX9_beginJerk_106 : decode cX9_beginJerk 106 = .ok (.return_, 1) := by decide +kernel
theorem dX9_goOnIfNobodyIsIn_0 : decode cX9_goOnIfNobodyIsIn 0 = .ok (.aload_n 0, 1) := by decide +kernel
theorem dX9_goOnIfNobodyIsIn_1 : decode cX9_goOnIfNobodyIsIn 1 = .ok (.getfield 11, 3) := by decide +kernel
theorem dX9_goOnIfNobodyIsIn_4 : decode cX9_goOnIfNobodyIsIn 4 = .ok (.iconst 0, 1) := by decide +kernel
theorem dX9_goOnIfNobodyIsIn_5 : decode cX9_goOnIfNobodyIsIn 5 = .ok (.iaload, 1) := by decide +kernel
theorem dX9_goOnIfNobodyIsIn_6 : decode cX9_goOnIfNobodyIsIn 6 = .ok (.ifCond .ne 14, 3) := by decide +kernel
theorem dX9_goOnIfNobodyIsIn_9 : decode cX9_goOnIfNobodyIsIn 9 = .ok (.aload_n 0, 1) := by decide +kernel
theorem dX9_goOnIfNobodyIsIn_10 : decode cX9_goOnIfNobodyIsIn 10 = .ok (.invokevirtual 68, 3) := by decide +kernel
theorem dX9_goOnIfNobodyIsIn_13 : decode cX9_goOnIfNobodyIsIn 13 = .ok (.ifCond .eq 7, 3) := by decide +kernel
theorem dX9_goOnIfNobodyIsIn_16 : decode cX9_goOnIfNobodyIsIn 16 = .ok (.aload_n 0, 1) := by decide +kernel
theorem dX9_goOnIfNobodyIsIn_17 : decode cX9_goOnIfNobodyIsIn 17 = .ok (.invokevirtual 72, 3) := by decide +kernel
theorem dX9_goOnIfNobodyIsIn_20 : decode cX9_goOnIfNobodyIsIn 20 = .ok (.aload_n 0, 1) := by decide +kernel
theorem dX9_goOnIfNobodyIsIn_21 : decode cX9_goOnIfNobodyIsIn 21 = .ok (.getfield 11, 3) := by decide +kernel
theorem dX9_goOnIfNobodyIsIn_24 : decode cX9_goOnIfNobodyIsIn 24 = .ok (.iconst 0, 1) := by decide +kernel
theorem dX9_goOnIfNobodyIsIn_25 : decode cX9_goOnIfNobodyIsIn 25 = .ok (.iaload, 1) := by decide +kernel
theorem dX9_goOnIfNobodyIsIn_26 : decode cX9_goOnIfNobodyIsIn 26 = .ok (.iconst 1, 1) := by decide +kernel
theorem dX9_goOnIfNobodyIsIn_27 : decode cX9_goOnIfNobodyIsIn 27 = .ok (.if_icmp .ne 17, 3) := by decide +kernel
theorem dX9_goOnIfNobodyIsIn_30 : decode cX9_goOnIfNobodyIsIn 30 = .ok (.aload_n 0, 1) := by decide +kernel
theorem dX9_goOnIfNobodyIsIn_31 : decode cX9_goOnIfNobodyIsIn 31 = .ok (.invokevirtual 68, 3) := by decide +kernel
theorem dX9_goOnIfNobodyIsIn_34 : decode cX9_goOnIfNobodyIsIn 34 = .ok (.ifCond .eq 10, 3) := by decide +kernel
theorem dX9_goOnIfNobodyIsIn_37 : decode cX9_goOnIfNobodyIsIn 37 = .ok (.aload_n 0, 1) := by decide +kernel
theorem dX9_goOnIfNobodyIsIn_38 : decode cX9_goOnIfNobodyIsIn 38 = .ok (.getfield 11, 3) := by decide +kernel
theorem dX9_goOnIfNobodyIsIn_41 : decode cX9_goOnIfNobodyIsIn 41 = .ok (.iconst 0, 1) := by decide +kernel
theorem dX9_goOnIfNobodyIsIn_42 : decode cX9_goOnIfNobodyIsIn 42 = .ok (.iconst 2, 1) := by decide +kernel
theorem dX9_goOnIfNobodyIsIn_43 : decode cX9_goOnIfNobodyIsIn 43 = .ok (.iastore, 1) := by decide +kernel
theorem dX9_goOnIfNobodyIsIn_44 : decode cX9_goOnIfNobodyIsIn 44 = .ok (.return_, 1) := by decide +kernel
theorem dX9_make_0 : decode cX9_make 0 = .ok (.aload_n 0, 1) := by decide +kernel
theorem dX9_make_1 : decode cX9_make 1 = .ok (.getfield 11, 3) := by decide +kernel
theorem dX9_make_4 : decode cX9_make 4 = .ok (.iconst 5, 1) := by decide +kernel
theorem dX9_make_5 : decode cX9_make 5 = .ok (.iload_n 1, 1) := by decide +kernel
theorem dX9_make_6 : decode cX9_make 6 = .ok (.iadd, 1) := by decide +kernel
theorem dX9_make_7 : decode cX9_make 7 = .ok (.iaload, 1) := by decide +kernel
theorem dX9_make_8 : decode cX9_make 8 = .ok (.istore_n 3, 1) := by decide +kernel
theorem dX9_make_9 : decode cX9_make 9 = .ok (.aload_n 0, 1) := by decide +kernel
theorem dX9_make_10 : decode cX9_make 10 = .ok (.getfield 11, 3) := by decide +kernel
theorem dX9_make_13 : decode cX9_make 13 = .ok (.iconst 2, 1) := by decide +kernel
theorem dX9_make_14 : decode cX9_make 14 = .ok (.dup2, 1) := by decide +kernel
theorem dX9_make_15 : decode cX9_make 15 = .ok (.iaload, 1) := by decide +kernel
theorem dX9_make_16 : decode cX9_make 16 = .ok (.aload_n 0, 1) := by decide +kernel
theorem dX9_make_17 : decode cX9_make 17 = .ok (.getfield 11, 3) := by decide +kernel
theorem dX9_make_20 : decode cX9_make 20 = .ok (.iconst 3, 1) := by decide +kernel
theorem dX9_make_21 : decode cX9_make 21 = .ok (.iaload, 1) := by decide +kernel
theorem dX9_make_22 : decode cX9_make 22 = .ok (.iload_n 1, 1) := by decide +kernel
theorem dX9_make_23 : decode cX9_make 23 = .ok (.if_icmp .ne 7, 3) := by decide +kernel
theorem dX9_make_26 : decode cX9_make 26 = .ok (.iconst 2, 1) := by decide +kernel
theorem dX9_make_27 : decode cX9_make 27 = .ok (.goto 4, 3) := by decide +kernel
theorem dX9_make_30 : decode cX9_make 30 = .ok (.iconst 1, 1) := by decide +kernel
theorem dX9_make_31 : decode cX9_make 31 = .ok (.iadd, 1) := by decide +kernel
theorem dX9_make_32 : decode cX9_make 32 = .ok (.iastore, 1) := by decide +kernel
theorem dX9_make_33 : decode cX9_make 33 = .ok (.aload_n 0, 1) := by decide +kernel
theorem dX9_make_34 : decode cX9_make 34 = .ok (.getfield 11, 3) := by decide +kernel
theorem dX9_make_37 : decode cX9_make 37 = .ok (.iconst 1, 1) := by decide +kernel
theorem dX9_make_38 : decode cX9_make 38 = .ok (.iload_n 3, 1) := by decide +kernel
theorem dX9_make_39 : decode cX9_make 39 = .ok (.iastore, 1) := by decide +kernel
theorem dX9_make_40 : decode cX9_make 40 = .ok (.aload_n 0, 1) := by decide +kernel
theorem dX9_make_41 : decode cX9_make 41 = .ok (.getfield 11, 3) := by decide +kernel
theorem dX9_make_44 : decode cX9_make 44 = .ok (.iconst 3, 1) := by decide +kernel
theorem dX9_make_45 : decode cX9_make 45 = .ok (.iload_n 1, 1) := by decide +kernel
theorem dX9_make_46 : decode cX9_make 46 = .ok (.iastore, 1) := by decide +kernel
theorem dX9_make_47 : decode cX9_make 47 = .ok (.aload_n 0, 1) := by decide +kernel
theorem dX9_make_48 : decode cX9_make 48 = .ok (.getfield 11, 3) := by decide +kernel
theorem dX9_make_51 : decode cX9_make 51 = .ok (.bipush 41, 2) := by decide +kernel
theorem dX9_make_53 : decode cX9_make 53 = .ok (.iload_n 1, 1) := by decide +kernel
theorem dX9_make_54 : decode cX9_make 54 = .ok (.iadd, 1) := by decide +kernel
theorem dX9_make_55 : decode cX9_make 55 = .ok (.aload_n 0, 1) := by decide +kernel
theorem dX9_make_56 : decode cX9_make 56 = .ok (.getfield 11, 3) := by decide +kernel
theorem dX9_make_59 : decode cX9_make 59 = .ok (.iconst 2, 1) := by decide +kernel
theorem dX9_make_60 : decode cX9_make 60 = .ok (.iaload, 1) := by decide +kernel
theorem dX9_make_61 : decode cX9_make 61 = .ok (.iastore, 1) := by decide +kernel
theorem dX9_make_62 : decode cX9_make 62 = .ok (.aload_n 0, 1) := by decide +kernel
theorem dX9_make_63 : decode cX9_make 63 = .ok (.getfield 11, 3) := by decide +kernel
theorem dX9_make_66 : decode cX9_make 66 = .ok (.bipush 11, 2) := by decide +kernel
theorem dX9_make_68 : decode cX9_make 68 = .ok (.iload_n 1, 1) := by decide +kernel
theorem dX9_make_69 : decode cX9_make 69 = .ok (.iadd, 1) := by decide +kernel
theorem dX9_make_70 : decode cX9_make 70 = .ok (.dup2, 1) := by decide +kernel
theorem dX9_make_71 : decode cX9_make 71 = .ok (.iaload, 1) := by decide +kernel
theorem dX9_make_72 : decode cX9_make 72 = .ok (.iconst 1, 1) := by decide +kernel
theorem dX9_make_73 : decode cX9_make 73 = .ok (.iadd, 1) := by decide +kernel
theorem dX9_make_74 : decode cX9_make 74 = .ok (.iastore, 1) := by decide +kernel
theorem dX9_make_75 : decode cX9_make 75 = .ok (.aload_n 0, 1) := by decide +kernel
theorem dX9_make_76 : decode cX9_make 76 = .ok (.getfield 11, 3) := by decide +kernel
theorem dX9_make_79 : decode cX9_make 79 = .ok (.bipush 35, 2) := by decide +kernel
theorem dX9_make_81 : decode cX9_make 81 = .ok (.iload_n 1, 1) := by decide +kernel
theorem dX9_make_82 : decode cX9_make 82 = .ok (.iadd, 1) := by decide +kernel
theorem dX9_make_83 : decode cX9_make 83 = .ok (.dup2, 1) := by decide +kernel
theorem dX9_make_84 : decode cX9_make 84 = .ok (.iaload, 1) := by decide +kernel
theorem dX9_make_85 : decode cX9_make 85 = .ok (.iconst 1, 1) := by decide +kernel
theorem dX9_make_86 : decode cX9_make 86 = .ok (.iadd, 1) := by decide +kernel
theorem dX9_make_87 : decode cX9_make 87 = .ok (.iastore, 1) := by decide +kernel
theorem dX9_make_88 : decode cX9_make 88 = .ok (.aload_n 0, 1) := by decide +kernel
theorem dX9_make_89 : decode cX9_make 89 = .ok (.getfield 11, 3) := by decide +kernel
theorem dX9_make_92 : decode cX9_make 92 = .ok (.bipush 23, 2) := by decide +kernel
theorem dX9_make_94 : decode cX9_make 94 = .ok (.iload_n 1, 1) := by decide +kernel
theorem dX9_make_95 : decode cX9_make 95 = .ok (.iadd, 1) := by decide +kernel
theorem dX9_make_96 : decode cX9_make 96 = .ok (.aload_n 0, 1) := by decide +kernel
theorem dX9_make_97 : decode cX9_make 97 = .ok (.getfield 15, 3) := by decide +kernel
theorem dX9_make_100 : decode cX9_make 100 = .ok (.invokevirtual 62, 3) := by decide +kernel
theorem dX9_make_103 : decode cX9_make 103 = .ok (.iastore, 1) := by decide +kernel
theorem dX9_make_104 : decode cX9_make 104 = .ok (.aload_n 0, 1) := by decide +kernel
theorem dX9_make_105 : decode cX9_make 105 = .ok (.getfield 11, 3) := by decide +kernel
theorem dX9_make_108 : decode cX9_make 108 = .ok (.bipush 17, 2) := by decide +kernel
theorem dX9_make_110 : decode cX9_make 110 = .ok (.iload_n 1, 1) := by decide +kernel
theorem dX9_make_111 : decode cX9_make 111 = .ok (.iadd, 1) := by decide +kernel
theorem dX9_make_112 : decode cX9_make 112 = .ok (.iload_n 3, 1) := by decide +kernel
theorem dX9_make_113 : decode cX9_make 113 = .ok (.iastore, 1) := by decide +kernel
theorem dX9_make_114 : decode cX9_make 114 = .ok (.iload_n 2, 1) := by decide +kernel
theorem dX9_make_115 : decode cX9_make 115 = .ok (.ifCond .eq 101, 3) := by decide +kernel
theorem dX9_make_118 : decode cX9_make 118 = .ok (.aload_n 0, 1) := by decide +kernel
theorem dX9_make_119 : decode cX9_make 119 = .ok (.getfield 11, 3) := by decide +kernel
theorem dX9_make_122 : decode cX9_make 122 = .ok (.bipush 53, 2) := by decide +kernel
theorem dX9_make_124 : decode cX9_make 124 = .ok (.aload_n 0, 1) := by decide +kernel
theorem dX9_make_125 : decode cX9_make 125 = .ok (.getfield 11, 3) := by decide +kernel
theorem dX9_make_128 : decode cX9_make 128 = .ok (.iconst 0, 1) := by decide +kernel
theorem dX9_make_129 : decode cX9_make 129 = .ok (.iaload, 1) := by decide +kernel
theorem dX9_make_130 : decode cX9_make 130 = .ok (.ifCond .ne 7, 3) := by decide +kernel
theorem dX9_make_133 : decode cX9_make 133 = .ok (.iconst 0, 1) := by decide +kernel
theorem dX9_make_134 : decode cX9_make 134 = .ok (.goto 5, 3) := by decide +kernel
theorem dX9_make_137 : decode cX9_make 137 = .ok (.bipush 6, 2) := by decide +kernel
theorem dX9_make_139 : decode cX9_make 139 = .ok (.iadd, 1) := by decide +kernel
theorem dX9_make_140 : decode cX9_make 140 = .ok (.iload_n 1, 1) := by decide +kernel
theorem dX9_make_141 : decode cX9_make 141 = .ok (.iadd, 1) := by decide +kernel
theorem dX9_make_142 : decode cX9_make 142 = .ok (.iload_n 3, 1) := by decide +kernel
theorem dX9_make_143 : decode cX9_make 143 = .ok (.iastore, 1) := by decide +kernel
theorem dX9_make_144 : decode cX9_make 144 = .ok (.aload_n 0, 1) := by decide +kernel
theorem dX9_make_145 : decode cX9_make 145 = .ok (.getfield 11, 3) := by decide +kernel
theorem dX9_make_148 : decode cX9_make 148 = .ok (.bipush 65, 2) := by decide +kernel
theorem dX9_make_150 : decode cX9_make 150 = .ok (.iload_n 1, 1) := by decide +kernel
theorem dX9_make_151 : decode cX9_make 151 = .ok (.iadd, 1) := by decide +kernel
theorem dX9_make_152 : decode cX9_make 152 = .ok (.aload_n 0, 1) := by decide +kernel
theorem dX9_make_153 : decode cX9_make 153 = .ok (.getfield 11, 3) := by decide +kernel
theorem dX9_make_156 : decode cX9_make 156 = .ok (.iconst 4, 1) := by decide +kernel
theorem dX9_make_157 : decode cX9_make 157 = .ok (.iaload, 1) := by decide +kernel
theorem dX9_make_158 : decode cX9_make 158 = .ok (.iastore, 1) := by decide +kernel
theorem dX9_make_159 : decode cX9_make 159 = .ok (.aload_n 0, 1) := by decide +kernel
theorem dX9_make_160 : decode cX9_make 160 = .ok (.getfield 11, 3) := by decide +kernel
theorem dX9_make_163 : decode cX9_make 163 = .ok (.bipush 17, 2) := by decide +kernel
theorem dX9_make_165 : decode cX9_make 165 = .ok (.iload_n 1, 1) := by decide +kernel
theorem dX9_make_166 : decode cX9_make 166 = .ok (.iadd, 1) := by decide +kernel
theorem dX9_make_167 : decode cX9_make 167 = .ok (.iload_n 3, 1) := by decide +kernel
theorem dX9_make_168 : decode cX9_make 168 = .ok (.aload_n 0, 1) := by decide +kernel
theorem dX9_make_169 : decode cX9_make 169 = .ok (.getfield 15, 3) := by decide +kernel
theorem dX9_make_172 : decode cX9_make 172 = .ok (.invokevirtual 75, 3) := by decide +kernel
theorem dX9_make_175 : decode cX9_make 175 = .ok (.iadd, 1) := by decide +kernel
theorem dX9_make_176 : decode cX9_make 176 = .ok (.iastore, 1) := by decide +kernel
theorem dX9_make_177 : decode cX9_make 177 = .ok (.aload_n 0, 1) := by decide +kernel
theorem dX9_make_178 : decode cX9_make 178 = .ok (.getfield 15, 3) := by decide +kernel
theorem dX9_make_181 : decode cX9_make 181 = .ok (.invokevirtual 75, 3) := by decide +kernel
theorem dX9_make_184 : decode cX9_make 184 = .ok (.aload_n 0, 1) := by decide +kernel
theorem dX9_make_185 : decode cX9_make 185 = .ok (.getfield 15, 3) := by decide +kernel
theorem dX9_make_188 : decode cX9_make 188 = .ok (.bipush 9, 2) := by decide +kernel
theorem dX9_make_190 : decode cX9_make 190 = .ok (.iload_n 1, 1) := by decide +kernel
theorem dX9_make_191 : decode cX9_make 191 = .ok (.invokevirtual 55, 3) := by decide +kernel
theorem dX9_make_194 : decode cX9_make 194 = .ok (.invokestatic 25, 3) := by decide +kernel
theorem dX9_make_197 : decode cX9_make 197 = .ok (.istore 4, 2) := by decide +kernel
theorem dX9_make_199 : decode cX9_make 199 = .ok (.aload_n 0, 1) := by decide +kernel
theorem dX9_make_200 : decode cX9_make 200 = .ok (.getfield 11, 3) := by decide +kernel
theorem dX9_make_203 : decode cX9_make 203 = .ok (.iconst 5, 1) := by decide +kernel
theorem dX9_make_204 : decode cX9_make 204 = .ok (.iload_n 1, 1) := by decide +kernel
theorem dX9_make_205 : decode cX9_make 205 = .ok (.iadd, 1) := by decide +kernel
theorem dX9_make_206 : decode cX9_make 206 = .ok (.bipush 99, 2) := by decide +kernel
theorem dX9_make_208 : decode cX9_make 208 = .ok (.iload_n 3, 1) := by decide +kernel
theorem dX9_make_209 : decode cX9_make 209 = .ok (.iload 4, 2) := by decide +kernel
theorem dX9_make_211 : decode cX9_make 211 = .ok (.iadd, 1) := by decide +kernel
theorem dX9_make_212 : decode cX9_make 212 = .ok (.invokestatic 78, 3) := by decide +kernel
theorem dX9_make_215 : decode cX9_make 215 = .ok (.iastore, 1) := by decide +kernel
theorem dX9_make_216 : decode cX9_make 216 = .ok (.aload_n 0, 1) := by decide +kernel
theorem dX9_make_217 : decode cX9_make 217 = .ok (.getfield 11, 3) := by decide +kernel
theorem dX9_make_220 : decode cX9_make 220 = .ok (.iconst 4, 1) := by decide +kernel
theorem dX9_make_221 : decode cX9_make 221 = .ok (.dup2, 1) := by decide +kernel
theorem dX9_make_222 : decode cX9_make 222 = .ok (.iaload, 1) := by decide +kernel
theorem dX9_make_223 : decode cX9_make 223 = .ok (.iconst 1, 1) := by decide +kernel
theorem dX9_make_224 : decode cX9_make 224 = .ok (.iadd, 1) := by decide +kernel
theorem dX9_make_225 : decode cX9_make 225 = .ok (.iastore, 1) := by decide +kernel
theorem dX9_make_226 : decode cX9_make 226 = .ok (.aload_n 0, 1) := by decide +kernel
theorem dX9_make_227 : decode cX9_make 227 = .ok (.getfield 11, 3) := by decide +kernel
theorem dX9_make_230 : decode cX9_make 230 = .ok (.iconst 2, 1) := by decide +kernel
theorem dX9_make_231 : decode cX9_make 231 = .ok (.iaload, 1) := by decide +kernel
theorem dX9_make_232 : decode cX9_make 232 = .ok (.istore 4, 2) := by decide +kernel
theorem dX9_make_234 : decode cX9_make 234 = .ok (.aload_n 0, 1) := by decide +kernel
theorem dX9_make_235 : decode cX9_make 235 = .ok (.invokevirtual 81, 3) := by decide +kernel
theorem dX9_make_238 : decode cX9_make 238 = .ok (.iload 4, 2) := by decide +kernel
theorem dX9_make_240 : decode cX9_make 240 = .ok (.ireturn, 1) := by decide +kernel
theorem dX9_ask_0 : decode cX9_ask 0 = .ok (.aload_n 0, 1) := by decide +kernel
theorem dX9_ask_1 : decode cX9_ask 1 = .ok (.getfield 11, 3) := by decide +kernel
theorem dX9_ask_4 : decode cX9_ask 4 = .ok (.iconst 5, 1) := by decide +kernel
theorem dX9_ask_5 : decode cX9_ask 5 = .ok (.iload_n 1, 1) := by decide +kernel
theorem dX9_ask_6 : decode cX9_ask 6 = .ok (.iadd, 1) := by decide +kernel
theorem dX9_ask_7 : decode cX9_ask 7 = .ok (.iload_n 2, 1) := by decide +kernel
theorem dX9_ask_8 : decode cX9_ask 8 = .ok (.iastore, 1) := by decide +kernel
theorem dX9_ask_9 : decode cX9_ask 9 = .ok (.return_, 1) := by decide +kernel
theorem dX9_takeChange_0 : decode cX9_takeChange 0 = .ok (.aload_n 0, 1) := by decide +kernel
theorem dX9_takeChange_1 : decode cX9_takeChange 1 = .ok (.getfield 11, 3) := by decide +kernel
theorem dX9_takeChange_4 : decode cX9_takeChange 4 = .ok (.bipush 23, 2) := by decide +kernel
theorem dX9_takeChange_6 : decode cX9_takeChange 6 = .ok (.iload_n 1, 1) := by decide +kernel
theorem dX9_takeChange_7 : decode cX9_takeChange 7 = .ok (.iadd, 1) := by decide +kernel
theorem dX9_takeChange_8 : decode cX9_takeChange 8 = .ok (.dup2, 1) := by decide +kernel
theorem dX9_takeChange_9 : decode cX9_takeChange 9 = .ok (.iaload, 1) := by decide +kernel
theorem dX9_takeChange_10 : decode cX9_takeChange 10 = .ok (.iconst 1, 1) := by decide +kernel
theorem dX9_takeChange_11 : decode cX9_takeChange 11 = .ok (.isub, 1) := by decide +kernel
theorem dX9_takeChange_12 : decode cX9_takeChange 12 = .ok (.iastore, 1) := by decide +kernel
theorem dX9_takeChange_13 : decode cX9_takeChange 13 = .ok (.aload_n 0, 1) := by decide +kernel
theorem dX9_takeChange_14 : decode cX9_takeChange 14 = .ok (.getfield 11, 3) := by decide +kernel
theorem dX9_takeChange_17 : decode cX9_takeChange 17 = .ok (.bipush 23, 2) := by decide +kernel
theorem dX9_takeChange_19 : decode cX9_takeChange 19 = .ok (.iload_n 1, 1) := by decide +kernel
theorem dX9_takeChange_20 : decode cX9_takeChange 20 = .ok (.iadd, 1) := by decide +kernel
theorem dX9_takeChange_21 : decode cX9_takeChange 21 = .ok (.iaload, 1) := by decide +kernel
theorem dX9_takeChange_22 : decode cX9_takeChange 22 = .ok (.ireturn, 1) := by decide +kernel
theorem dX9_leave_0 : decode cX9_leave 0 = .ok (.aload_n 0, 1) := by decide +kernel
theorem dX9_leave_1 : decode cX9_leave 1 = .ok (.getfield 11, 3) := by decide +kernel
theorem dX9_leave_4 : decode cX9_leave 4 = .ok (.bipush 47, 2) := by decide +kernel
theorem dX9_leave_6 : decode cX9_leave 6 = .ok (.iload_n 1, 1) := by decide +kernel
theorem dX9_leave_7 : decode cX9_leave 7 = .ok (.iadd, 1) := by decide +kernel
theorem dX9_leave_8 : decode cX9_leave 8 = .ok (.iconst 1, 1) := by decide +kernel
theorem dX9_leave_9 : decode cX9_leave 9 = .ok (.iastore, 1) := by decide +kernel
theorem dX9_leave_10 : decode cX9_leave 10 = .ok (.aload_n 0, 1) := by decide +kernel
theorem dX9_leave_11 : decode cX9_leave 11 = .ok (.invokevirtual 81, 3) := by decide +kernel
theorem dX9_leave_14 : decode cX9_leave 14 = .ok (.return_, 1) := by decide +kernel
theorem dX9_warmUp_0 : decode cX9_warmUp 0 = .ok (.aload_n 0, 1) := by decide +kernel
theorem dX9_warmUp_1 : decode cX9_warmUp 1 = .ok (.getfield 11, 3) := by decide +kernel
theorem dX9_warmUp_4 : decode cX9_warmUp 4 = .ok (.bipush 29, 2) := by decide +kernel
theorem dX9_warmUp_6 : decode cX9_warmUp 6 = .ok (.iload_n 1, 1) := by decide +kernel
theorem dX9_warmUp_7 : decode cX9_warmUp 7 = .ok (.iadd, 1) := by decide +kernel
theorem dX9_warmUp_8 : decode cX9_warmUp 8 = .ok (.bipush 9, 2) := by decide +kernel
theorem dX9_warmUp_10 : decode cX9_warmUp 10 = .ok (.aload_n 0, 1) := by decide +kernel
theorem dX9_warmUp_11 : decode cX9_warmUp 11 = .ok (.getfield 11, 3) := by decide +kernel
theorem dX9_warmUp_14 : decode cX9_warmUp 14 = .ok (.bipush 29, 2) := by decide +kernel
theorem dX9_warmUp_16 : decode cX9_warmUp 16 = .ok (.iload_n 1, 1) := by decide +kernel
theorem dX9_warmUp_17 : decode cX9_warmUp 17 = .ok (.iadd, 1) := by decide +kernel
theorem dX9_warmUp_18 : decode cX9_warmUp 18 = .ok (.iaload, 1) := by decide +kernel
theorem dX9_warmUp_19 : decode cX9_warmUp 19 = .ok (.iconst 1, 1) := by decide +kernel
theorem dX9_warmUp_20 : decode cX9_warmUp 20 = .ok (.iadd, 1) := by decide +kernel
theorem dX9_warmUp_21 : decode cX9_warmUp 21 = .ok (.invokestatic 78, 3) := by decide +kernel
theorem dX9_warmUp_24 : decode cX9_warmUp 24 = .ok (.iastore, 1) := by decide +kernel
theorem dX9_warmUp_25 : decode cX9_warmUp 25 = .ok (.aload_n 0, 1) := by decide +kernel
theorem dX9_warmUp_26 : decode cX9_warmUp 26 = .ok (.getfield 11, 3) := by decide +kernel
theorem dX9_warmUp_29 : decode cX9_warmUp 29 = .ok (.iconst 2, 1) := by decide +kernel
theorem dX9_warmUp_30 : decode cX9_warmUp 30 = .ok (.dup2, 1) := by decide +kernel
theorem dX9_warmUp_31 : decode cX9_warmUp 31 = .ok (.iaload, 1) := by decide +kernel
theorem dX9_warmUp_32 : decode cX9_warmUp 32 = .ok (.iconst 1, 1) := by decide +kernel
theorem dX9_warmUp_33 : decode cX9_warmUp 33 = .ok (.iadd, 1) := by decide +kernel
theorem dX9_warmUp_34 : decode cX9_warmUp 34 = .ok (.iastore, 1) := by decide +kernel
theorem dX9_warmUp_35 : decode cX9_warmUp 35 = .ok (.aload_n 0, 1) := by decide +kernel
theorem dX9_warmUp_36 : decode cX9_warmUp 36 = .ok (.getfield 11, 3) := by decide +kernel
theorem dX9_warmUp_39 : decode cX9_warmUp 39 = .ok (.bipush 41, 2) := by decide +kernel
theorem dX9_warmUp_41 : decode cX9_warmUp 41 = .ok (.iload_n 1, 1) := by decide +kernel
theorem dX9_warmUp_42 : decode cX9_warmUp 42 = .ok (.iadd, 1) := by decide +kernel
theorem dX9_warmUp_43 : decode cX9_warmUp 43 = .ok (.aload_n 0, 1) := by decide +kernel
theorem dX9_warmUp_44 : decode cX9_warmUp 44 = .ok (.getfield 11, 3) := by decide +kernel
theorem dX9_warmUp_47 : decode cX9_warmUp 47 = .ok (.iconst 2, 1) := by decide +kernel
theorem dX9_warmUp_48 : decode cX9_warmUp 48 = .ok (.iaload, 1) := by decide +kernel
theorem dX9_warmUp_49 : decode cX9_warmUp 49 = .ok (.iastore, 1) := by decide +kernel
theorem dX9_warmUp_50 : decode cX9_warmUp 50 = .ok (.return_, 1) := by decide +kernel
theorem dX9_sum_0 : decode cX9_sum 0 = .ok (.aload_n 0, 1) := by decide +kernel
theorem dX9_sum_1 : decode cX9_sum 1 = .ok (.iconst 0, 1) := by decide +kernel
theorem dX9_sum_2 : decode cX9_sum 2 = .ok (.iload_n 1, 1) := by decide +kernel
theorem dX9_sum_3 : decode cX9_sum 3 = .ok (.invokevirtual 65, 3) := by decide +kernel
theorem dX9_sum_6 : decode cX9_sum 6 = .ok (.istore_n 2, 1) := by decide +kernel
theorem dX9_sum_7 : decode cX9_sum 7 = .ok (.aload_n 0, 1) := by decide +kernel
theorem dX9_sum_8 : decode cX9_sum 8 = .ok (.iconst 1, 1) := by decide +kernel
theorem dX9_sum_9 : decode cX9_sum 9 = .ok (.iload_n 1, 1) := by decide +kernel
theorem dX9_sum_10 : decode cX9_sum 10 = .ok (.invokevirtual 65, 3) := by decide +kernel
theorem dX9_sum_13 : decode cX9_sum 13 = .ok (.istore_n 3, 1) := by decide +kernel
theorem dX9_sum_14 : decode cX9_sum 14 = .ok (.iload_n 2, 1) := by decide +kernel
theorem dX9_sum_15 : decode cX9_sum 15 = .ok (.ifCond .eq 7, 3) := by decide +kernel
theorem dX9_sum_18 : decode cX9_sum 18 = .ok (.iload_n 3, 1) := by decide +kernel
theorem dX9_sum_19 : decode cX9_sum 19 = .ok (.ifCond .ne 7, 3) := by decide +kernel
theorem dX9_sum_22 : decode cX9_sum 22 = .ok (.iconst 0, 1) := by decide +kernel
theorem dX9_sum_23 : decode cX9_sum 23 = .ok (.goto 6, 3) := by decide +kernel
theorem dX9_sum_26 : decode cX9_sum 26 = .ok (.iload_n 2, 1) := by decide +kernel
theorem dX9_sum_27 : decode cX9_sum 27 = .ok (.iload_n 3, 1) := by decide +kernel
theorem dX9_sum_28 : decode cX9_sum 28 = .ok (.iadd, 1) := by decide +kernel
theorem dX9_sum_29 : decode cX9_sum 29 = .ok (.ireturn, 1) := by decide +kernel
theorem dX9_place_0 : decode cX9_place 0 = .ok (.aload_n 0, 1) := by decide +kernel
theorem dX9_place_1 : decode cX9_place 1 = .ok (.iload_n 1, 1) := by decide +kernel
theorem dX9_place_2 : decode cX9_place 2 = .ok (.invokevirtual 84, 3) := by decide +kernel
theorem dX9_place_5 : decode cX9_place 5 = .ok (.istore_n 2, 1) := by decide +kernel
theorem dX9_place_6 : decode cX9_place 6 = .ok (.iload_n 2, 1) := by decide +kernel
theorem dX9_place_7 : decode cX9_place 7 = .ok (.ifCond .ne 5, 3) := by decide +kernel
theorem dX9_place_10 : decode cX9_place 10 = .ok (.iconst 0, 1) := by decide +kernel
theorem dX9_place_11 : decode cX9_place 11 = .ok (.ireturn, 1) := by decide +kernel
theorem dX9_place_12 : decode cX9_place 12 = .ok (.iconst 1, 1) := by decide +kernel
theorem dX9_place_13 : decode cX9_place 13 = .ok (.istore_n 3, 1) := by decide +kernel
theorem dX9_place_14 : decode cX9_place 14 = .ok (.iconst 0, 1) := by decide +kernel
theorem dX9_place_15 : decode cX9_place 15 = .ok (.istore 4, 2) := by decide +kernel
theorem dX9_place_17 : decode cX9_place 17 = .ok (.iload 4, 2) := by decide +kernel
theorem dX9_place_19 : decode cX9_place 19 = .ok (.aload_n 0, 1) := by decide +kernel
theorem dX9_place_20 : decode cX9_place 20 = .ok (.getfield 15, 3) := by decide +kernel
theorem dX9_place_23 : decode cX9_place 23 = .ok (.getfield 37, 3) := by decide +kernel
theorem dX9_place_26 : decode cX9_place 26 = .ok (.if_icmp .ge 48, 3) := by decide +kernel
theorem dX9_place_29 : decode cX9_place 29 = .ok (.aload_n 0, 1) := by decide +kernel
theorem dX9_place_30 : decode cX9_place 30 = .ok (.iload 4, 2) := by decide +kernel
theorem dX9_place_32 : decode cX9_place 32 = .ok (.invokevirtual 84, 3) := by decide +kernel
theorem dX9_place_35 : decode cX9_place 35 = .ok (.istore 5, 2) := by decide +kernel
theorem dX9_place_37 : decode cX9_place 37 = .ok (.iload 5, 2) := by decide +kernel
theorem dX9_place_39 : decode cX9_place 39 = .ok (.iload_n 2, 1) := by decide +kernel
theorem dX9_place_40 : decode cX9_place 40 = .ok (.if_icmp .gt 25, 3) := by decide +kernel
theorem dX9_place_43 : decode cX9_place 43 = .ok (.iload 5, 2) := by decide +kernel
theorem dX9_place_45 : decode cX9_place 45 = .ok (.iload_n 2, 1) := by decide +kernel
theorem dX9_place_46 : decode cX9_place 46 = .ok (.if_icmp .ne 22, 3) := by decide +kernel
theorem dX9_place_49 : decode cX9_place 49 = .ok (.iload 4, 2) := by decide +kernel
theorem dX9_place_51 : decode cX9_place 51 = .ok (.iload_n 1, 1) := by decide +kernel
theorem dX9_place_52 : decode cX9_place 52 = .ok (.if_icmp .eq 16, 3) := by decide +kernel
theorem dX9_place_55 : decode cX9_place 55 = .ok (.aload_n 0, 1) := by decide +kernel
theorem dX9_place_56 : decode cX9_place 56 = .ok (.iload 4, 2) := by decide +kernel
theorem dX9_place_58 : decode cX9_place 58 = .ok (.iload_n 1, 1) := by decide +kernel
theorem dX9_place_59 : decode cX9_place 59 = .ok (.invokevirtual 88, 3) := by decide +kernel
theorem dX9_place_62 : decode cX9_place 62 = .ok (.ifCond .eq 6, 3) := by decide +kernel
theorem dX9_place_65 : decode cX9_place 65 = .ok (.iinc 3 1, 3) := by decide +kernel
theorem dX9_place_68 : decode cX9_place 68 = .ok (.iinc 4 1, 3) := by decide +kernel
theorem dX9_place_71 : decode cX9_place 71 = .ok (.goto (-54), 3) := by decide +kernel
theorem dX9_place_74 : decode cX9_place 74 = .ok (.iload_n 3, 1) := by decide +kernel
theorem dX9_place_75 : decode cX9_place 75 = .ok (.ireturn, 1) := by decide +kernel
theorem dX9_isBetterOfEven_0 : decode cX9_isBetterOfEven 0 = .ok (.aload_n 0, 1) := by decide +kernel
theorem dX9_isBetterOfEven_1 : decode cX9_isBetterOfEven 1 = .ok (.getfield 15, 3) := by decide +kernel
theorem dX9_isBetterOfEven_4 : decode cX9_isBetterOfEven 4 = .ok (.invokevirtual 91, 3) := by decide +kernel
theorem dX9_isBetterOfEven_7 : decode cX9_isBetterOfEven 7 = .ok (.ifCond .eq 15, 3) := by decide +kernel
theorem dX9_isBetterOfEven_10 : decode cX9_isBetterOfEven 10 = .ok (.aload_n 0, 1) := by decide +kernel
theorem dX9_isBetterOfEven_11 : decode cX9_isBetterOfEven 11 = .ok (.getfield 15, 3) := by decide +kernel
theorem dX9_isBetterOfEven_14 : decode cX9_isBetterOfEven 14 = .ok (.iconst 2, 1) := by decide +kernel
theorem dX9_isBetterOfEven_15 : decode cX9_isBetterOfEven 15 = .ok (.iload_n 1, 1) := by decide +kernel
theorem dX9_isBetterOfEven_16 : decode cX9_isBetterOfEven 16 = .ok (.invokevirtual 55, 3) := by decide +kernel
theorem dX9_isBetterOfEven_19 : decode cX9_isBetterOfEven 19 = .ok (.goto 12, 3) := by decide +kernel
theorem dX9_isBetterOfEven_22 : decode cX9_isBetterOfEven 22 = .ok (.aload_n 0, 1) := by decide +kernel
theorem dX9_isBetterOfEven_23 : decode cX9_isBetterOfEven 23 = .ok (.getfield 11, 3) := by decide +kernel
theorem dX9_isBetterOfEven_26 : decode cX9_isBetterOfEven 26 = .ok (.bipush 65, 2) := by decide +kernel
theorem dX9_isBetterOfEven_28 : decode cX9_isBetterOfEven 28 = .ok (.iload_n 1, 1) := by decide +kernel
theorem dX9_isBetterOfEven_29 : decode cX9_isBetterOfEven 29 = .ok (.iadd, 1) := by decide +kernel
theorem dX9_isBetterOfEven_30 : decode cX9_isBetterOfEven 30 = .ok (.iaload, 1) := by decide +kernel
theorem dX9_isBetterOfEven_31 : decode cX9_isBetterOfEven 31 = .ok (.istore_n 3, 1) := by decide +kernel
theorem dX9_isBetterOfEven_32 : decode cX9_isBetterOfEven 32 = .ok (.aload_n 0, 1) := by decide +kernel
theorem dX9_isBetterOfEven_33 : decode cX9_isBetterOfEven 33 = .ok (.getfield 15, 3) := by decide +kernel
theorem dX9_isBetterOfEven_36 : decode cX9_isBetterOfEven 36 = .ok (.invokevirtual 91, 3) := by decide +kernel
theorem dX9_isBetterOfEven_39 : decode cX9_isBetterOfEven 39 = .ok (.ifCond .eq 15, 3) := by decide +kernel
theorem dX9_isBetterOfEven_42 : decode cX9_isBetterOfEven 42 = .ok (.aload_n 0, 1) := by decide +kernel
theorem dX9_isBetterOfEven_43 : decode cX9_isBetterOfEven 43 = .ok (.getfield 15, 3) := by decide +kernel
theorem dX9_isBetterOfEven_46 : decode cX9_isBetterOfEven 46 = .ok (.iconst 2, 1) := by decide +kernel
theorem dX9_isBetterOfEven_47 : decode cX9_isBetterOfEven 47 = .ok (.iload_n 2, 1) := by decide +kernel
theorem dX9_isBetterOfEven_48 : decode cX9_isBetterOfEven 48 = .ok (.invokevirtual 55, 3) := by decide +kernel
theorem dX9_isBetterOfEven_51 : decode cX9_isBetterOfEven 51 = .ok (.goto 12, 3) := by decide +kernel
theorem dX9_isBetterOfEven_54 : decode cX9_isBetterOfEven 54 = .ok (.aload_n 0, 1) := by decide +kernel
theorem dX9_isBetterOfEven_55 : decode cX9_isBetterOfEven 55 = .ok (.getfield 11, 3) := by decide +kernel
theorem dX9_isBetterOfEven_58 : decode cX9_isBetterOfEven 58 = .ok (.bipush 65, 2) := by decide +kernel
theorem dX9_isBetterOfEven_60 : decode cX9_isBetterOfEven 60 = .ok (.iload_n 2, 1) := by decide +kernel
theorem dX9_isBetterOfEven_61 : decode cX9_isBetterOfEven 61 = .ok (.iadd, 1) := by decide +kernel
theorem dX9_isBetterOfEven_62 : decode cX9_isBetterOfEven 62 = .ok (.iaload, 1) := by decide +kernel
theorem dX9_isBetterOfEven_63 : decode cX9_isBetterOfEven 63 = .ok (.istore 4, 2) := by decide +kernel
theorem dX9_isBetterOfEven_65 : decode cX9_isBetterOfEven 65 = .ok (.iload_n 3, 1) := by decide +kernel
theorem dX9_isBetterOfEven_66 : decode cX9_isBetterOfEven 66 = .ok (.iload 4, 2) := by decide +kernel
theorem dX9_isBetterOfEven_68 : decode cX9_isBetterOfEven 68 = .ok (.if_icmp .eq 17, 3) := by decide +kernel
theorem dX9_isBetterOfEven_71 : decode cX9_isBetterOfEven 71 = .ok (.iload_n 3, 1) := by decide +kernel
theorem dX9_isBetterOfEven_72 : decode cX9_isBetterOfEven 72 = .ok (.iload 4, 2) := by decide +kernel
theorem dX9_isBetterOfEven_74 : decode cX9_isBetterOfEven 74 = .ok (.if_icmp .ge 7, 3) := by decide +kernel
theorem dX9_isBetterOfEven_77 : decode cX9_isBetterOfEven 77 = .ok (.iconst 1, 1) := by decide +kernel
theorem dX9_isBetterOfEven_78 : decode cX9_isBetterOfEven 78 = .ok (.goto 17, 3) := by decide +kernel
theorem dX9_isBetterOfEven_81 : decode cX9_isBetterOfEven 81 = .ok (.iconst 0, 1) := by decide +kernel
theorem dX9_isBetterOfEven_82 : decode cX9_isBetterOfEven 82 = .ok (.goto 13, 3) := by decide +kernel
theorem dX9_isBetterOfEven_85 : decode cX9_isBetterOfEven 85 = .ok (.iload_n 1, 1) := by decide +kernel
theorem dX9_isBetterOfEven_86 : decode cX9_isBetterOfEven 86 = .ok (.iload_n 2, 1) := by decide +kernel
theorem dX9_isBetterOfEven_87 : decode cX9_isBetterOfEven 87 = .ok (.if_icmp .ge 7, 3) := by decide +kernel
theorem dX9_isBetterOfEven_90 : decode cX9_isBetterOfEven 90 = .ok (.iconst 1, 1) := by decide +kernel
theorem dX9_isBetterOfEven_91 : decode cX9_isBetterOfEven 91 = .ok (.goto 4, 3) := by decide +kernel
theorem dX9_isBetterOfEven_94 : decode cX9_isBetterOfEven 94 = .ok (.iconst 0, 1) := by decide +kernel
theorem dX9_isBetterOfEven_95 : decode cX9_isBetterOfEven 95 = .ok (.ireturn, 1) := by decide +kernel
theorem dX9_liftsLeft_0 : decode cX9_liftsLeft 0 = .ok (.iconst 0, 1) := by decide +kernel
theorem dX9_liftsLeft_1 : decode cX9_liftsLeft 1 = .ok (.istore_n 1, 1) := by decide +kernel
theorem dX9_liftsLeft_2 : decode cX9_liftsLeft 2 = .ok (.iconst 0, 1) := by decide +kernel
theorem dX9_liftsLeft_3 : decode cX9_liftsLeft 3 = .ok (.istore_n 2, 1) := by decide +kernel
theorem dX9_liftsLeft_4 : decode cX9_liftsLeft 4 = .ok (.iload_n 2, 1) := by decide +kernel
theorem dX9_liftsLeft_5 : decode cX9_liftsLeft 5 = .ok (.aload_n 0, 1) := by decide +kernel
theorem dX9_liftsLeft_6 : decode cX9_liftsLeft 6 = .ok (.getfield 15, 3) := by decide +kernel
theorem dX9_liftsLeft_9 : decode cX9_liftsLeft 9 = .ok (.getfield 37, 3) := by decide +kernel
theorem dX9_liftsLeft_12 : decode cX9_liftsLeft 12 = .ok (.if_icmp .ge 91, 3) := by decide +kernel
theorem dX9_liftsLeft_15 : decode cX9_liftsLeft 15 = .ok (.aload_n 0, 1) := by decide +kernel
theorem dX9_liftsLeft_16 : decode cX9_liftsLeft 16 = .ok (.iload_n 2, 1) := by decide +kernel
theorem dX9_liftsLeft_17 : decode cX9_liftsLeft 17 = .ok (.invokevirtual 41, 3) := by decide +kernel
theorem dX9_liftsLeft_20 : decode cX9_liftsLeft 20 = .ok (.istore_n 3, 1) := by decide +kernel
theorem dX9_liftsLeft_21 : decode cX9_liftsLeft 21 = .ok (.iload_n 1, 1) := by decide +kernel
theorem dX9_liftsLeft_22 : decode cX9_liftsLeft 22 = .ok (.iload_n 3, 1) := by decide +kernel
theorem dX9_liftsLeft_23 : decode cX9_liftsLeft 23 = .ok (.ifCond .eq 11, 3) := by decide +kernel
theorem dX9_liftsLeft_26 : decode cX9_liftsLeft 26 = .ok (.aload_n 0, 1) := by decide +kernel
theorem dX9_liftsLeft_27 : decode cX9_liftsLeft 27 = .ok (.iload_n 2, 1) := by decide +kernel
theorem dX9_liftsLeft_28 : decode cX9_liftsLeft 28 = .ok (.invokevirtual 94, 3) := by decide +kernel
theorem dX9_liftsLeft_31 : decode cX9_liftsLeft 31 = .ok (.goto 4, 3) := by decide +kernel
theorem dX9_liftsLeft_34 : decode cX9_liftsLeft 34 = .ok (.iconst 0, 1) := by decide +kernel
theorem dX9_liftsLeft_35 : decode cX9_liftsLeft 35 = .ok (.iadd, 1) := by decide +kernel
theorem dX9_liftsLeft_36 : decode cX9_liftsLeft 36 = .ok (.istore_n 1, 1) := by decide +kernel
theorem dX9_liftsLeft_37 : decode cX9_liftsLeft 37 = .ok (.iload_n 3, 1) := by decide +kernel
theorem dX9_liftsLeft_38 : decode cX9_liftsLeft 38 = .ok (.ifCond .ne 24, 3) := by decide +kernel
theorem dX9_liftsLeft_41 : decode cX9_liftsLeft 41 = .ok (.aload_n 0, 1) := by decide +kernel
theorem dX9_liftsLeft_42 : decode cX9_liftsLeft 42 = .ok (.iconst 0, 1) := by decide +kernel
theorem dX9_liftsLeft_43 : decode cX9_liftsLeft 43 = .ok (.iload_n 2, 1) := by decide +kernel
theorem dX9_liftsLeft_44 : decode cX9_liftsLeft 44 = .ok (.invokevirtual 65, 3) := by decide +kernel
theorem dX9_liftsLeft_47 : decode cX9_liftsLeft 47 = .ok (.ifCond .le 19, 3) := by decide +kernel
theorem dX9_liftsLeft_50 : decode cX9_liftsLeft 50 = .ok (.aload_n 0, 1) := by decide +kernel
theorem dX9_liftsLeft_51 : decode cX9_liftsLeft 51 = .ok (.getfield 11, 3) := by decide +kernel
theorem dX9_liftsLeft_54 : decode cX9_liftsLeft 54 = .ok (.bipush 47, 2) := by decide +kernel
theorem dX9_liftsLeft_56 : decode cX9_liftsLeft 56 = .ok (.iload_n 2, 1) := by decide +kernel
theorem dX9_liftsLeft_57 : decode cX9_liftsLeft 57 = .ok (.iadd, 1) := by decide +kernel
theorem dX9_liftsLeft_58 : decode cX9_liftsLeft 58 = .ok (.iaload, 1) := by decide +kernel
theorem dX9_liftsLeft_59 : decode cX9_liftsLeft 59 = .ok (.ifCond .ne 7, 3) := by decide +kernel
theorem dX9_liftsLeft_62 : decode cX9_liftsLeft 62 = .ok (.iconst 1, 1) := by decide +kernel
theorem dX9_liftsLeft_63 : decode cX9_liftsLeft 63 = .ok (.goto 4, 3) := by decide +kernel
theorem dX9_liftsLeft_66 : decode cX9_liftsLeft 66 = .ok (.iconst 0, 1) := by decide +kernel
theorem dX9_liftsLeft_67 : decode cX9_liftsLeft 67 = .ok (.istore 4, 2) := by decide +kernel
theorem dX9_liftsLeft_69 : decode cX9_liftsLeft 69 = .ok (.iload_n 1, 1) := by decide +kernel
theorem dX9_liftsLeft_70 : decode cX9_liftsLeft 70 = .ok (.aload_n 0, 1) := by decide +kernel
theorem dX9_liftsLeft_71 : decode cX9_liftsLeft 71 = .ok (.getfield 11, 3) := by decide +kernel
theorem dX9_liftsLeft_74 : decode cX9_liftsLeft 74 = .ok (.iconst 0, 1) := by decide +kernel
theorem dX9_liftsLeft_75 : decode cX9_liftsLeft 75 = .ok (.iaload, 1) := by decide +kernel
theorem dX9_liftsLeft_76 : decode cX9_liftsLeft 76 = .ok (.ifCond .ne 18, 3) := by decide +kernel
theorem dX9_liftsLeft_79 : decode cX9_liftsLeft 79 = .ok (.iload 4, 2) := by decide +kernel
theorem dX9_liftsLeft_81 : decode cX9_liftsLeft 81 = .ok (.ifCond .eq 13, 3) := by decide +kernel
theorem dX9_liftsLeft_84 : decode cX9_liftsLeft 84 = .ok (.aload_n 0, 1) := by decide +kernel
theorem dX9_liftsLeft_85 : decode cX9_liftsLeft 85 = .ok (.getfield 15, 3) := by decide +kernel
theorem dX9_liftsLeft_88 : decode cX9_liftsLeft 88 = .ok (.invokevirtual 31, 3) := by decide +kernel
theorem dX9_liftsLeft_91 : decode cX9_liftsLeft 91 = .ok (.goto 4, 3) := by decide +kernel
theorem dX9_liftsLeft_94 : decode cX9_liftsLeft 94 = .ok (.iconst 0, 1) := by decide +kernel
theorem dX9_liftsLeft_95 : decode cX9_liftsLeft 95 = .ok (.iadd, 1) := by decide +kernel
theorem dX9_liftsLeft_96 : decode cX9_liftsLeft 96 = .ok (.istore_n 1, 1) := by decide +kernel
theorem dX9_liftsLeft_97 : decode cX9_liftsLeft 97 = .ok (.iinc 2 1, 3) := by decide +kernel
theorem dX9_liftsLeft_100 : decode cX9_liftsLeft 100 = .ok (.goto (-96), 3) := by decide +kernel
theorem dX9_liftsLeft_103 : decode cX9_liftsLeft 103 = .ok (.iload_n 1, 1) := by decide +kernel
theorem dX9_liftsLeft_104 : decode cX9_liftsLeft 104 = .ok (.ireturn, 1) := by decide +kernel
theorem dX10_init_0 : decode cX10_init 0 = .ok (.aload_n 0, 1) := by decide +kernel
theorem dX10_init_1 : decode cX10_init 1 = .ok (.invokespecial 3, 3) := by decide +kernel
theorem dX10_init_4 : decode cX10_init 4 = .ok (.aload_n 0, 1) := by decide +kernel
theorem dX10_init_5 : decode cX10_init 5 = .ok (.sipush 240, 3) := by decide +kernel
theorem dX10_init_8 : decode cX10_init 8 = .ok (.newarray .int, 2) := by decide +kernel
theorem dX10_init_10 : decode cX10_init 10 = .ok (.putfield 9, 3) := by decide +kernel
theorem dX10_init_13 : decode cX10_init 13 = .ok (.return_, 1) := by decide +kernel
theorem dX10_signsIn_0 : decode cX10_signsIn 0 = .ok (.iconst 0, 1) := by decide +kernel
theorem dX10_signsIn_1 : decode cX10_signsIn 1 = .ok (.istore_n 1, 1) := by decide +kernel
theorem dX10_signsIn_2 : decode cX10_signsIn 2 = .ok (.bipush 24, 2) := by decide +kernel
theorem dX10_signsIn_4 : decode cX10_signsIn 4 = .ok (.istore_n 2, 1) := by decide +kernel
theorem dX10_signsIn_5 : decode cX10_signsIn 5 = .ok (.iload_n 2, 1) := by decide +kernel
theorem dX10_signsIn_6 : decode cX10_signsIn 6 = .ok (.ifCond .lt 27, 3) := by decide +kernel
theorem dX10_signsIn_9 : decode cX10_signsIn 9 = .ok (.iload_n 1, 1) := by decide +kernel
theorem dX10_signsIn_10 : decode cX10_signsIn 10 = .ok (.iload_n 0, 1) := by decide +kernel
theorem dX10_signsIn_11 : decode cX10_signsIn 11 = .ok (.iload_n 2, 1) := by decide +kernel
theorem dX10_signsIn_12 : decode cX10_signsIn 12 = .ok (.iushr, 1) := by decide +kernel
theorem dX10_signsIn_13 : decode cX10_signsIn 13 = .ok (.sipush 255, 3) := by decide +kernel
theorem dX10_signsIn_16 : decode cX10_signsIn 16 = .ok (.iand, 1) := by decide +kernel
theorem dX10_signsIn_17 : decode cX10_signsIn 17 = .ok (.ifCond .eq 7, 3) := by decide +kernel
theorem dX10_signsIn_20 : decode cX10_signsIn 20 = .ok (.iconst 1, 1) := by decide +kernel
theorem dX10_signsIn_21 : decode cX10_signsIn 21 = .ok (.goto 4, 3) := by decide +kernel
theorem dX10_signsIn_24 : decode cX10_signsIn 24 = .ok (.iconst 0, 1) := by decide +kernel
theorem dX10_signsIn_25 : decode cX10_signsIn 25 = .ok (.iadd, 1) := by decide +kernel
theorem dX10_signsIn_26 : decode cX10_signsIn 26 = .ok (.istore_n 1, 1) := by decide +kernel
theorem dX10_signsIn_27 : decode cX10_signsIn 27 = .ok (.iinc 2 (-8), 3) := by decide +kernel
theorem dX10_signsIn_30 : decode cX10_signsIn 30 = .ok (.goto (-25), 3) := by decide +kernel
theorem dX10_signsIn_33 : decode cX10_signsIn 33 = .ok (.iload_n 1, 1) := by decide +kernel
theorem dX10_signsIn_34 : decode cX10_signsIn 34 = .ok (.ireturn, 1) := by decide +kernel
theorem dX10_add_0 : decode cX10_add 0 = .ok (.bipush 24, 2) := by decide +kernel
theorem dX10_add_2 : decode cX10_add 2 = .ok (.istore_n 2, 1) := by decide +kernel
theorem dX10_add_3 : decode cX10_add 3 = .ok (.iload_n 2, 1) := by decide +kernel
theorem dX10_add_4 : decode cX10_add 4 = .ok (.ifCond .lt 51, 3) := by decide +kernel
theorem dX10_add_7 : decode cX10_add 7 = .ok (.iload_n 1, 1) := by decide +kernel
theorem dX10_add_8 : decode cX10_add 8 = .ok (.iload_n 2, 1) := by decide +kernel
theorem dX10_add_9 : decode cX10_add 9 = .ok (.iushr, 1) := by decide +kernel
theorem dX10_add_10 : decode cX10_add 10 = .ok (.sipush 255, 3) := by decide +kernel
theorem dX10_add_13 : decode cX10_add 13 = .ok (.iand, 1) := by decide +kernel
theorem dX10_add_14 : decode cX10_add 14 = .ok (.istore_n 3, 1) := by decide +kernel
theorem dX10_add_15 : decode cX10_add 15 = .ok (.iload_n 3, 1) := by decide +kernel
theorem dX10_add_16 : decode cX10_add 16 = .ok (.ifCond .eq 33, 3) := by decide +kernel
theorem dX10_add_19 : decode cX10_add 19 = .ok (.aload_n 0, 1) := by decide +kernel
theorem dX10_add_20 : decode cX10_add 20 = .ok (.getfield 15, 3) := by decide +kernel
theorem dX10_add_23 : decode cX10_add 23 = .ok (.sipush 240, 3) := by decide +kernel
theorem dX10_add_26 : decode cX10_add 26 = .ok (.if_icmp .ge 23, 3) := by decide +kernel
theorem dX10_add_29 : decode cX10_add 29 = .ok (.aload_n 0, 1) := by decide +kernel
theorem dX10_add_30 : decode cX10_add 30 = .ok (.getfield 9, 3) := by decide +kernel
theorem dX10_add_33 : decode cX10_add 33 = .ok (.aload_n 0, 1) := by decide +kernel
theorem dX10_add_34 : decode cX10_add 34 = .ok (.getfield 15, 3) := by decide +kernel
theorem dX10_add_37 : decode cX10_add 37 = .ok (.iload_n 3, 1) := by decide +kernel
theorem dX10_add_38 : decode cX10_add 38 = .ok (.iastore, 1) := by decide +kernel
theorem dX10_add_39 : decode cX10_add 39 = .ok (.aload_n 0, 1) := by decide +kernel
theorem dX10_add_40 : decode cX10_add 40 = .ok (.dup, 1) := by decide +kernel
theorem dX10_add_41 : decode cX10_add 41 = .ok (.getfield 15, 3) := by decide +kernel
theorem dX10_add_44 : decode cX10_add 44 = .ok (.iconst 1, 1) := by decide +kernel
theorem dX10_add_45 : decode cX10_add 45 = .ok (.iadd, 1) := by decide +kernel
theorem dX10_add_46 : decode cX10_add 46 = .ok (.putfield 15, 3) := by decide +kernel
theorem dX10_add_49 : decode cX10_add 49 = .ok (.iinc 2 (-8), 3) := by decide +kernel
theorem dX10_add_52 : decode cX10_add 52 = .ok (.goto (-49), 3) := by decide +kernel
theorem dX10_add_55 : decode cX10_add 55 = .ok (.return_, 1) := by decide +kernel
theorem dX10_start_0 : decode cX10_start 0 = .ok (.aload_n 0, 1) := by decide +kernel
theorem dX10_start_1 : decode cX10_start 1 = .ok (.iconst 0, 1) := by decide +kernel
theorem dX10_start_2 : decode cX10_start 2 = .ok (.putfield 19, 3) := by decide +kernel
theorem dX10_start_5 : decode cX10_start 5 = .ok (.aload_n 0, 1) := by decide +kernel
theorem dX10_start_6 : decode cX10_start 6 = .ok (.iconst (-1), 1) := by decide +kernel
theorem dX10_start_7 : decode cX10_start 7 = .ok (.putfield 22, 3) := by decide +kernel
theorem dX10_start_10 : decode cX10_start 10 = .ok (.return_, 1) := by decide +kernel
theorem dX10_failed_0 : decode cX10_failed 0 = .ok (.aload_n 0, 1) := by decide +kernel
theorem dX10_failed_1 : decode cX10_failed 1 = .ok (.getfield 22, 3) := by decide +kernel
theorem dX10_failed_4 : decode cX10_failed 4 = .ok (.iconst (-1), 1) := by decide +kernel
theorem dX10_failed_5 : decode cX10_failed 5 = .ok (.if_icmp .eq 7, 3) := by decide +kernel
theorem dX10_failed_8 : decode cX10_failed 8 = .ok (.iconst 1, 1) := by decide +kernel
theorem dX10_failed_9 : decode cX10_failed 9 = .ok (.goto 4, 3) := by decide +kernel
theorem dX10_failed_12 : decode cX10_failed 12 = .ok (.iconst 0, 1) := by decide +kernel
theorem dX10_failed_13 : decode cX10_failed 13 = .ok (.ireturn, 1) := by decide +kernel
theorem dX10_failAt_0 : decode cX10_failAt 0 = .ok (.aload_n 0, 1) := by decide +kernel
theorem dX10_failAt_1 : decode cX10_failAt 1 = .ok (.getfield 22, 3) := by decide +kernel
theorem dX10_failAt_4 : decode cX10_failAt 4 = .ok (.iconst (-1), 1) := by decide +kernel
theorem dX10_failAt_5 : decode cX10_failAt 5 = .ok (.if_icmp .ne 8, 3) := by decide +kernel
theorem dX10_failAt_8 : decode cX10_failAt 8 = .ok (.aload_n 0, 1) := by decide +kernel
theorem dX10_failAt_9 : decode cX10_failAt 9 = .ok (.iload_n 1, 1) := by decide +kernel
theorem dX10_failAt_10 : decode cX10_failAt 10 = .ok (.putfield 22, 3) := by decide +kernel
theorem dX10_failAt_13 : decode cX10_failAt 13 = .ok (.return_, 1) := by decide +kernel
theorem dX10_sign_0 : decode cX10_sign 0 = .ok (.aload_n 0, 1) := by decide +kernel
theorem dX10_sign_1 : decode cX10_sign 1 = .ok (.getfield 19, 3) := by decide +kernel
theorem dX10_sign_4 : decode cX10_sign 4 = .ok (.aload_n 0, 1) := by decide +kernel
theorem dX10_sign_5 : decode cX10_sign 5 = .ok (.getfield 15, 3) := by decide +kernel
theorem dX10_sign_8 : decode cX10_sign 8 = .ok (.if_icmp .ge 15, 3) := by decide +kernel
theorem dX10_sign_11 : decode cX10_sign 11 = .ok (.aload_n 0, 1) := by decide +kernel
theorem dX10_sign_12 : decode cX10_sign 12 = .ok (.getfield 9, 3) := by decide +kernel
theorem dX10_sign_15 : decode cX10_sign 15 = .ok (.aload_n 0, 1) := by decide +kernel
theorem dX10_sign_16 : decode cX10_sign 16 = .ok (.getfield 19, 3) := by decide +kernel
theorem dX10_sign_19 : decode cX10_sign 19 = .ok (.iaload, 1) := by decide +kernel
theorem dX10_sign_20 : decode cX10_sign 20 = .ok (.goto 4, 3) := by decide +kernel
theorem dX10_sign_23 : decode cX10_sign 23 = .ok (.iconst 0, 1) := by decide +kernel
theorem dX10_sign_24 : decode cX10_sign 24 = .ok (.ireturn, 1) := by decide +kernel
theorem dX10_look_0 : decode cX10_look 0 = .ok (.aload_n 0, 1) := by decide +kernel
theorem dX10_look_1 : decode cX10_look 1 = .ok (.getfield 19, 3) := by decide +kernel
theorem dX10_look_4 : decode cX10_look 4 = .ok (.istore_n 1, 1) := by decide +kernel
theorem dX10_look_5 : decode cX10_look 5 = .ok (.iload_n 1, 1) := by decide +kernel
theorem dX10_look_6 : decode cX10_look 6 = .ok (.aload_n 0, 1) := by decide +kernel
theorem dX10_look_7 : decode cX10_look 7 = .ok (.getfield 15, 3) := by decide +kernel
theorem dX10_look_10 : decode cX10_look 10 = .ok (.if_icmp .ge 30, 3) := by decide +kernel
theorem dX10_look_13 : decode cX10_look 13 = .ok (.aload_n 0, 1) := by decide +kernel
theorem dX10_look_14 : decode cX10_look 14 = .ok (.getfield 9, 3) := by decide +kernel
theorem dX10_look_17 : decode cX10_look 17 = .ok (.iload_n 1, 1) := by decide +kernel
theorem dX10_look_18 : decode cX10_look 18 = .ok (.iaload, 1) := by decide +kernel
theorem dX10_look_19 : decode cX10_look 19 = .ok (.bipush 32, 2) := by decide +kernel
theorem dX10_look_21 : decode cX10_look 21 = .ok (.if_icmp .ne 19, 3) := by decide +kernel
theorem dX10_look_24 : decode cX10_look 24 = .ok (.aload_n 0, 1) := by decide +kernel
theorem dX10_look_25 : decode cX10_look 25 = .ok (.dup, 1) := by decide +kernel
theorem dX10_look_26 : decode cX10_look 26 = .ok (.getfield 19, 3) := by decide +kernel
theorem dX10_look_29 : decode cX10_look 29 = .ok (.iconst 1, 1) := by decide +kernel
theorem dX10_look_30 : decode cX10_look 30 = .ok (.iadd, 1) := by decide +kernel
theorem dX10_look_31 : decode cX10_look 31 = .ok (.putfield 19, 3) := by decide +kernel
theorem dX10_look_34 : decode cX10_look 34 = .ok (.iinc 1 1, 3) := by decide +kernel
theorem dX10_look_37 : decode cX10_look 37 = .ok (.goto (-32), 3) := by decide +kernel
theorem dX10_look_40 : decode cX10_look 40 = .ok (.aload_n 0, 1) := by decide +kernel
theorem dX10_look_41 : decode cX10_look 41 = .ok (.getfield 19, 3) := by decide +kernel
theorem dX10_look_44 : decode cX10_look 44 = .ok (.aload_n 0, 1) := by decide +kernel
theorem dX10_look_45 : decode cX10_look 45 = .ok (.getfield 15, 3) := by decide +kernel
theorem dX10_look_48 : decode cX10_look 48 = .ok (.if_icmp .ge 15, 3) := by decide +kernel
theorem dX10_look_51 : decode cX10_look 51 = .ok (.aload_n 0, 1) := by decide +kernel
theorem dX10_look_52 : decode cX10_look 52 = .ok (.getfield 9, 3) := by decide +kernel
theorem dX10_look_55 : decode cX10_look 55 = .ok (.aload_n 0, 1) := by decide +kernel
theorem dX10_look_56 : decode cX10_look 56 = .ok (.getfield 19, 3) := by decide +kernel
theorem dX10_look_59 : decode cX10_look 59 = .ok (.iaload, 1) := by decide +kernel
theorem dX10_look_60 : decode cX10_look 60 = .ok (.goto 4, 3) := by decide +kernel
theorem dX10_look_63 : decode cX10_look 63 = .ok (.iconst 0, 1) := by decide +kernel
theorem dX10_look_64 : decode cX10_look 64 = .ok (.ireturn, 1) := by decide +kernel
theorem dX10_expect_0 : decode cX10_expect 0 = .ok (.aload_n 0, 1) := by decide +kernel
theorem dX10_expect_1 : decode cX10_expect 1 = .ok (.invokevirtual 25, 3) := by decide +kernel
theorem dX10_expect_4 : decode cX10_expect 4 = .ok (.iload_n 1, 1) := by decide +kernel
theorem dX10_expect_5 : decode cX10_expect 5 = .ok (.if_icmp .ne 16, 3) := by decide +kernel
theorem dX10_expect_8 : decode cX10_expect 8 = .ok (.aload_n 0, 1) := by decide +kernel
theorem dX10_expect_9 : decode cX10_expect 9 = .ok (.dup, 1) := by decide +kernel
theorem dX10_expect_10 : decode cX10_expect 10 = .ok (.getfield 19, 3) := by decide +kernel
theorem dX10_expect_13 : decode cX10_expect 13 = .ok (.iconst 1, 1) := by decide +kernel
theorem dX10_expect_14 : decode cX10_expect 14 = .ok (.iadd, 1) := by decide +kernel
theorem dX10_expect_15 : decode cX10_expect 15 = .ok (.putfield 19, 3) := by decide +kernel
theorem dX10_expect_18 : decode cX10_expect 18 = .ok (.goto 11, 3) := by decide +kernel
theorem dX10_expect_21 : decode cX10_expect 21 = .ok (.aload_n 0, 1) := by decide +kernel
theorem dX10_expect_22 : decode cX10_expect 22 = .ok (.aload_n 0, 1) := by decide +kernel
theorem dX10_expect_23 : decode cX10_expect 23 = .ok (.getfield 19, 3) := by decide +kernel
theorem dX10_expect_26 : decode cX10_expect 26 = .ok (.invokevirtual 29, 3) := by decide +kernel
theorem dX10_expect_29 : decode cX10_expect 29 = .ok (.return_, 1) := by decide +kernel
theorem dX10_number_0 : decode cX10_number 0 = .ok (.iconst 0, 1) := by decide +kernel
theorem dX10_number_1 : decode cX10_number 1 = .ok (.istore_n 2, 1) := by decide +kernel
theorem dX10_number_2 : decode cX10_number 2 = .ok (.aload_n 0, 1) := by decide +kernel
theorem dX10_number_3 : decode cX10_number 3 = .ok (.invokevirtual 25, 3) := by decide +kernel
theorem dX10_number_6 : decode cX10_number 6 = .ok (.bipush 48, 2) := by decide +kernel
theorem dX10_number_8 : decode cX10_number 8 = .ok (.isub, 1) := by decide +kernel
theorem dX10_number_9 : decode cX10_number 9 = .ok (.istore_n 3, 1) := by decide +kernel
theorem dX10_number_10 : decode cX10_number 10 = .ok (.iload_n 3, 1) := by decide +kernel
theorem dX10_number_11 : decode cX10_number 11 = .ok (.ifCond .lt 9, 3) := by decide +kernel
theorem dX10_number_14 : decode cX10_number 14 = .ok (.iload_n 3, 1) := by decide +kernel
theorem dX10_number_15 : decode cX10_number 15 = .ok (.bipush 9, 2) := by decide +kernel
theorem dX10_number_17 : decode cX10_number 17 = .ok (.if_icmp .le 11, 3) := by decide +kernel
theorem dX10_number_20 : decode cX10_number 20 = .ok (.aload_n 0, 1) := by decide +kernel
theorem dX10_number_21 : decode cX10_number 21 = .ok (.aload_n 0, 1) := by decide +kernel
theorem dX10_number_22 : decode cX10_number 22 = .ok (.getfield 19, 3) := by decide +kernel
theorem dX10_number_25 : decode cX10_number 25 = .ok (.invokevirtual 29, 3) := by decide +kernel
theorem dX10_number_28 : decode cX10_number 28 = .ok (.iconst 0, 1) := by decide +kernel
theorem dX10_number_29 : decode cX10_number 29 = .ok (.istore 4, 2) := by decide +kernel
theorem dX10_number_31 : decode cX10_number 31 = .ok (.iload 4, 2) := by decide +kernel
theorem dX10_number_33 : decode cX10_number 33 = .ok (.iload_n 1, 1) := by decide +kernel
theorem dX10_number_34 : decode cX10_number 34 = .ok (.if_icmp .ge 44, 3) := by decide +kernel
theorem dX10_number_37 : decode cX10_number 37 = .ok (.iload_n 3, 1) := by decide +kernel
theorem dX10_number_38 : decode cX10_number 38 = .ok (.ifCond .lt 40, 3) := by decide +kernel
theorem dX10_number_41 : decode cX10_number 41 = .ok (.iload_n 3, 1) := by decide +kernel
theorem dX10_number_42 : decode cX10_number 42 = .ok (.bipush 9, 2) := by decide +kernel
theorem dX10_number_44 : decode cX10_number 44 = .ok (.if_icmp .gt 34, 3) := by decide +kernel
theorem dX10_number_47 : decode cX10_number 47 = .ok (.iload_n 2, 1) := by decide +kernel
theorem dX10_number_48 : decode cX10_number 48 = .ok (.bipush 10, 2) := by decide +kernel
theorem dX10_number_50 : decode cX10_number 50 = .ok (.imul, 1) := by decide +kernel
theorem dX10_number_51 : decode cX10_number 51 = .ok (.iload_n 3, 1) := by decide +kernel
theorem dX10_number_52 : decode cX10_number 52 = .ok (.iadd, 1) := by decide +kernel
theorem dX10_number_53 : decode cX10_number 53 = .ok (.istore_n 2, 1) := by decide +kernel
theorem dX10_number_54 : decode cX10_number 54 = .ok (.aload_n 0, 1) := by decide +kernel
theorem dX10_number_55 : decode cX10_number 55 = .ok (.dup, 1) := by decide +kernel
theorem dX10_number_56 : decode cX10_number 56 = .ok (.getfield 19, 3) := by decide +kernel
theorem dX10_number_59 : decode cX10_number 59 = .ok (.iconst 1, 1) := by decide +kernel
theorem dX10_number_60 : decode cX10_number 60 = .ok (.iadd, 1) := by decide +kernel
theorem dX10_number_61 : decode cX10_number 61 = .ok (.putfield 19, 3) := by decide +kernel
theorem dX10_number_64 : decode cX10_number 64 = .ok (.aload_n 0, 1) := by decide +kernel
theorem dX10_number_65 : decode cX10_number 65 = .ok (.invokevirtual 33, 3) := by decide +kernel
theorem dX10_number_68 : decode cX10_number 68 = .ok (.bipush 48, 2) := by decide +kernel
theorem dX10_number_70 : decode cX10_number 70 = .ok (.isub, 1) := by decide +kernel
theorem dX10_number_71 : decode cX10_number 71 = .ok (.istore_n 3, 1) := by decide +kernel
theorem dX10_number_72 : decode cX10_number 72 = .ok (.iinc 4 1, 3) := by decide +kernel
theorem dX10_number_75 : decode cX10_number 75 = .ok (.goto (-44), 3) := by decide +kernel
theorem dX10_number_78 : decode cX10_number 78 = .ok (.iload_n 3, 1) := by decide +kernel
theorem dX10_number_79 : decode cX10_number 79 = .ok (.ifCond .lt 17, 3) := by decide +kernel
theorem dX10_number_82 : decode cX10_number 82 = .ok (.iload_n 3, 1) := by decide +kernel
theorem dX10_number_83 : decode cX10_number 83 = .ok (.bipush 9, 2) := by decide +kernel
theorem dX10_number_85 : decode cX10_number 85 = .ok (.if_icmp .gt 11, 3) := by decide +kernel
theorem dX10_number_88 : decode cX10_number 88 = .ok (.aload_n 0, 1) := by decide +kernel
theorem dX10_number_89 : decode cX10_number 89 = .ok (.aload_n 0, 1) := by decide +kernel
theorem dX10_number_90 : decode cX10_number 90 = .ok (.getfield 19, 3) := by decide +kernel
theorem dX10_number_93 : decode cX10_number 93 = .ok (.invokevirtual 29, 3) := by decide +kernel
theorem dX10_number_96 : decode cX10_number 96 = .ok (.iload_n 2, 1) := by decide +kernel
theorem dX10_number_97 : decode cX10_number 97 = .ok (.ireturn, 1) := by decide +kernel
theorem dX11_init_0 : decode cX11_init 0 = .ok (.aload_n 0, 1) := by decide +kernel
theorem dX11_init_1 : decode cX11_init 1 = .ok (.invokespecial 1, 3) := by decide +kernel
theorem dX11_init_4 : decode cX11_init 4 = .ok (.aload_n 0, 1) := by decide +kernel
theorem dX11_init_5 : decode cX11_init 5 = .ok (.new 7, 3) := by decide +kernel
theorem dX11_init_8 : decode cX11_init 8 = .ok (.dup, 1) := by decide +kernel
theorem dX11_init_9 : decode cX11_init 9 = .ok (.invokespecial 9, 3) := by decide +kernel
theorem dX11_init_12 : decode cX11_init 12 = .ok (.putfield 10, 3) := by decide +kernel
theorem dX11_init_15 : decode cX11_init 15 = .ok (.aload_n 0, 1) := by decide +kernel
theorem dX11_init_16 : decode cX11_init 16 = .ok (.new 16, 3) := by decide +kernel
theorem dX11_init_19 : decode cX11_init 19 = .ok (.dup, 1) := by decide +kernel
theorem dX11_init_20 : decode cX11_init 20 = .ok (.invokespecial 18, 3) := by decide +kernel
theorem dX11_init_23 : decode cX11_init 23 = .ok (.putfield 19, 3) := by decide +kernel
theorem dX11_init_26 : decode cX11_init 26 = .ok (.aload_n 0, 1) := by decide +kernel
theorem dX11_init_27 : decode cX11_init 27 = .ok (.new 23, 3) := by decide +kernel
theorem dX11_init_30 : decode cX11_init 30 = .ok (.dup, 1) := by decide +kernel
theorem dX11_init_31 : decode cX11_init 31 = .ok (.aload_n 0, 1) := by decide +kernel
theorem dX11_init_32 : decode cX11_init 32 = .ok (.getfield 10, 3) := by decide +kernel
theorem dX11_init_35 : decode cX11_init 35 = .ok (.invokespecial 25, 3) := by decide +kernel
theorem dX11_init_38 : decode cX11_init 38 = .ok (.putfield 28, 3) := by decide +kernel
theorem dX11_init_41 : decode cX11_init 41 = .ok (.aload_n 0, 1) := by decide +kernel
theorem dX11_init_42 : decode cX11_init 42 = .ok (.new 32, 3) := by decide +kernel
theorem dX11_init_45 : decode cX11_init 45 = .ok (.dup, 1) := by decide +kernel
theorem dX11_init_46 : decode cX11_init 46 = .ok (.aload_n 0, 1) := by decide +kernel
theorem dX11_init_47 : decode cX11_init 47 = .ok (.getfield 10, 3) := by decide +kernel
theorem dX11_init_50 : decode cX11_init 50 = .ok (.invokespecial 34, 3) := by decide +kernel
theorem dX11_init_53 : decode cX11_init 53 = .ok (.putfield 35, 3) := by decide +kernel
theorem dX11_init_56 : decode cX11_init 56 = .ok (.aload_n 0, 1) := by decide +kernel
theorem dX11_init_57 : decode cX11_init 57 = .ok (.new 39, 3) := by decide +kernel
theorem dX11_init_60 : decode cX11_init 60 = .ok (.dup, 1) := by decide +kernel
theorem dX11_init_61 : decode cX11_init 61 = .ok (.aload_n 0, 1) := by decide +kernel
theorem dX11_init_62 : decode cX11_init 62 = .ok (.getfield 19, 3) := by decide +kernel
theorem dX11_init_65 : decode cX11_init 65 = .ok (.invokespecial 41, 3) := by decide +kernel
theorem dX11_init_68 : decode cX11_init 68 = .ok (.putfield 44, 3) := by decide +kernel
theorem dX11_init_71 : decode cX11_init 71 = .ok (.aload_n 0, 1) := by decide +kernel
theorem dX11_init_72 : decode cX11_init 72 = .ok (.new 48, 3) := by decide +kernel
theorem dX11_init_75 : decode cX11_init 75 = .ok (.dup, 1) := by decide +kernel
theorem dX11_init_76 : decode cX11_init 76 = .ok (.aload_n 0, 1) := by decide +kernel
theorem dX11_init_77 : decode cX11_init 77 = .ok (.getfield 19, 3) := by decide +kernel
theorem dX11_init_80 : decode cX11_init 80 = .ok (.invokespecial 50, 3) := by decide +kernel
theorem dX11_init_83 : decode cX11_init 83 = .ok (.putfield 51, 3) := by decide +kernel
theorem dX11_init_86 : decode cX11_init 86 = .ok (.aload_n 0, 1) := by decide +kernel
theorem dX11_init_87 : decode cX11_init 87 = .ok (.new 48, 3) := by decide +kernel
theorem dX11_init_90 : decode cX11_init 90 = .ok (.dup, 1) := by decide +kernel
theorem dX11_init_91 : decode cX11_init 91 = .ok (.aload_n 0, 1) := by decide +kernel
theorem dX11_init_92 : decode cX11_init 92 = .ok (.getfield 19, 3) := by decide +kernel
theorem dX11_init_95 : decode cX11_init 95 = .ok (.invokespecial 50, 3) := by decide +kernel
theorem dX11_init_98 : decode cX11_init 98 = .ok (.putfield 55, 3) := by decide +kernel
theorem dX11_init_101 : decode cX11_init 101 = .ok (.aload_n 0, 1) := by decide +kernel
theorem dX11_init_102 : decode cX11_init 102 = .ok (.new 58, 3) := by decide +kernel
theorem dX11_init_105 : decode cX11_init 105 = .ok (.dup, 1) := by decide +kernel
theorem dX11_init_106 : decode cX11_init 106 = .ok (.invokespecial 60, 3) := by decide +kernel
theorem dX11_init_109 : decode cX11_init 109 = .ok (.putfield 61, 3) := by decide +kernel
theorem dX11_init_112 : decode cX11_init 112 = .ok (.aload_n 0, 1) := by decide +kernel
theorem dX11_init_113 : decode cX11_init 113 = .ok (.new 48, 3) := by decide +kernel
theorem dX11_init_116 : decode cX11_init 116 = .ok (.dup, 1) := by decide +kernel
theorem dX11_init_117 : decode cX11_init 117 = .ok (.aload_n 0, 1) := by decide +kernel
theorem dX11_init_118 : decode cX11_init 118 = .ok (.getfield 19, 3) := by decide +kernel
theorem dX11_init_121 : decode cX11_init 121 = .ok (.invokespecial 50, 3) := by decide +kernel
theorem dX11_init_124 : decode cX11_init 124 = .ok (.putfield 65, 3) := by decide +kernel
theorem dX11_init_127 : decode cX11_init 127 = .ok (.aload_n 0, 1) := by decide +kernel
theorem dX11_init_128 : decode cX11_init 128 = .ok (.new 58, 3) := by decide +kernel
theorem dX11_init_131 : decode cX11_init 131 = .ok (.dup, 1) := by decide +kernel
theorem dX11_init_132 : decode cX11_init 132 = .ok (.invokespecial 60, 3) := by decide +kernel
theorem dX11_init_135 : decode cX11_init 135 = .ok (.putfield 68, 3) := by decide +kernel
theorem dX11_init_138 : decode cX11_init 138 = .ok (.aload_n 0, 1) := by decide +kernel
theorem dX11_init_139 : decode cX11_init 139 = .ok (.new 71, 3) := by decide +kernel
theorem dX11_init_142 : decode cX11_init 142 = .ok (.dup, 1) := by decide +kernel
theorem dX11_init_143 : decode cX11_init 143 = .ok (.aload_n 0, 1) := by decide +kernel
theorem dX11_init_144 : decode cX11_init 144 = .ok (.getfield 19, 3) := by decide +kernel
theorem dX11_init_147 : decode cX11_init 147 = .ok (.aload_n 0, 1) := by decide +kernel
theorem dX11_init_148 : decode cX11_init 148 = .ok (.getfield 44, 3) := by decide +kernel
theorem dX11_init_151 : decode cX11_init 151 = .ok (.invokespecial 73, 3) := by decide +kernel
theorem dX11_init_154 : decode cX11_init 154 = .ok (.putfield 76, 3) := by decide +kernel
theorem dX11_init_157 : decode cX11_init 157 = .ok (.aload_n 0, 1) := by decide +kernel
theorem dX11_init_158 : decode cX11_init 158 = .ok (.new 80, 3) := by decide +kernel
theorem dX11_init_161 : decode cX11_init 161 = .ok (.dup, 1) := by decide +kernel
theorem dX11_init_162 : decode cX11_init 162 = .ok (.aload_n 0, 1) := by decide +kernel
theorem dX11_init_163 : decode cX11_init 163 = .ok (.getfield 19, 3) := by decide +kernel
theorem dX11_init_166 : decode cX11_init 166 = .ok (.invokespecial 82, 3) := by decide +kernel
theorem dX11_init_169 : decode cX11_init 169 = .ok (.putfield 83, 3) := by decide +kernel
theorem dX11_init_172 : decode cX11_init 172 = .ok (.aload_n 0, 1) := by decide +kernel
theorem dX11_init_173 : decode cX11_init 173 = .ok (.new 87, 3) := by decide +kernel
theorem dX11_init_176 : decode cX11_init 176 = .ok (.dup, 1) := by decide +kernel
theorem dX11_init_177 : decode cX11_init 177 = .ok (.aload_n 0, 1) := by decide +kernel
theorem dX11_init_178 : decode cX11_init 178 = .ok (.getfield 19, 3) := by decide +kernel
theorem dX11_init_181 : decode cX11_init 181 = .ok (.aload_n 0, 1) := by decide +kernel
theorem dX11_init_182 : decode cX11_init 182 = .ok (.getfield 44, 3) := by decide +kernel
theorem dX11_init_185 : decode cX11_init 185 = .ok (.invokespecial 89, 3) := by decide +kernel
theorem dX11_init_188 : decode cX11_init 188 = .ok (.putfield 90, 3) := by decide +kernel
theorem dX11_init_191 : decode cX11_init 191 = .ok (.aload_n 0, 1) := by decide +kernel
theorem dX11_init_192 : decode cX11_init 192 = .ok (.new 94, 3) := by decide +kernel
theorem dX11_init_195 : decode cX11_init 195 = .ok (.dup, 1) := by decide +kernel
theorem dX11_init_196 : decode cX11_init 196 = .ok (.aload_n 0, 1) := by decide +kernel
theorem dX11_init_197 : decode cX11_init 197 = .ok (.getfield 19, 3) := by decide +kernel
theorem dX11_init_200 : decode cX11_init 200 = .ok (.invokespecial 96, 3) := by decide +kernel
theorem dX11_init_203 : decode cX11_init 203 = .ok (.putfield 97, 3) := by decide +kernel
theorem dX11_init_206 : decode cX11_init 206 = .ok (.aload_n 0, 1) := by decide +kernel
theorem dX11_init_207 : decode cX11_init 207 = .ok (.bipush 40, 2) := by decide +kernel
theorem dX11_init_209 : decode cX11_init 209 = .ok (.bipush 71, 2) := by decide +kernel
theorem dX11_init_211 : decode cX11_init 211 = .ok (.multianewarray 101 2, 4) := by decide +kernel
theorem dX11_init_215 : decode cX11_init 215 = .ok (.putfield 103, 3) := by decide +kernel
theorem dX11_init_218 : decode cX11_init 218 = .ok (.return_, 1) := by decide +kernel
theorem dX11_feed_0 : decode cX11_feed 0 = .ok (.iload_n 1, 1) := by decide +kernel
theorem dX11_feed_1 : decode cX11_feed 1 = .ok (.invokestatic 106, 3) := by decide +kernel
theorem dX11_feed_4 : decode cX11_feed 4 = .ok (.iload_n 2, 1) := by decide +kernel
theorem dX11_feed_5 : decode cX11_feed 5 = .ok (.invokestatic 106, 3) := by decide +kernel
theorem dX11_feed_8 : decode cX11_feed 8 = .ok (.iadd, 1) := by decide +kernel
theorem dX11_feed_9 : decode cX11_feed 9 = .ok (.iload_n 3, 1) := by decide +kernel
theorem dX11_feed_10 : decode cX11_feed 10 = .ok (.invokestatic 106, 3) := by decide +kernel
theorem dX11_feed_13 : decode cX11_feed 13 = .ok (.iadd, 1) := by decide +kernel
theorem dX11_feed_14 : decode cX11_feed 14 = .ok (.iload 4, 2) := by decide +kernel
theorem dX11_feed_16 : decode cX11_feed 16 = .ok (.invokestatic 106, 3) := by decide +kernel
theorem dX11_feed_19 : decode cX11_feed 19 = .ok (.iadd, 1) := by decide +kernel
theorem dX11_feed_20 : decode cX11_feed 20 = .ok (.iload 5, 2) := by decide +kernel
theorem dX11_feed_22 : decode cX11_feed 22 = .ok (.invokestatic 106, 3) := by decide +kernel
theorem dX11_feed_25 : decode cX11_feed 25 = .ok (.iadd, 1) := by decide +kernel
theorem dX11_feed_26 : decode cX11_feed 26 = .ok (.istore 6, 2) := by decide +kernel
theorem dX11_feed_28 : decode cX11_feed 28 = .ok (.aload_n 0, 1) := by decide +kernel
theorem dX11_feed_29 : decode cX11_feed 29 = .ok (.getfield 10, 3) := by decide +kernel
theorem dX11_feed_32 : decode cX11_feed 32 = .ok (.getfield 110, 3) := by decide +kernel
theorem dX11_feed_35 : decode cX11_feed 35 = .ok (.iload 6, 2) := by decide +kernel
theorem dX11_feed_37 : decode cX11_feed 37 = .ok (.iadd, 1) := by decide +kernel
theorem dX11_feed_38 : decode cX11_feed 38 = .ok (.sipush 240, 3) := by decide +kernel
theorem dX11_feed_41 : decode cX11_feed 41 = .ok (.if_icmp .le 5, 3) := by decide +kernel
theorem dX11_feed_44 : decode cX11_feed 44 = .ok (.iconst (-1), 1) := by decide +kernel
theorem dX11_feed_45 : decode cX11_feed 45 = .ok (.ireturn, 1) := by decide +kernel
theorem dX11_feed_46 : decode cX11_feed 46 = .ok (.aload_n 0, 1) := by decide +kernel
theorem dX11_feed_47 : decode cX11_feed 47 = .ok (.getfield 10, 3) := by decide +kernel
theorem dX11_feed_50 : decode cX11_feed 50 = .ok (.iload_n 1, 1) := by decide +kernel
theorem dX11_feed_51 : decode cX11_feed 51 = .ok (.invokevirtual 114, 3) := by decide +kernel
theorem dX11_feed_54 : decode cX11_feed 54 = .ok (.aload_n 0, 1) := by decide +kernel
theorem dX11_feed_55 : decode cX11_feed 55 = .ok (.getfield 10, 3) := by decide +kernel
theorem dX11_feed_58 : decode cX11_feed 58 = .ok (.iload_n 2, 1) := by decide +kernel
theorem dX11_feed_59 : decode cX11_feed 59 = .ok (.invokevirtual 114, 3) := by decide +kernel
theorem dX11_feed_62 : decode cX11_feed 62 = .ok (.aload_n 0, 1) := by decide +kernel
theorem dX11_feed_63 : decode cX11_feed 63 = .ok (.getfield 10, 3) := by decide +kernel
theorem dX11_feed_66 : decode cX11_feed 66 = .ok (.iload_n 3, 1) := by decide +kernel
theorem dX11_feed_67 : decode cX11_feed 67 = .ok (.invokevirtual 114, 3) := by decide +kernel
theorem dX11_feed_70 : decode cX11_feed 70 = .ok (.aload_n 0, 1) := by decide +kernel
theorem dX11_feed_71 : decode cX11_feed 71 = .ok (.getfield 10, 3) := by decide +kernel
theorem dX11_feed_74 : decode cX11_feed 74 = .ok (.iload 4, 2) := by decide +kernel
theorem dX11_feed_76 : decode cX11_feed 76 = .ok (.invokevirtual 114, 3) := by decide +kernel
theorem dX11_feed_79 : decode cX11_feed 79 = .ok (.aload_n 0, 1) := by decide +kernel
theorem dX11_feed_80 : decode cX11_feed 80 = .ok (.getfield 10, 3) := by decide +kernel
theorem dX11_feed_83 : decode cX11_feed 83 = .ok (.iload 5, 2) := by decide +kernel
theorem dX11_feed_85 : decode cX11_feed 85 = .ok (.invokevirtual 114, 3) := by decide +kernel
theorem dX11_feed_88 : decode cX11_feed 88 = .ok (.aload_n 0, 1) := by decide +kernel
theorem dX11_feed_89 : decode cX11_feed 89 = .ok (.getfield 10, 3) := by decide +kernel
theorem dX11_feed_92 : decode cX11_feed 92 = .ok (.getfield 110, 3) := by decide +kernel
theorem dX11_feed_95 : decode cX11_feed 95 = .ok (.ireturn, 1) := by decide +kernel
theorem dX11_end_0 : decode cX11_end 0 = .ok (.iload_n 1, 1) := by decide +kernel
theorem dX11_end_1 : decode cX11_end 1 = .ok (.ifCond .lt 14, 3) := by decide +kernel
theorem dX11_end_4 : decode cX11_end 4 = .ok (.iload_n 1, 1) := by decide +kernel
theorem dX11_end_5 : decode cX11_end 5 = .ok (.aload_n 0, 1) := by decide +kernel
theorem dX11_end_6 : decode cX11_end 6 = .ok (.getfield 10, 3) := by decide +kernel
theorem dX11_end_9 : decode cX11_end 9 = .ok (.getfield 110, 3) := by decide +kernel
theorem dX11_end_12 : decode cX11_end 12 = .ok (.if_icmp .le 5, 3) := by decide +kernel
theorem dX11_end_15 : decode cX11_end 15 = .ok (.iconst 0, 1) := by decide +kernel
theorem dX11_end_16 : decode cX11_end 16 = .ok (.ireturn, 1) := by decide +kernel
theorem dX11_end_17 : decode cX11_end 17 = .ok (.aload_n 0, 1) := by decide +kernel
theorem dX11_end_18 : decode cX11_end 18 = .ok (.getfield 10, 3) := by decide +kernel
theorem dX11_end_21 : decode cX11_end 21 = .ok (.iload_n 1, 1) := by decide +kernel
theorem dX11_end_22 : decode cX11_end 22 = .ok (.putfield 110, 3) := by decide +kernel
theorem dX11_end_25 : decode cX11_end 25 = .ok (.iconst 1, 1) := by decide +kernel
theorem dX11_end_26 : decode cX11_end 26 = .ok (.ireturn, 1) := by decide +kernel
theorem dX11_fault_0 : decode cX11_fault 0 = .ok (.iload_n 1, 1) := by decide +kernel
theorem dX11_fault_1 : decode cX11_fault 1 = .ok (.ifCond .ne 11, 3) := by decide +kernel
theorem dX11_fault_4 : decode cX11_fault 4 = .ok (.aload_n 0, 1) := by decide +kernel
theorem dX11_fault_5 : decode cX11_fault 5 = .ok (.getfield 28, 3) := by decide +kernel
theorem dX11_fault_8 : decode cX11_fault 8 = .ok (.invokevirtual 118, 3) := by decide +kernel
theorem dX11_fault_11 : decode cX11_fault 11 = .ok (.ireturn, 1) := by decide +kernel
theorem dX11_fault_12 : decode cX11_fault 12 = .ok (.iload_n 1, 1) := by decide +kernel
theorem dX11_fault_13 : decode cX11_fault 13 = .ok (.iconst 1, 1) := by decide +kernel
theorem dX11_fault_14 : decode cX11_fault 14 = .ok (.if_icmp .ne 13, 3) := by decide +kernel
theorem dX11_fault_17 : decode cX11_fault 17 = .ok (.aload_n 0, 1) := by decide +kernel
theorem dX11_fault_18 : decode cX11_fault 18 = .ok (.getfield 35, 3) := by decide +kernel
theorem dX11_fault_21 : decode cX11_fault 21 = .ok (.invokevirtual 122, 3) := by decide +kernel
theorem dX11_fault_24 : decode cX11_fault 24 = .ok (.goto 5, 3) := by decide +kernel
theorem dX11_fault_27 : decode cX11_fault 27 = .ok (.bipush (-2), 2) := by decide +kernel
theorem dX11_fault_29 : decode cX11_fault 29 = .ok (.ireturn, 1) := by decide +kernel
theorem dX11_text_0 : decode cX11_text 0 = .ok (.iload_n 1, 1) := by decide +kernel
theorem dX11_text_1 : decode cX11_text 1 = .ok (.ifCond .ne 19, 3) := by decide +kernel
theorem dX11_text_4 : decode cX11_text 4 = .ok (.aload_n 0, 1) := by decide +kernel
theorem dX11_text_5 : decode cX11_text 5 = .ok (.getfield 28, 3) := by decide +kernel
theorem dX11_text_8 : decode cX11_text 8 = .ok (.invokevirtual 118, 3) := by decide +kernel
theorem dX11_text_11 : decode cX11_text 11 = .ok (.iconst (-1), 1) := by decide +kernel
theorem dX11_text_12 : decode cX11_text 12 = .ok (.if_icmp .ne 8, 3) := by decide +kernel
theorem dX11_text_15 : decode cX11_text 15 = .ok (.aload_n 0, 1) := by decide +kernel
theorem dX11_text_16 : decode cX11_text 16 = .ok (.invokevirtual 123, 3) := by decide +kernel
theorem dX11_text_19 : decode cX11_text 19 = .ok (.ireturn, 1) := by decide +kernel
theorem dX11_text_20 : decode cX11_text 20 = .ok (.iload_n 1, 1) := by decide +kernel
theorem dX11_text_21 : decode cX11_text 21 = .ok (.iconst 1, 1) := by decide +kernel
theorem dX11_text_22 : decode cX11_text 22 = .ok (.if_icmp .ne 56, 3) := by decide +kernel
theorem dX11_text_25 : decode cX11_text 25 = .ok (.aload_n 0, 1) := by decide +kernel
theorem dX11_text_26 : decode cX11_text 26 = .ok (.getfield 44, 3) := by decide +kernel
theorem dX11_text_29 : decode cX11_text 29 = .ok (.getfield 126, 3) := by decide +kernel
theorem dX11_text_32 : decode cX11_text 32 = .ok (.bipush 6, 2) := by decide +kernel
theorem dX11_text_34 : decode cX11_text 34 = .ok (.if_icmp .ge 44, 3) := by decide +kernel
theorem dX11_text_37 : decode cX11_text 37 = .ok (.aload_n 0, 1) := by decide +kernel
theorem dX11_text_38 : decode cX11_text 38 = .ok (.getfield 35, 3) := by decide +kernel
theorem dX11_text_41 : decode cX11_text 41 = .ok (.invokevirtual 122, 3) := by decide +kernel
theorem dX11_text_44 : decode cX11_text 44 = .ok (.iconst (-1), 1) := by decide +kernel
theorem dX11_text_45 : decode cX11_text 45 = .ok (.if_icmp .ne 33, 3) := by decide +kernel
theorem dX11_text_48 : decode cX11_text 48 = .ok (.aload_n 0, 1) := by decide +kernel
theorem dX11_text_49 : decode cX11_text 49 = .ok (.getfield 10, 3) := by decide +kernel
theorem dX11_text_52 : decode cX11_text 52 = .ok (.iconst 0, 1) := by decide +kernel
theorem dX11_text_53 : decode cX11_text 53 = .ok (.putfield 110, 3) := by decide +kernel
theorem dX11_text_56 : decode cX11_text 56 = .ok (.aload_n 0, 1) := by decide +kernel
theorem dX11_text_57 : decode cX11_text 57 = .ok (.getfield 44, 3) := by decide +kernel
theorem dX11_text_60 : decode cX11_text 60 = .ok (.aload_n 0, 1) := by decide +kernel
theorem dX11_text_61 : decode cX11_text 61 = .ok (.getfield 35, 3) := by decide +kernel
theorem dX11_text_64 : decode cX11_text 64 = .ok (.getfield 129, 3) := by decide +kernel
theorem dX11_text_67 : decode cX11_text 67 = .ok (.aload_n 0, 1) := by decide +kernel
theorem dX11_text_68 : decode cX11_text 68 = .ok (.getfield 35, 3) := by decide +kernel
theorem dX11_text_71 : decode cX11_text 71 = .ok (.getfield 133, 3) := by decide +kernel
theorem dX11_text_74 : decode cX11_text 74 = .ok (.invokevirtual 134, 3) := by decide +kernel
theorem dX11_text_77 : decode cX11_text 77 = .ok (.ireturn, 1) := by decide +kernel
theorem dX11_text_78 : decode cX11_text 78 = .ok (.iconst (-1), 1) := by decide +kernel
theorem dX11_text_79 : decode cX11_text 79 = .ok (.ireturn, 1) := by decide +kernel
theorem dX11_takeHall_0 : decode cX11_takeHall 0 = .ok (.aload_n 0, 1) := by decide +kernel
theorem dX11_takeHall_1 : decode cX11_takeHall 1 = .ok (.getfield 19, 3) := by decide +kernel
theorem dX11_takeHall_4 : decode cX11_takeHall 4 = .ok (.aload_n 0, 1) := by decide +kernel
theorem dX11_takeHall_5 : decode cX11_takeHall 5 = .ok (.getfield 28, 3) := by decide +kernel
theorem dX11_takeHall_8 : decode cX11_takeHall 8 = .ok (.getfield 137, 3) := by decide +kernel
theorem dX11_takeHall_11 : decode cX11_takeHall 11 = .ok (.invokevirtual 140, 3) := by decide +kernel
theorem dX11_takeHall_14 : decode cX11_takeHall 14 = .ok (.aload_n 0, 1) := by decide +kernel
theorem dX11_takeHall_15 : decode cX11_takeHall 15 = .ok (.getfield 10, 3) := by decide +kernel
theorem dX11_takeHall_18 : decode cX11_takeHall 18 = .ok (.iconst 0, 1) := by decide +kernel
theorem dX11_takeHall_19 : decode cX11_takeHall 19 = .ok (.putfield 110, 3) := by decide +kernel
theorem dX11_takeHall_22 : decode cX11_takeHall 22 = .ok (.aload_n 0, 1) := by decide +kernel
theorem dX11_takeHall_23 : decode cX11_takeHall 23 = .ok (.getfield 51, 3) := by decide +kernel
theorem dX11_takeHall_26 : decode cX11_takeHall 26 = .ok (.invokevirtual 143, 3) := by decide +kernel
theorem dX11_takeHall_29 : decode cX11_takeHall 29 = .ok (.aload_n 0, 1) := by decide +kernel
theorem dX11_takeHall_30 : decode cX11_takeHall 30 = .ok (.getfield 61, 3) := by decide +kernel
theorem dX11_takeHall_33 : decode cX11_takeHall 33 = .ok (.iconst 0, 1) := by decide +kernel
theorem dX11_takeHall_34 : decode cX11_takeHall 34 = .ok (.putfield 146, 3) := by decide +kernel
theorem dX11_takeHall_37 : decode cX11_takeHall 37 = .ok (.aload_n 0, 1) := by decide +kernel
theorem dX11_takeHall_38 : decode cX11_takeHall 38 = .ok (.iconst 0, 1) := by decide +kernel
theorem dX11_takeHall_39 : decode cX11_takeHall 39 = .ok (.putfield 147, 3) := by decide +kernel
theorem dX11_takeHall_42 : decode cX11_takeHall 42 = .ok (.aload_n 0, 1) := by decide +kernel
theorem dX11_takeHall_43 : decode cX11_takeHall 43 = .ok (.iconst 0, 1) := by decide +kernel
theorem dX11_takeHall_44 : decode cX11_takeHall 44 = .ok (.putfield 150, 3) := by decide +kernel
theorem dX11_takeHall_47 : decode cX11_takeHall 47 = .ok (.aload_n 0, 1) := by decide +kernel
theorem dX11_takeHall_48 : decode cX11_takeHall 48 = .ok (.getfield 19, 3) := by decide +kernel
theorem dX11_takeHall_51 : decode cX11_takeHall 51 = .ok (.getfield 154, 3) := by decide +kernel
theorem dX11_takeHall_54 : decode cX11_takeHall 54 = .ok (.ireturn, 1) := by decide +kernel
theorem dX11_lifter_0 : decode cX11_lifter 0 = .ok (.aload_n 0, 1) := by decide +kernel
theorem dX11_lifter_1 : decode cX11_lifter 1 = .ok (.iload_n 1, 1) := by decide +kernel
theorem dX11_lifter_2 : decode cX11_lifter 2 = .ok (.invokevirtual 155, 3) := by decide +kernel
theorem dX11_lifter_5 : decode cX11_lifter 5 = .ok (.ifCond .ne 13, 3) := by decide +kernel
theorem dX11_lifter_8 : decode cX11_lifter 8 = .ok (.new 159, 3) := by decide +kernel
theorem dX11_lifter_11 : decode cX11_lifter 11 = .ok (.dup, 1) := by decide +kernel
theorem dX11_lifter_12 : decode cX11_lifter 12 = .ok (.ldc 161, 2) := by decide +kernel
theorem dX11_lifter_14 : decode cX11_lifter 14 = .ok (.invokespecial 163, 3) := by decide +kernel
theorem dX11_lifter_17 : decode cX11_lifter 17 = .ok (.athrow, 1) := by decide +kernel
theorem dX11_lifter_18 : decode cX11_lifter 18 = .ok (.iload_n 2, 1) := by decide +kernel
theorem dX11_lifter_19 : decode cX11_lifter 19 = .ok (.tableswitch 265 0 16 #[81, 91, 101, 111, 121, 132, 143, 168, 179, 189, 199, 208, 217, 228, 237, 243, 254], 81) := by decide +kernel
theorem dX11_lifter_100 : decode cX11_lifter 100 = .ok (.aload_n 0, 1) := by decide +kernel
theorem dX11_lifter_101 : decode cX11_lifter 101 = .ok (.getfield 19, 3) := by decide +kernel
theorem dX11_lifter_104 : decode cX11_lifter 104 = .ok (.iconst 2, 1) := by decide +kernel
theorem dX11_lifter_105 : decode cX11_lifter 105 = .ok (.iload_n 1, 1) := by decide +kernel
theorem dX11_lifter_106 : decode cX11_lifter 106 = .ok (.invokevirtual 166, 3) := by decide +kernel
theorem dX11_lifter_109 : decode cX11_lifter 109 = .ok (.ireturn, 1) := by decide +kernel
theorem dX11_lifter_110 : decode cX11_lifter 110 = .ok (.aload_n 0, 1) := by decide +kernel
theorem dX11_lifter_111 : decode cX11_lifter 111 = .ok (.getfield 19, 3) := by decide +kernel
theorem dX11_lifter_114 : decode cX11_lifter 114 = .ok (.iconst 3, 1) := by decide +kernel
theorem dX11_lifter_115 : decode cX11_lifter 115 = .ok (.iload_n 1, 1) := by decide +kernel
theorem dX11_lifter_116 : decode cX11_lifter 116 = .ok (.invokevirtual 166, 3) := by decide +kernel
theorem dX11_lifter_119 : decode cX11_lifter 119 = .ok (.ireturn, 1) := by decide +kernel
theorem dX11_lifter_120 : decode cX11_lifter 120 = .ok (.aload_n 0, 1) := by decide +kernel
theorem dX11_lifter_121 : decode cX11_lifter 121 = .ok (.getfield 19, 3) := by decide +kernel
theorem dX11_lifter_124 : decode cX11_lifter 124 = .ok (.iconst 4, 1) := by decide +kernel
theorem dX11_lifter_125 : decode cX11_lifter 125 = .ok (.iload_n 1, 1) := by decide +kernel
theorem dX11_lifter_126 : decode cX11_lifter 126 = .ok (.invokevirtual 166, 3) := by decide +kernel
theorem dX11_lifter_129 : decode cX11_lifter 129 = .ok (.ireturn, 1) := by decide +kernel
theorem dX11_lifter_130 : decode cX11_lifter 130 = .ok (.aload_n 0, 1) := by decide +kernel
theorem dX11_lifter_131 : decode cX11_lifter 131 = .ok (.getfield 19, 3) := by decide +kernel
theorem dX11_lifter_134 : decode cX11_lifter 134 = .ok (.iconst 5, 1) := by decide +kernel
theorem dX11_lifter_135 : decode cX11_lifter 135 = .ok (.iload_n 1, 1) := by decide +kernel
theorem dX11_lifter_136 : decode cX11_lifter 136 = .ok (.invokevirtual 166, 3) := by decide +kernel
theorem dX11_lifter_139 : decode cX11_lifter 139 = .ok (.ireturn, 1) := by decide +kernel
theorem dX11_lifter_140 : decode cX11_lifter 140 = .ok (.aload_n 0, 1) := by decide +kernel
theorem dX11_lifter_141 : decode cX11_lifter 141 = .ok (.getfield 51, 3) := by decide +kernel
theorem dX11_lifter_144 : decode cX11_lifter 144 = .ok (.bipush 29, 2) := by decide +kernel
theorem dX11_lifter_146 : decode cX11_lifter 146 = .ok (.iload_n 1, 1) := by decide +kernel
theorem dX11_lifter_147 : decode cX11_lifter 147 = .ok (.invokevirtual 170, 3) := by decide +kernel
theorem dX11_lifter_150 : decode cX11_lifter 150 = .ok (.ireturn, 1) := by decide +kernel
theorem dX11_lifter_151 : decode cX11_lifter 151 = .ok (.aload_n 0, 1) := by decide +kernel
theorem dX11_lifter_152 : decode cX11_lifter 152 = .ok (.getfield 19, 3) := by decide +kernel
theorem dX11_lifter_155 : decode cX11_lifter 155 = .ok (.bipush 9, 2) := by decide +kernel
theorem dX11_lifter_157 : decode cX11_lifter 157 = .ok (.iload_n 1, 1) := by decide +kernel
theorem dX11_lifter_158 : decode cX11_lifter 158 = .ok (.invokevirtual 166, 3) := by decide +kernel
theorem dX11_lifter_161 : decode cX11_lifter 161 = .ok (.ireturn, 1) := by decide +kernel
theorem dX11_lifter_162 : decode cX11_lifter 162 = .ok (.aload_n 0, 1) := by decide +kernel
theorem dX11_lifter_163 : decode cX11_lifter 163 = .ok (.getfield 51, 3) := by decide +kernel
theorem dX11_lifter_166 : decode cX11_lifter 166 = .ok (.iload_n 1, 1) := by decide +kernel
theorem dX11_lifter_167 : decode cX11_lifter 167 = .ok (.invokevirtual 171, 3) := by decide +kernel
theorem dX11_lifter_170 : decode cX11_lifter 170 = .ok (.ifCond .eq 15, 3) := by decide +kernel
theorem dX11_lifter_173 : decode cX11_lifter 173 = .ok (.aload_n 0, 1) := by decide +kernel
theorem dX11_lifter_174 : decode cX11_lifter 174 = .ok (.getfield 51, 3) := by decide +kernel
theorem dX11_lifter_177 : decode cX11_lifter 177 = .ok (.iconst 5, 1) := by decide +kernel
theorem dX11_lifter_178 : decode cX11_lifter 178 = .ok (.iload_n 1, 1) := by decide +kernel
theorem dX11_lifter_179 : decode cX11_lifter 179 = .ok (.invokevirtual 170, 3) := by decide +kernel
theorem dX11_lifter_182 : decode cX11_lifter 182 = .ok (.goto 4, 3) := by decide +kernel
theorem dX11_lifter_185 : decode cX11_lifter 185 = .ok (.iconst 0, 1) := by decide +kernel
theorem dX11_lifter_186 : decode cX11_lifter 186 = .ok (.ireturn, 1) := by decide +kernel
theorem dX11_lifter_187 : decode cX11_lifter 187 = .ok (.aload_n 0, 1) := by decide +kernel
theorem dX11_lifter_188 : decode cX11_lifter 188 = .ok (.getfield 51, 3) := by decide +kernel
theorem dX11_lifter_191 : decode cX11_lifter 191 = .ok (.bipush 11, 2) := by decide +kernel
theorem dX11_lifter_193 : decode cX11_lifter 193 = .ok (.iload_n 1, 1) := by decide +kernel
theorem dX11_lifter_194 : decode cX11_lifter 194 = .ok (.invokevirtual 170, 3) := by decide +kernel
theorem dX11_lifter_197 : decode cX11_lifter 197 = .ok (.ireturn, 1) := by decide +kernel
theorem dX11_lifter_198 : decode cX11_lifter 198 = .ok (.aload_n 0, 1) := by decide +kernel
theorem dX11_lifter_199 : decode cX11_lifter 199 = .ok (.getfield 51, 3) := by decide +kernel
theorem dX11_lifter_202 : decode cX11_lifter 202 = .ok (.iconst 0, 1) := by decide +kernel
theorem dX11_lifter_203 : decode cX11_lifter 203 = .ok (.iload_n 1, 1) := by decide +kernel
theorem dX11_lifter_204 : decode cX11_lifter 204 = .ok (.invokevirtual 174, 3) := by decide +kernel
theorem dX11_lifter_207 : decode cX11_lifter 207 = .ok (.ireturn, 1) := by decide +kernel
theorem dX11_lifter_208 : decode cX11_lifter 208 = .ok (.aload_n 0, 1) := by decide +kernel
theorem dX11_lifter_209 : decode cX11_lifter 209 = .ok (.getfield 51, 3) := by decide +kernel
theorem dX11_lifter_212 : decode cX11_lifter 212 = .ok (.iconst 1, 1) := by decide +kernel
theorem dX11_lifter_213 : decode cX11_lifter 213 = .ok (.iload_n 1, 1) := by decide +kernel
theorem dX11_lifter_214 : decode cX11_lifter 214 = .ok (.invokevirtual 174, 3) := by decide +kernel
theorem dX11_lifter_217 : decode cX11_lifter 217 = .ok (.ireturn, 1) := by decide +kernel
theorem dX11_lifter_218 : decode cX11_lifter 218 = .ok (.aload_n 0, 1) := by decide +kernel
theorem dX11_lifter_219 : decode cX11_lifter 219 = .ok (.getfield 51, 3) := by decide +kernel
theorem dX11_lifter_222 : decode cX11_lifter 222 = .ok (.iload_n 1, 1) := by decide +kernel
theorem dX11_lifter_223 : decode cX11_lifter 223 = .ok (.invokevirtual 177, 3) := by decide +kernel
theorem dX11_lifter_226 : decode cX11_lifter 226 = .ok (.ireturn, 1) := by decide +kernel
theorem dX11_lifter_227 : decode cX11_lifter 227 = .ok (.aload_n 0, 1) := by decide +kernel
theorem dX11_lifter_228 : decode cX11_lifter 228 = .ok (.getfield 51, 3) := by decide +kernel
theorem dX11_lifter_231 : decode cX11_lifter 231 = .ok (.iload_n 1, 1) := by decide +kernel
theorem dX11_lifter_232 : decode cX11_lifter 232 = .ok (.invokevirtual 180, 3) := by decide +kernel
theorem dX11_lifter_235 : decode cX11_lifter 235 = .ok (.ireturn, 1) := by decide +kernel
theorem dX11_lifter_236 : decode cX11_lifter 236 = .ok (.aload_n 0, 1) := by decide +kernel
theorem dX11_lifter_237 : decode cX11_lifter 237 = .ok (.getfield 51, 3) := by decide +kernel
theorem dX11_lifter_240 : decode cX11_lifter 240 = .ok (.bipush 35, 2) := by decide +kernel
theorem dX11_lifter_242 : decode cX11_lifter 242 = .ok (.iload_n 1, 1) := by decide +kernel
theorem dX11_lifter_243 : decode cX11_lifter 243 = .ok (.invokevirtual 170, 3) := by decide +kernel
theorem dX11_lifter_246 : decode cX11_lifter 246 = .ok (.ireturn, 1) := by decide +kernel
theorem dX11_lifter_247 : decode cX11_lifter 247 = .ok (.aload_n 0, 1) := by decide +kernel
theorem dX11_lifter_248 : decode cX11_lifter 248 = .ok (.getfield 51, 3) := by decide +kernel
theorem dX11_lifter_251 : decode cX11_lifter 251 = .ok (.iload_n 1, 1) := by decide +kernel
theorem dX11_lifter_252 : decode cX11_lifter 252 = .ok (.invokevirtual 183, 3) := by decide +kernel
theorem dX11_lifter_255 : decode cX11_lifter 255 = .ok (.ireturn, 1) := by decide +kernel
theorem dX11_lifter_256 : decode cX11_lifter 256 = .ok (.aload_n 0, 1) := by decide +kernel
theorem dX11_lifter_257 : decode cX11_lifter 257 = .ok (.iload_n 1, 1) := by decide +kernel
theorem dX11_lifter_258 : decode cX11_lifter 258 = .ok (.invokevirtual 186, 3) := by decide +kernel
theorem dX11_lifter_261 : decode cX11_lifter 261 = .ok (.ireturn, 1) := by decide +kernel
theorem dX11_lifter_262 : decode cX11_lifter 262 = .ok (.aload_n 0, 1) := by decide +kernel
theorem dX11_lifter_263 : decode cX11_lifter 263 = .ok (.getfield 51, 3) := by decide +kernel
theorem dX11_lifter_266 : decode cX11_lifter 266 = .ok (.bipush 23, 2) := by decide +kernel
theorem dX11_lifter_268 : decode cX11_lifter 268 = .ok (.iload_n 1, 1) := by decide +kernel
theorem dX11_lifter_269 : decode cX11_lifter 269 = .ok (.invokevirtual 170, 3) := by decide +kernel
theorem dX11_lifter_272 : decode cX11_lifter 272 = .ok (.ireturn, 1) := by decide +kernel
theorem dX11_lifter_273 : decode cX11_lifter 273 = .ok (.aload_n 0, 1) := by decide +kernel
theorem dX11_lifter_274 : decode cX11_lifter 274 = .ok (.getfield 51, 3) := by decide +kernel
theorem dX11_lifter_277 : decode cX11_lifter 277 = .ok (.bipush 17, 2) := by decide +kernel
theorem dX11_lifter_279 : decode cX11_lifter 279 = .ok (.iload_n 1, 1) := by decide +kernel
theorem dX11_lifter_280 : decode cX11_lifter 280 = .ok (.invokevirtual 170, 3) := by decide +kernel
theorem dX11_lifter_283 : decode cX11_lifter 283 = .ok (.ireturn, 1) := by decide +kernel
theorem dX11_lifter_284 : decode cX11_lifter 284 = .ok (.new 159, 3) := by decide +kernel
theorem dX11_lifter_287 : decode cX11_lifter 287 = .ok (.dup, 1) := by decide +kernel
theorem dX11_lifter_288 : decode cX11_lifter 288 = .ok (.ldc 189, 2) := by decide +kernel
theorem dX11_lifter_290 : decode cX11_lifter 290 = .ok (.invokespecial 163, 3) := by decide +kernel
theorem dX11_lifter_293 : decode cX11_lifter 293 = .ok (.athrow, 1) := by decide +kernel
theorem dX11_rule_0 : decode cX11_rule 0 = .ok (.aload_n 0, 1) := by decide +kernel
theorem dX11_rule_1 : decode cX11_rule 1 = .ok (.getfield 19, 3) := by decide +kernel
theorem dX11_rule_4 : decode cX11_rule 4 = .ok (.getfield 154, 3) := by decide +kernel
theorem dX11_rule_7 : decode cX11_rule 7 = .ok (.ifCond .eq 12, 3) := by decide +kernel
theorem dX11_rule_10 : decode cX11_rule 10 = .ok (.iload_n 1, 1) := by decide +kernel
theorem dX11_rule_11 : decode cX11_rule 11 = .ok (.ifCond .lt 8, 3) := by decide +kernel
theorem dX11_rule_14 : decode cX11_rule 14 = .ok (.iload_n 1, 1) := by decide +kernel
theorem dX11_rule_15 : decode cX11_rule 15 = .ok (.iconst 4, 1) := by decide +kernel
theorem dX11_rule_16 : decode cX11_rule 16 = .ok (.if_icmp .lt 5, 3) := by decide +kernel
theorem dX11_rule_19 : decode cX11_rule 19 = .ok (.iconst (-1), 1) := by decide +kernel
theorem dX11_rule_20 : decode cX11_rule 20 = .ok (.ireturn, 1) := by decide +kernel
theorem dX11_rule_21 : decode cX11_rule 21 = .ok (.aload_n 0, 1) := by decide +kernel
theorem dX11_rule_22 : decode cX11_rule 22 = .ok (.getfield 19, 3) := by decide +kernel
theorem dX11_rule_25 : decode cX11_rule 25 = .ok (.getfield 191, 3) := by decide +kernel
theorem dX11_rule_28 : decode cX11_rule 28 = .ok (.iload_n 1, 1) := by decide +kernel
theorem dX11_rule_29 : decode cX11_rule 29 = .ok (.iaload, 1) := by decide +kernel
theorem dX11_rule_30 : decode cX11_rule 30 = .ok (.ireturn, 1) := by decide +kernel
theorem dX11_law_0 : decode cX11_law 0 = .ok (.iload_n 2, 1) := by decide +kernel
theorem dX11_law_1 : decode cX11_law 1 = .ok (.iconst (-1), 1) := by decide +kernel
theorem dX11_law_2 : decode cX11_law 2 = .ok (.if_icmp .lt 14, 3) := by decide +kernel
theorem dX11_law_5 : decode cX11_law 5 = .ok (.iload_n 2, 1) := by decide +kernel
theorem dX11_law_6 : decode cX11_law 6 = .ok (.aload_n 0, 1) := by decide +kernel
theorem dX11_law_7 : decode cX11_law 7 = .ok (.getfield 44, 3) := by decide +kernel
theorem dX11_law_10 : decode cX11_law 10 = .ok (.getfield 126, 3) := by decide +kernel
theorem dX11_law_13 : decode cX11_law 13 = .ok (.if_icmp .lt 5, 3) := by decide +kernel
theorem dX11_law_16 : decode cX11_law 16 = .ok (.iconst 0, 1) := by decide +kernel
theorem dX11_law_17 : decode cX11_law 17 = .ok (.ireturn, 1) := by decide +kernel
theorem dX11_law_18 : decode cX11_law 18 = .ok (.iload_n 1, 1) := by decide +kernel
theorem dX11_law_19 : decode cX11_law 19 = .ok (.ifCond .ne 13, 3) := by decide +kernel
theorem dX11_law_22 : decode cX11_law 22 = .ok (.aload_n 0, 1) := by decide +kernel
theorem dX11_law_23 : decode cX11_law 23 = .ok (.getfield 44, 3) := by decide +kernel
theorem dX11_law_26 : decode cX11_law 26 = .ok (.iload_n 2, 1) := by decide +kernel
theorem dX11_law_27 : decode cX11_law 27 = .ok (.putfield 194, 3) := by decide +kernel
theorem dX11_law_30 : decode cX11_law 30 = .ok (.iconst 1, 1) := by decide +kernel
theorem dX11_law_31 : decode cX11_law 31 = .ok (.ireturn, 1) := by decide +kernel
theorem dX11_law_32 : decode cX11_law 32 = .ok (.iload_n 1, 1) := by decide +kernel
theorem dX11_law_33 : decode cX11_law 33 = .ok (.iconst 1, 1) := by decide +kernel
theorem dX11_law_34 : decode cX11_law 34 = .ok (.if_icmp .ne 13, 3) := by decide +kernel
theorem dX11_law_37 : decode cX11_law 37 = .ok (.aload_n 0, 1) := by decide +kernel
theorem dX11_law_38 : decode cX11_law 38 = .ok (.getfield 44, 3) := by decide +kernel
theorem dX11_law_41 : decode cX11_law 41 = .ok (.iload_n 2, 1) := by decide +kernel
theorem dX11_law_42 : decode cX11_law 42 = .ok (.putfield 197, 3) := by decide +kernel
theorem dX11_law_45 : decode cX11_law 45 = .ok (.iconst 1, 1) := by decide +kernel
theorem dX11_law_46 : decode cX11_law 46 = .ok (.ireturn, 1) := by decide +kernel
theorem dX11_law_47 : decode cX11_law 47 = .ok (.iconst 0, 1) := by decide +kernel
theorem dX11_law_48 : decode cX11_law 48 = .ok (.ireturn, 1) := by decide +kernel
theorem dX11_errs_0 : decode cX11_errs 0 = .ok (.iload_n 1, 1) := by decide +kernel
theorem dX11_errs_1 : decode cX11_errs 1 = .ok (.ifCond .lt 17, 3) := by decide +kernel
theorem dX11_errs_4 : decode cX11_errs 4 = .ok (.iload_n 1, 1) := by decide +kernel
theorem dX11_errs_5 : decode cX11_errs 5 = .ok (.bipush 99, 2) := by decide +kernel
theorem dX11_errs_7 : decode cX11_errs 7 = .ok (.if_icmp .gt 11, 3) := by decide +kernel
theorem dX11_errs_10 : decode cX11_errs 10 = .ok (.iload_n 1, 1) := by decide +kernel
theorem dX11_errs_11 : decode cX11_errs 11 = .ok (.aload_n 0, 1) := by decide +kernel
theorem dX11_errs_12 : decode cX11_errs 12 = .ok (.getfield 200, 3) := by decide +kernel
theorem dX11_errs_15 : decode cX11_errs 15 = .ok (.if_icmp .ne 5, 3) := by decide +kernel
theorem dX11_errs_18 : decode cX11_errs 18 = .ok (.iconst 0, 1) := by decide +kernel
theorem dX11_errs_19 : decode cX11_errs 19 = .ok (.ireturn, 1) := by decide +kernel
theorem dX11_errs_20 : decode cX11_errs 20 = .ok (.aload_n 0, 1) := by decide +kernel
theorem dX11_errs_21 : decode cX11_errs 21 = .ok (.iload_n 1, 1) := by decide +kernel
theorem dX11_errs_22 : decode cX11_errs 22 = .ok (.putfield 200, 3) := by decide +kernel
theorem dX11_errs_25 : decode cX11_errs 25 = .ok (.iconst 1, 1) := by decide +kernel
theorem dX11_errs_26 : decode cX11_errs 26 = .ok (.ireturn, 1) := by decide +kernel
theorem dX11_next_0 : decode cX11_next 0 = .ok (.aload_n 0, 1) := by decide +kernel
theorem dX11_next_1 : decode cX11_next 1 = .ok (.getfield 51, 3) := by decide +kernel
theorem dX11_next_4 : decode cX11_next 4 = .ok (.invokevirtual 203, 3) := by decide +kernel
theorem dX11_next_7 : decode cX11_next 7 = .ok (.ireturn, 1) := by decide +kernel
theorem dX11_odds_0 : decode cX11_odds 0 = .ok (.aload_n 0, 1) := by decide +kernel
theorem dX11_odds_1 : decode cX11_odds 1 = .ok (.iload_n 1, 1) := by decide +kernel
theorem dX11_odds_2 : decode cX11_odds 2 = .ok (.invokevirtual 155, 3) := by decide +kernel
theorem dX11_odds_5 : decode cX11_odds 5 = .ok (.ifCond .eq 14, 3) := by decide +kernel
theorem dX11_odds_8 : decode cX11_odds 8 = .ok (.iload_n 2, 1) := by decide +kernel
theorem dX11_odds_9 : decode cX11_odds 9 = .ok (.iconst 1, 1) := by decide +kernel
theorem dX11_odds_10 : decode cX11_odds 10 = .ok (.if_icmp .lt 9, 3) := by decide +kernel
theorem dX11_odds_13 : decode cX11_odds 13 = .ok (.iload_n 2, 1) := by decide +kernel
theorem dX11_odds_14 : decode cX11_odds 14 = .ok (.bipush 99, 2) := by decide +kernel
theorem dX11_odds_16 : decode cX11_odds 16 = .ok (.if_icmp .le 5, 3) := by decide +kernel
theorem dX11_odds_19 : decode cX11_odds 19 = .ok (.iconst (-1), 1) := by decide +kernel
theorem dX11_odds_20 : decode cX11_odds 20 = .ok (.ireturn, 1) := by decide +kernel
theorem dX11_odds_21 : decode cX11_odds 21 = .ok (.aload_n 0, 1) := by decide +kernel
theorem dX11_odds_22 : decode cX11_odds 22 = .ok (.getfield 97, 3) := by decide +kernel
theorem dX11_odds_25 : decode cX11_odds 25 = .ok (.aload_n 0, 1) := by decide +kernel
theorem dX11_odds_26 : decode cX11_odds 26 = .ok (.getfield 51, 3) := by decide +kernel
theorem dX11_odds_29 : decode cX11_odds 29 = .ok (.iload_n 1, 1) := by decide +kernel
theorem dX11_odds_30 : decode cX11_odds 30 = .ok (.invokevirtual 206, 3) := by decide +kernel
theorem dX11_odds_33 : decode cX11_odds 33 = .ok (.aload_n 0, 1) := by decide +kernel
theorem dX11_odds_34 : decode cX11_odds 34 = .ok (.getfield 44, 3) := by decide +kernel
theorem dX11_odds_37 : decode cX11_odds 37 = .ok (.aload_n 0, 1) := by decide +kernel
theorem dX11_odds_38 : decode cX11_odds 38 = .ok (.getfield 97, 3) := by decide +kernel
theorem dX11_odds_41 : decode cX11_odds 41 = .ok (.iload_n 2, 1) := by decide +kernel
theorem dX11_odds_42 : decode cX11_odds 42 = .ok (.invokevirtual 210, 3) := by decide +kernel
theorem dX11_odds_45 : decode cX11_odds 45 = .ok (.ireturn, 1) := by decide +kernel
theorem dX11_value_0 : decode cX11_value 0 = .ok (.aload_n 0, 1) := by decide +kernel
theorem dX11_value_1 : decode cX11_value 1 = .ok (.iload_n 1, 1) := by decide +kernel
theorem dX11_value_2 : decode cX11_value 2 = .ok (.invokevirtual 155, 3) := by decide +kernel
theorem dX11_value_5 : decode cX11_value 5 = .ok (.ifCond .eq 18, 3) := by decide +kernel
theorem dX11_value_8 : decode cX11_value 8 = .ok (.aload_n 0, 1) := by decide +kernel
theorem dX11_value_9 : decode cX11_value 9 = .ok (.getfield 44, 3) := by decide +kernel
theorem dX11_value_12 : decode cX11_value 12 = .ok (.aload_n 0, 1) := by decide +kernel
theorem dX11_value_13 : decode cX11_value 13 = .ok (.getfield 51, 3) := by decide +kernel
theorem dX11_value_16 : decode cX11_value 16 = .ok (.iload_n 1, 1) := by decide +kernel
theorem dX11_value_17 : decode cX11_value 17 = .ok (.invokevirtual 214, 3) := by decide +kernel
theorem dX11_value_20 : decode cX11_value 20 = .ok (.goto 5, 3) := by decide +kernel
theorem dX11_value_23 : decode cX11_value 23 = .ok (.ldc 218, 2) := by decide +kernel
theorem dX11_value_25 : decode cX11_value 25 = .ok (.ireturn, 1) := by decide +kernel
theorem dX11_count_0 : decode cX11_count 0 = .ok (.iload_n 1, 1) := by decide +kernel
theorem dX11_count_1 : decode cX11_count 1 = .ok (.tableswitch 153 0 11 #[63, 71, 79, 87, 95, 103, 111, 119, 127, 132, 140, 148], 63) := by decide +kernel
theorem dX11_count_64 : decode cX11_count 64 = .ok (.aload_n 0, 1) := by decide +kernel
theorem dX11_count_65 : decode cX11_count 65 = .ok (.getfield 19, 3) := by decide +kernel
theorem dX11_count_68 : decode cX11_count 68 = .ok (.getfield 154, 3) := by decide +kernel
theorem dX11_count_71 : decode cX11_count 71 = .ok (.ireturn, 1) := by decide +kernel
theorem dX11_count_72 : decode cX11_count 72 = .ok (.aload_n 0, 1) := by decide +kernel
theorem dX11_count_73 : decode cX11_count 73 = .ok (.getfield 44, 3) := by decide +kernel
theorem dX11_count_76 : decode cX11_count 76 = .ok (.getfield 126, 3) := by decide +kernel
theorem dX11_count_79 : decode cX11_count 79 = .ok (.ireturn, 1) := by decide +kernel
theorem dX11_count_80 : decode cX11_count 80 = .ok (.aload_n 0, 1) := by decide +kernel
theorem dX11_count_81 : decode cX11_count 81 = .ok (.getfield 10, 3) := by decide +kernel
theorem dX11_count_84 : decode cX11_count 84 = .ok (.getfield 110, 3) := by decide +kernel
theorem dX11_count_87 : decode cX11_count 87 = .ok (.ireturn, 1) := by decide +kernel
theorem dX11_count_88 : decode cX11_count 88 = .ok (.aload_n 0, 1) := by decide +kernel
theorem dX11_count_89 : decode cX11_count 89 = .ok (.getfield 51, 3) := by decide +kernel
theorem dX11_count_92 : decode cX11_count 92 = .ok (.invokevirtual 219, 3) := by decide +kernel
theorem dX11_count_95 : decode cX11_count 95 = .ok (.ireturn, 1) := by decide +kernel
theorem dX11_count_96 : decode cX11_count 96 = .ok (.aload_n 0, 1) := by decide +kernel
theorem dX11_count_97 : decode cX11_count 97 = .ok (.getfield 51, 3) := by decide +kernel
theorem dX11_count_100 : decode cX11_count 100 = .ok (.invokevirtual 222, 3) := by decide +kernel
theorem dX11_count_103 : decode cX11_count 103 = .ok (.ireturn, 1) := by decide +kernel
theorem dX11_count_104 : decode cX11_count 104 = .ok (.aload_n 0, 1) := by decide +kernel
theorem dX11_count_105 : decode cX11_count 105 = .ok (.getfield 51, 3) := by decide +kernel
theorem dX11_count_108 : decode cX11_count 108 = .ok (.invokevirtual 225, 3) := by decide +kernel
theorem dX11_count_111 : decode cX11_count 111 = .ok (.ireturn, 1) := by decide +kernel
theorem dX11_count_112 : decode cX11_count 112 = .ok (.aload_n 0, 1) := by decide +kernel
theorem dX11_count_113 : decode cX11_count 113 = .ok (.getfield 44, 3) := by decide +kernel
theorem dX11_count_116 : decode cX11_count 116 = .ok (.getfield 194, 3) := by decide +kernel
theorem dX11_count_119 : decode cX11_count 119 = .ok (.ireturn, 1) := by decide +kernel
theorem dX11_count_120 : decode cX11_count 120 = .ok (.aload_n 0, 1) := by decide +kernel
theorem dX11_count_121 : decode cX11_count 121 = .ok (.getfield 44, 3) := by decide +kernel
theorem dX11_count_124 : decode cX11_count 124 = .ok (.getfield 197, 3) := by decide +kernel
theorem dX11_count_127 : decode cX11_count 127 = .ok (.ireturn, 1) := by decide +kernel
theorem dX11_count_128 : decode cX11_count 128 = .ok (.aload_n 0, 1) := by decide +kernel
theorem dX11_count_129 : decode cX11_count 129 = .ok (.getfield 200, 3) := by decide +kernel
theorem dX11_count_132 : decode cX11_count 132 = .ok (.ireturn, 1) := by decide +kernel
theorem dX11_count_133 : decode cX11_count 133 = .ok (.aload_n 0, 1) := by decide +kernel
theorem dX11_count_134 : decode cX11_count 134 = .ok (.getfield 51, 3) := by decide +kernel
theorem dX11_count_137 : decode cX11_count 137 = .ok (.invokevirtual 228, 3) := by decide +kernel
theorem dX11_count_140 : decode cX11_count 140 = .ok (.ireturn, 1) := by decide +kernel
theorem dX11_count_141 : decode cX11_count 141 = .ok (.aload_n 0, 1) := by decide +kernel
theorem dX11_count_142 : decode cX11_count 142 = .ok (.getfield 51, 3) := by decide +kernel
theorem dX11_count_145 : decode cX11_count 145 = .ok (.invokevirtual 231, 3) := by decide +kernel
theorem dX11_count_148 : decode cX11_count 148 = .ok (.ireturn, 1) := by decide +kernel
theorem dX11_count_149 : decode cX11_count 149 = .ok (.aload_n 0, 1) := by decide +kernel
theorem dX11_count_150 : decode cX11_count 150 = .ok (.getfield 147, 3) := by decide +kernel
theorem dX11_count_153 : decode cX11_count 153 = .ok (.ireturn, 1) := by decide +kernel
theorem dX11_count_154 : decode cX11_count 154 = .ok (.ldc 218, 2) := by decide +kernel
theorem dX11_count_156 : decode cX11_count 156 = .ok (.ireturn, 1) := by decide +kernel
theorem dX11_lift_0 : decode cX11_lift 0 = .ok (.aload_n 0, 1) := by decide +kernel
theorem dX11_lift_1 : decode cX11_lift 1 = .ok (.getfield 51, 3) := by decide +kernel
theorem dX11_lift_4 : decode cX11_lift 4 = .ok (.invokevirtual 203, 3) := by decide +kernel
theorem dX11_lift_7 : decode cX11_lift 7 = .ok (.istore_n 2, 1) := by decide +kernel
theorem dX11_lift_8 : decode cX11_lift 8 = .ok (.iload_n 2, 1) := by decide +kernel
theorem dX11_lift_9 : decode cX11_lift 9 = .ok (.iconst (-1), 1) := by decide +kernel
theorem dX11_lift_10 : decode cX11_lift 10 = .ok (.if_icmp .eq 13, 3) := by decide +kernel
theorem dX11_lift_13 : decode cX11_lift 13 = .ok (.iload_n 1, 1) := by decide +kernel
theorem dX11_lift_14 : decode cX11_lift 14 = .ok (.ifCond .lt 9, 3) := by decide +kernel
theorem dX11_lift_17 : decode cX11_lift 17 = .ok (.iload_n 1, 1) := by decide +kernel
theorem dX11_lift_18 : decode cX11_lift 18 = .ok (.bipush 7, 2) := by decide +kernel
theorem dX11_lift_20 : decode cX11_lift 20 = .ok (.if_icmp .le 5, 3) := by decide +kernel
theorem dX11_lift_23 : decode cX11_lift 23 = .ok (.iconst (-1), 1) := by decide +kernel
theorem dX11_lift_24 : decode cX11_lift 24 = .ok (.ireturn, 1) := by decide +kernel
theorem dX11_lift_25 : decode cX11_lift 25 = .ok (.aload_n 0, 1) := by decide +kernel
theorem dX11_lift_26 : decode cX11_lift 26 = .ok (.iload_n 2, 1) := by decide +kernel
theorem dX11_lift_27 : decode cX11_lift 27 = .ok (.iload_n 1, 1) := by decide +kernel
theorem dX11_lift_28 : decode cX11_lift 28 = .ok (.invokevirtual 234, 3) := by decide +kernel
theorem dX11_lift_31 : decode cX11_lift 31 = .ok (.iload_n 1, 1) := by decide +kernel
theorem dX11_lift_32 : decode cX11_lift 32 = .ok (.invokestatic 238, 3) := by decide +kernel
theorem dX11_lift_35 : decode cX11_lift 35 = .ok (.ifCond .eq 7, 3) := by decide +kernel
theorem dX11_lift_38 : decode cX11_lift 38 = .ok (.iconst 1, 1) := by decide +kernel
theorem dX11_lift_39 : decode cX11_lift 39 = .ok (.goto 4, 3) := by decide +kernel
theorem dX11_lift_42 : decode cX11_lift 42 = .ok (.iconst 0, 1) := by decide +kernel
theorem dX11_lift_43 : decode cX11_lift 43 = .ok (.ireturn, 1) := by decide +kernel
theorem dX11_change_0 : decode cX11_change 0 = .ok (.aload_n 0, 1) := by decide +kernel
theorem dX11_change_1 : decode cX11_change 1 = .ok (.iload_n 1, 1) := by decide +kernel
theorem dX11_change_2 : decode cX11_change 2 = .ok (.invokevirtual 241, 3) := by decide +kernel
theorem dX11_change_5 : decode cX11_change 5 = .ok (.ifCond .eq 47, 3) := by decide +kernel
theorem dX11_change_8 : decode cX11_change 8 = .ok (.iload_n 2, 1) := by decide +kernel
theorem dX11_change_9 : decode cX11_change 9 = .ok (.bipush 99, 2) := by decide +kernel
theorem dX11_change_11 : decode cX11_change 11 = .ok (.if_icmp .gt 41, 3) := by decide +kernel
theorem dX11_change_14 : decode cX11_change 14 = .ok (.iload_n 2, 1) := by decide +kernel
theorem dX11_change_15 : decode cX11_change 15 = .ok (.aload_n 0, 1) := by decide +kernel
theorem dX11_change_16 : decode cX11_change 16 = .ok (.getfield 51, 3) := by decide +kernel
theorem dX11_change_19 : decode cX11_change 19 = .ok (.iload_n 1, 1) := by decide +kernel
theorem dX11_change_20 : decode cX11_change 20 = .ok (.invokevirtual 242, 3) := by decide +kernel
theorem dX11_change_23 : decode cX11_change 23 = .ok (.if_icmp .lt 29, 3) := by decide +kernel
theorem dX11_change_26 : decode cX11_change 26 = .ok (.aload_n 0, 1) := by decide +kernel
theorem dX11_change_27 : decode cX11_change 27 = .ok (.getfield 51, 3) := by decide +kernel
theorem dX11_change_30 : decode cX11_change 30 = .ok (.bipush 23, 2) := by decide +kernel
theorem dX11_change_32 : decode cX11_change 32 = .ok (.iload_n 1, 1) := by decide +kernel
theorem dX11_change_33 : decode cX11_change 33 = .ok (.invokevirtual 170, 3) := by decide +kernel
theorem dX11_change_36 : decode cX11_change 36 = .ok (.ifCond .le 16, 3) := by decide +kernel
theorem dX11_change_39 : decode cX11_change 39 = .ok (.iload_n 2, 1) := by decide +kernel
theorem dX11_change_40 : decode cX11_change 40 = .ok (.aload_n 0, 1) := by decide +kernel
theorem dX11_change_41 : decode cX11_change 41 = .ok (.getfield 51, 3) := by decide +kernel
theorem dX11_change_44 : decode cX11_change 44 = .ok (.iconst 5, 1) := by decide +kernel
theorem dX11_change_45 : decode cX11_change 45 = .ok (.iload_n 1, 1) := by decide +kernel
theorem dX11_change_46 : decode cX11_change 46 = .ok (.invokevirtual 170, 3) := by decide +kernel
theorem dX11_change_49 : decode cX11_change 49 = .ok (.if_icmp .ne 5, 3) := by decide +kernel
theorem dX11_change_52 : decode cX11_change 52 = .ok (.iconst (-1), 1) := by decide +kernel
theorem dX11_change_53 : decode cX11_change 53 = .ok (.ireturn, 1) := by decide +kernel
theorem dX11_change_54 : decode cX11_change 54 = .ok (.aload_n 0, 1) := by decide +kernel
theorem dX11_change_55 : decode cX11_change 55 = .ok (.invokevirtual 245, 3) := by decide +kernel
theorem dX11_change_58 : decode cX11_change 58 = .ok (.aload_n 0, 1) := by decide +kernel
theorem dX11_change_59 : decode cX11_change 59 = .ok (.getfield 51, 3) := by decide +kernel
theorem dX11_change_62 : decode cX11_change 62 = .ok (.iload_n 1, 1) := by decide +kernel
theorem dX11_change_63 : decode cX11_change 63 = .ok (.iload_n 2, 1) := by decide +kernel
theorem dX11_change_64 : decode cX11_change 64 = .ok (.invokevirtual 248, 3) := by decide +kernel
theorem dX11_change_67 : decode cX11_change 67 = .ok (.aload_n 0, 1) := by decide +kernel
theorem dX11_change_68 : decode cX11_change 68 = .ok (.getfield 51, 3) := by decide +kernel
theorem dX11_change_71 : decode cX11_change 71 = .ok (.iload_n 1, 1) := by decide +kernel
theorem dX11_change_72 : decode cX11_change 72 = .ok (.invokevirtual 251, 3) := by decide +kernel
theorem dX11_change_75 : decode cX11_change 75 = .ok (.ireturn, 1) := by decide +kernel
theorem dX11_home_0 : decode cX11_home 0 = .ok (.aload_n 0, 1) := by decide +kernel
theorem dX11_home_1 : decode cX11_home 1 = .ok (.iload_n 1, 1) := by decide +kernel
theorem dX11_home_2 : decode cX11_home 2 = .ok (.invokevirtual 241, 3) := by decide +kernel
theorem dX11_home_5 : decode cX11_home 5 = .ok (.ifCond .ne 5, 3) := by decide +kernel
theorem dX11_home_8 : decode cX11_home 8 = .ok (.iconst (-1), 1) := by decide +kernel
theorem dX11_home_9 : decode cX11_home 9 = .ok (.ireturn, 1) := by decide +kernel
theorem dX11_home_10 : decode cX11_home 10 = .ok (.aload_n 0, 1) := by decide +kernel
theorem dX11_home_11 : decode cX11_home 11 = .ok (.invokevirtual 245, 3) := by decide +kernel
theorem dX11_home_14 : decode cX11_home 14 = .ok (.aload_n 0, 1) := by decide +kernel
theorem dX11_home_15 : decode cX11_home 15 = .ok (.getfield 51, 3) := by decide +kernel
theorem dX11_home_18 : decode cX11_home 18 = .ok (.iload_n 1, 1) := by decide +kernel
theorem dX11_home_19 : decode cX11_home 19 = .ok (.invokevirtual 254, 3) := by decide +kernel
theorem dX11_home_22 : decode cX11_home 22 = .ok (.aload_n 0, 1) := by decide +kernel
theorem dX11_home_23 : decode cX11_home 23 = .ok (.getfield 51, 3) := by decide +kernel
theorem dX11_home_26 : decode cX11_home 26 = .ok (.invokevirtual 228, 3) := by decide +kernel
theorem dX11_home_29 : decode cX11_home 29 = .ok (.ireturn, 1) := by decide +kernel
theorem dX11_warm_0 : decode cX11_warm 0 = .ok (.aload_n 0, 1) := by decide +kernel
theorem dX11_warm_1 : decode cX11_warm 1 = .ok (.iload_n 1, 1) := by decide +kernel
theorem dX11_warm_2 : decode cX11_warm 2 = .ok (.invokevirtual 241, 3) := by decide +kernel
theorem dX11_warm_5 : decode cX11_warm 5 = .ok (.ifCond .ne 5, 3) := by decide +kernel
theorem dX11_warm_8 : decode cX11_warm 8 = .ok (.iconst (-1), 1) := by decide +kernel
theorem dX11_warm_9 : decode cX11_warm 9 = .ok (.ireturn, 1) := by decide +kernel
theorem dX11_warm_10 : decode cX11_warm 10 = .ok (.aload_n 0, 1) := by decide +kernel
theorem dX11_warm_11 : decode cX11_warm 11 = .ok (.invokevirtual 245, 3) := by decide +kernel
theorem dX11_warm_14 : decode cX11_warm 14 = .ok (.aload_n 0, 1) := by decide +kernel
theorem dX11_warm_15 : decode cX11_warm 15 = .ok (.getfield 51, 3) := by decide +kernel
theorem dX11_warm_18 : decode cX11_warm 18 = .ok (.iload_n 1, 1) := by decide +kernel
theorem dX11_warm_19 : decode cX11_warm 19 = .ok (.invokevirtual 257, 3) := by decide +kernel
theorem dX11_warm_22 : decode cX11_warm 22 = .ok (.aload_n 0, 1) := by decide +kernel
theorem dX11_warm_23 : decode cX11_warm 23 = .ok (.iload_n 1, 1) := by decide +kernel
theorem dX11_warm_24 : decode cX11_warm 24 = .ok (.invokevirtual 186, 3) := by decide +kernel
theorem dX11_warm_27 : decode cX11_warm 27 = .ok (.ireturn, 1) := by decide +kernel
theorem dX11_meet_0 : decode cX11_meet 0 = .ok (.iload_n 1, 1) := by decide +kernel
theorem dX11_meet_1 : decode cX11_meet 1 = .ok (.iconst 1, 1) := by decide +kernel
theorem dX11_meet_2 : decode cX11_meet 2 = .ok (.if_icmp .lt 20, 3) := by decide +kernel
theorem dX11_meet_5 : decode cX11_meet 5 = .ok (.iload_n 1, 1) := by decide +kernel
theorem dX11_meet_6 : decode cX11_meet 6 = .ok (.bipush 36, 2) := by decide +kernel
theorem dX11_meet_8 : decode cX11_meet 8 = .ok (.if_icmp .gt 14, 3) := by decide +kernel
theorem dX11_meet_11 : decode cX11_meet 11 = .ok (.aload_n 0, 1) := by decide +kernel
theorem dX11_meet_12 : decode cX11_meet 12 = .ok (.getfield 51, 3) := by decide +kernel
theorem dX11_meet_15 : decode cX11_meet 15 = .ok (.invokevirtual 203, 3) := by decide +kernel
theorem dX11_meet_18 : decode cX11_meet 18 = .ok (.iconst (-1), 1) := by decide +kernel
theorem dX11_meet_19 : decode cX11_meet 19 = .ok (.if_icmp .ne 5, 3) := by decide +kernel
theorem dX11_meet_22 : decode cX11_meet 22 = .ok (.iconst (-1), 1) := by decide +kernel
theorem dX11_meet_23 : decode cX11_meet 23 = .ok (.ireturn, 1) := by decide +kernel
theorem dX11_meet_24 : decode cX11_meet 24 = .ok (.lload_n 2, 1) := by decide +kernel
theorem dX11_meet_25 : decode cX11_meet 25 = .ok (.lstore 4, 2) := by decide +kernel
theorem dX11_meet_27 : decode cX11_meet 27 = .ok (.iconst 0, 1) := by decide +kernel
theorem dX11_meet_28 : decode cX11_meet 28 = .ok (.istore 6, 2) := by decide +kernel
theorem dX11_meet_30 : decode cX11_meet 30 = .ok (.iconst 0, 1) := by decide +kernel
theorem dX11_meet_31 : decode cX11_meet 31 = .ok (.istore 7, 2) := by decide +kernel
theorem dX11_meet_33 : decode cX11_meet 33 = .ok (.iload 7, 2) := by decide +kernel
theorem dX11_meet_35 : decode cX11_meet 35 = .ok (.iload_n 1, 1) := by decide +kernel
theorem dX11_meet_36 : decode cX11_meet 36 = .ok (.if_icmp .ge 138, 3) := by decide +kernel
theorem dX11_meet_39 : decode cX11_meet 39 = .ok (.aload_n 0, 1) := by decide +kernel
theorem dX11_meet_40 : decode cX11_meet 40 = .ok (.getfield 51, 3) := by decide +kernel
theorem dX11_meet_43 : decode cX11_meet 43 = .ok (.invokevirtual 203, 3) := by decide +kernel
theorem dX11_meet_46 : decode cX11_meet 46 = .ok (.istore 8, 2) := by decide +kernel
theorem dX11_meet_48 : decode cX11_meet 48 = .ok (.iload 8, 2) := by decide +kernel
theorem dX11_meet_50 : decode cX11_meet 50 = .ok (.iconst (-1), 1) := by decide +kernel
theorem dX11_meet_51 : decode cX11_meet 51 = .ok (.if_icmp .ne 6, 3) := by decide +kernel
theorem dX11_meet_54 : decode cX11_meet 54 = .ok (.goto 120, 3) := by decide +kernel
theorem dX11_meet_57 : decode cX11_meet 57 = .ok (.lload 4, 2) := by decide +kernel
theorem dX11_meet_59 : decode cX11_meet 59 = .ok (.invokestatic 260, 3) := by decide +kernel
theorem dX11_meet_62 : decode cX11_meet 62 = .ok (.lstore 4, 2) := by decide +kernel
theorem dX11_meet_64 : decode cX11_meet 64 = .ok (.aload_n 0, 1) := by decide +kernel
theorem dX11_meet_65 : decode cX11_meet 65 = .ok (.getfield 97, 3) := by decide +kernel
theorem dX11_meet_68 : decode cX11_meet 68 = .ok (.aload_n 0, 1) := by decide +kernel
theorem dX11_meet_69 : decode cX11_meet 69 = .ok (.getfield 51, 3) := by decide +kernel
theorem dX11_meet_72 : decode cX11_meet 72 = .ok (.iload 8, 2) := by decide +kernel
theorem dX11_meet_74 : decode cX11_meet 74 = .ok (.invokevirtual 206, 3) := by decide +kernel
theorem dX11_meet_77 : decode cX11_meet 77 = .ok (.lload 4, 2) := by decide +kernel
theorem dX11_meet_79 : decode cX11_meet 79 = .ok (.aload_n 0, 1) := by decide +kernel
theorem dX11_meet_80 : decode cX11_meet 80 = .ok (.getfield 44, 3) := by decide +kernel
theorem dX11_meet_83 : decode cX11_meet 83 = .ok (.aload_n 0, 1) := by decide +kernel
theorem dX11_meet_84 : decode cX11_meet 84 = .ok (.getfield 97, 3) := by decide +kernel
theorem dX11_meet_87 : decode cX11_meet 87 = .ok (.aload_n 0, 1) := by decide +kernel
theorem dX11_meet_88 : decode cX11_meet 88 = .ok (.getfield 51, 3) := by decide +kernel
theorem dX11_meet_91 : decode cX11_meet 91 = .ok (.iconst 5, 1) := by decide +kernel
theorem dX11_meet_92 : decode cX11_meet 92 = .ok (.iload 8, 2) := by decide +kernel
theorem dX11_meet_94 : decode cX11_meet 94 = .ok (.invokevirtual 170, 3) := by decide +kernel
theorem dX11_meet_97 : decode cX11_meet 97 = .ok (.invokevirtual 210, 3) := by decide +kernel
theorem dX11_meet_100 : decode cX11_meet 100 = .ok (.invokestatic 264, 3) := by decide +kernel
theorem dX11_meet_103 : decode cX11_meet 103 = .ok (.istore 9, 2) := by decide +kernel
theorem dX11_meet_105 : decode cX11_meet 105 = .ok (.iconst 0, 1) := by decide +kernel
theorem dX11_meet_106 : decode cX11_meet 106 = .ok (.istore 10, 2) := by decide +kernel
theorem dX11_meet_108 : decode cX11_meet 108 = .ok (.iconst 0, 1) := by decide +kernel
theorem dX11_meet_109 : decode cX11_meet 109 = .ok (.istore 11, 2) := by decide +kernel
theorem dX11_meet_111 : decode cX11_meet 111 = .ok (.iload 11, 2) := by decide +kernel
theorem dX11_meet_113 : decode cX11_meet 113 = .ok (.iconst 3, 1) := by decide +kernel
theorem dX11_meet_114 : decode cX11_meet 114 = .ok (.if_icmp .ge 43, 3) := by decide +kernel
theorem dX11_meet_117 : decode cX11_meet 117 = .ok (.lload 4, 2) := by decide +kernel
theorem dX11_meet_119 : decode cX11_meet 119 = .ok (.invokestatic 260, 3) := by decide +kernel
theorem dX11_meet_122 : decode cX11_meet 122 = .ok (.lstore 4, 2) := by decide +kernel
theorem dX11_meet_124 : decode cX11_meet 124 = .ok (.iload 10, 2) := by decide +kernel
theorem dX11_meet_126 : decode cX11_meet 126 = .ok (.iload 9, 2) := by decide +kernel
theorem dX11_meet_128 : decode cX11_meet 128 = .ok (.lload 4, 2) := by decide +kernel
theorem dX11_meet_130 : decode cX11_meet 130 = .ok (.aload_n 0, 1) := by decide +kernel
theorem dX11_meet_131 : decode cX11_meet 131 = .ok (.getfield 200, 3) := by decide +kernel
theorem dX11_meet_134 : decode cX11_meet 134 = .ok (.invokestatic 264, 3) := by decide +kernel
theorem dX11_meet_137 : decode cX11_meet 137 = .ok (.if_icmp .eq 10, 3) := by decide +kernel
theorem dX11_meet_140 : decode cX11_meet 140 = .ok (.iconst 1, 1) := by decide +kernel
theorem dX11_meet_141 : decode cX11_meet 141 = .ok (.iload 11, 2) := by decide +kernel
theorem dX11_meet_143 : decode cX11_meet 143 = .ok (.ishl, 1) := by decide +kernel
theorem dX11_meet_144 : decode cX11_meet 144 = .ok (.goto 4, 3) := by decide +kernel
theorem dX11_meet_147 : decode cX11_meet 147 = .ok (.iconst 0, 1) := by decide +kernel
theorem dX11_meet_148 : decode cX11_meet 148 = .ok (.ior, 1) := by decide +kernel
theorem dX11_meet_149 : decode cX11_meet 149 = .ok (.istore 10, 2) := by decide +kernel
theorem dX11_meet_151 : decode cX11_meet 151 = .ok (.iinc 11 1, 3) := by decide +kernel
theorem dX11_meet_154 : decode cX11_meet 154 = .ok (.goto (-43), 3) := by decide +kernel
theorem dX11_meet_157 : decode cX11_meet 157 = .ok (.aload_n 0, 1) := by decide +kernel
theorem dX11_meet_158 : decode cX11_meet 158 = .ok (.iload 8, 2) := by decide +kernel
theorem dX11_meet_160 : decode cX11_meet 160 = .ok (.iload 10, 2) := by decide +kernel
theorem dX11_meet_162 : decode cX11_meet 162 = .ok (.invokevirtual 234, 3) := by decide +kernel
theorem dX11_meet_165 : decode cX11_meet 165 = .ok (.iinc 6 1, 3) := by decide +kernel
theorem dX11_meet_168 : decode cX11_meet 168 = .ok (.iinc 7 1, 3) := by decide +kernel
theorem dX11_meet_171 : decode cX11_meet 171 = .ok (.goto (-138), 3) := by decide +kernel
theorem dX11_meet_174 : decode cX11_meet 174 = .ok (.iload 6, 2) := by decide +kernel
theorem dX11_meet_176 : decode cX11_meet 176 = .ok (.ireturn, 1) := by decide +kernel
theorem dX11_undo_0 : decode cX11_undo 0 = .ok (.aload_n 0, 1) := by decide +kernel
theorem dX11_undo_1 : decode cX11_undo 1 = .ok (.getfield 147, 3) := by decide +kernel
theorem dX11_undo_4 : decode cX11_undo 4 = .ok (.ifCond .ne 5, 3) := by decide +kernel
theorem dX11_undo_7 : decode cX11_undo 7 = .ok (.iconst (-1), 1) := by decide +kernel
theorem dX11_undo_8 : decode cX11_undo 8 = .ok (.ireturn, 1) := by decide +kernel
theorem dX11_undo_9 : decode cX11_undo 9 = .ok (.aload_n 0, 1) := by decide +kernel
theorem dX11_undo_10 : decode cX11_undo 10 = .ok (.aload_n 0, 1) := by decide +kernel
theorem dX11_undo_11 : decode cX11_undo 11 = .ok (.getfield 268, 3) := by decide +kernel
theorem dX11_undo_14 : decode cX11_undo 14 = .ok (.bipush 40, 2) := by decide +kernel
theorem dX11_undo_16 : decode cX11_undo 16 = .ok (.iadd, 1) := by decide +kernel
theorem dX11_undo_17 : decode cX11_undo 17 = .ok (.iconst 1, 1) := by decide +kernel
theorem dX11_undo_18 : decode cX11_undo 18 = .ok (.isub, 1) := by decide +kernel
theorem dX11_undo_19 : decode cX11_undo 19 = .ok (.bipush 40, 2) := by decide +kernel
theorem dX11_undo_21 : decode cX11_undo 21 = .ok (.irem, 1) := by decide +kernel
theorem dX11_undo_22 : decode cX11_undo 22 = .ok (.putfield 268, 3) := by decide +kernel
theorem dX11_undo_25 : decode cX11_undo 25 = .ok (.aload_n 0, 1) := by decide +kernel
theorem dX11_undo_26 : decode cX11_undo 26 = .ok (.getfield 103, 3) := by decide +kernel
theorem dX11_undo_29 : decode cX11_undo 29 = .ok (.aload_n 0, 1) := by decide +kernel
theorem dX11_undo_30 : decode cX11_undo 30 = .ok (.getfield 268, 3) := by decide +kernel
theorem dX11_undo_33 : decode cX11_undo 33 = .ok (.aaload, 1) := by decide +kernel
theorem dX11_undo_34 : decode cX11_undo 34 = .ok (.iconst 0, 1) := by decide +kernel
theorem dX11_undo_35 : decode cX11_undo 35 = .ok (.aload_n 0, 1) := by decide +kernel
theorem dX11_undo_36 : decode cX11_undo 36 = .ok (.getfield 51, 3) := by decide +kernel
theorem dX11_undo_39 : decode cX11_undo 39 = .ok (.getfield 271, 3) := by decide +kernel
theorem dX11_undo_42 : decode cX11_undo 42 = .ok (.iconst 0, 1) := by decide +kernel
theorem dX11_undo_43 : decode cX11_undo 43 = .ok (.bipush 71, 2) := by decide +kernel
theorem dX11_undo_45 : decode cX11_undo 45 = .ok (.invokestatic 274, 3) := by decide +kernel
theorem dX11_undo_48 : decode cX11_undo 48 = .ok (.aload_n 0, 1) := by decide +kernel
theorem dX11_undo_49 : decode cX11_undo 49 = .ok (.dup, 1) := by decide +kernel
theorem dX11_undo_50 : decode cX11_undo 50 = .ok (.getfield 147, 3) := by decide +kernel
theorem dX11_undo_53 : decode cX11_undo 53 = .ok (.iconst 1, 1) := by decide +kernel
theorem dX11_undo_54 : decode cX11_undo 54 = .ok (.isub, 1) := by decide +kernel
theorem dX11_undo_55 : decode cX11_undo 55 = .ok (.putfield 147, 3) := by decide +kernel
theorem dX11_undo_58 : decode cX11_undo 58 = .ok (.aload_n 0, 1) := by decide +kernel
theorem dX11_undo_59 : decode cX11_undo 59 = .ok (.getfield 61, 3) := by decide +kernel
theorem dX11_undo_62 : decode cX11_undo 62 = .ok (.aload_n 0, 1) := by decide +kernel
theorem dX11_undo_63 : decode cX11_undo 63 = .ok (.getfield 51, 3) := by decide +kernel
theorem dX11_undo_66 : decode cX11_undo 66 = .ok (.invokevirtual 231, 3) := by decide +kernel
theorem dX11_undo_69 : decode cX11_undo 69 = .ok (.putfield 146, 3) := by decide +kernel
theorem dX11_undo_72 : decode cX11_undo 72 = .ok (.aload_n 0, 1) := by decide +kernel
theorem dX11_undo_73 : decode cX11_undo 73 = .ok (.getfield 147, 3) := by decide +kernel
theorem dX11_undo_76 : decode cX11_undo 76 = .ok (.ireturn, 1) := by decide +kernel
theorem dX11_image_0 : decode cX11_image 0 = .ok (.aload_n 0, 1) := by decide +kernel
theorem dX11_image_1 : decode cX11_image 1 = .ok (.getfield 19, 3) := by decide +kernel
theorem dX11_image_4 : decode cX11_image 4 = .ok (.getfield 154, 3) := by decide +kernel
theorem dX11_image_7 : decode cX11_image 7 = .ok (.ifCond .ne 5, 3) := by decide +kernel
theorem dX11_image_10 : decode cX11_image 10 = .ok (.iconst (-1), 1) := by decide +kernel
theorem dX11_image_11 : decode cX11_image 11 = .ok (.ireturn, 1) := by decide +kernel
theorem dX11_image_12 : decode cX11_image 12 = .ok (.aload_n 0, 1) := by decide +kernel
theorem dX11_image_13 : decode cX11_image 13 = .ok (.getfield 65, 3) := by decide +kernel
theorem dX11_image_16 : decode cX11_image 16 = .ok (.aload_n 0, 1) := by decide +kernel
theorem dX11_image_17 : decode cX11_image 17 = .ok (.getfield 51, 3) := by decide +kernel
theorem dX11_image_20 : decode cX11_image 20 = .ok (.invokevirtual 280, 3) := by decide +kernel
theorem dX11_image_23 : decode cX11_image 23 = .ok (.aload_n 0, 1) := by decide +kernel
theorem dX11_image_24 : decode cX11_image 24 = .ok (.getfield 68, 3) := by decide +kernel
theorem dX11_image_27 : decode cX11_image 27 = .ok (.aload_n 0, 1) := by decide +kernel
theorem dX11_image_28 : decode cX11_image 28 = .ok (.getfield 61, 3) := by decide +kernel
theorem dX11_image_31 : decode cX11_image 31 = .ok (.invokevirtual 283, 3) := by decide +kernel
theorem dX11_image_34 : decode cX11_image 34 = .ok (.aload_n 0, 1) := by decide +kernel
theorem dX11_image_35 : decode cX11_image 35 = .ok (.iconst 1, 1) := by decide +kernel
theorem dX11_image_36 : decode cX11_image 36 = .ok (.putfield 150, 3) := by decide +kernel
theorem dX11_image_39 : decode cX11_image 39 = .ok (.aload_n 0, 1) := by decide +kernel
theorem dX11_image_40 : decode cX11_image 40 = .ok (.getfield 51, 3) := by decide +kernel
theorem dX11_image_43 : decode cX11_image 43 = .ok (.invokevirtual 231, 3) := by decide +kernel
theorem dX11_image_46 : decode cX11_image 46 = .ok (.ireturn, 1) := by decide +kernel
theorem dX11_back_0 : decode cX11_back 0 = .ok (.aload_n 0, 1) := by decide +kernel
theorem dX11_back_1 : decode cX11_back 1 = .ok (.getfield 150, 3) := by decide +kernel
theorem dX11_back_4 : decode cX11_back 4 = .ok (.ifCond .ne 5, 3) := by decide +kernel
theorem dX11_back_7 : decode cX11_back 7 = .ok (.iconst (-1), 1) := by decide +kernel
theorem dX11_back_8 : decode cX11_back 8 = .ok (.ireturn, 1) := by decide +kernel
theorem dX11_back_9 : decode cX11_back 9 = .ok (.aload_n 0, 1) := by decide +kernel
theorem dX11_back_10 : decode cX11_back 10 = .ok (.getfield 51, 3) := by decide +kernel
theorem dX11_back_13 : decode cX11_back 13 = .ok (.aload_n 0, 1) := by decide +kernel
theorem dX11_back_14 : decode cX11_back 14 = .ok (.getfield 65, 3) := by decide +kernel
theorem dX11_back_17 : decode cX11_back 17 = .ok (.invokevirtual 280, 3) := by decide +kernel
theorem dX11_back_20 : decode cX11_back 20 = .ok (.aload_n 0, 1) := by decide +kernel
theorem dX11_back_21 : decode cX11_back 21 = .ok (.getfield 61, 3) := by decide +kernel
theorem dX11_back_24 : decode cX11_back 24 = .ok (.aload_n 0, 1) := by decide +kernel
theorem dX11_back_25 : decode cX11_back 25 = .ok (.getfield 68, 3) := by decide +kernel
theorem dX11_back_28 : decode cX11_back 28 = .ok (.invokevirtual 283, 3) := by decide +kernel
theorem dX11_back_31 : decode cX11_back 31 = .ok (.aload_n 0, 1) := by decide +kernel
theorem dX11_back_32 : decode cX11_back 32 = .ok (.iconst 0, 1) := by decide +kernel
theorem dX11_back_33 : decode cX11_back 33 = .ok (.putfield 147, 3) := by decide +kernel
theorem dX11_back_36 : decode cX11_back 36 = .ok (.aload_n 0, 1) := by decide +kernel
theorem dX11_back_37 : decode cX11_back 37 = .ok (.getfield 51, 3) := by decide +kernel
theorem dX11_back_40 : decode cX11_back 40 = .ok (.invokevirtual 231, 3) := by decide +kernel
theorem dX11_back_43 : decode cX11_back 43 = .ok (.ireturn, 1) := by decide +kernel
theorem dX11_left_0 : decode cX11_left 0 = .ok (.aload_n 0, 1) := by decide +kernel
theorem dX11_left_1 : decode cX11_left 1 = .ok (.getfield 19, 3) := by decide +kernel
theorem dX11_left_4 : decode cX11_left 4 = .ok (.getfield 154, 3) := by decide +kernel
theorem dX11_left_7 : decode cX11_left 7 = .ok (.ifCond .ne 7, 3) := by decide +kernel
theorem dX11_left_10 : decode cX11_left 10 = .ok (.iconst (-1), 1) := by decide +kernel
theorem dX11_left_11 : decode cX11_left 11 = .ok (.goto 10, 3) := by decide +kernel
theorem dX11_left_14 : decode cX11_left 14 = .ok (.aload_n 0, 1) := by decide +kernel
theorem dX11_left_15 : decode cX11_left 15 = .ok (.getfield 51, 3) := by decide +kernel
theorem dX11_left_18 : decode cX11_left 18 = .ok (.invokevirtual 286, 3) := by decide +kernel
theorem dX11_left_21 : decode cX11_left 21 = .ok (.ireturn, 1) := by decide +kernel
theorem dX11_wins_0 : decode cX11_wins 0 = .ok (.aload_n 0, 1) := by decide +kernel
theorem dX11_wins_1 : decode cX11_wins 1 = .ok (.iload_n 1, 1) := by decide +kernel
theorem dX11_wins_2 : decode cX11_wins 2 = .ok (.invokevirtual 155, 3) := by decide +kernel
theorem dX11_wins_5 : decode cX11_wins 5 = .ok (.ifCond .eq 26, 3) := by decide +kernel
theorem dX11_wins_8 : decode cX11_wins 8 = .ok (.iload_n 2, 1) := by decide +kernel
theorem dX11_wins_9 : decode cX11_wins 9 = .ok (.iconst 1, 1) := by decide +kernel
theorem dX11_wins_10 : decode cX11_wins 10 = .ok (.if_icmp .lt 21, 3) := by decide +kernel
theorem dX11_wins_13 : decode cX11_wins 13 = .ok (.iload_n 2, 1) := by decide +kernel
theorem dX11_wins_14 : decode cX11_wins 14 = .ok (.bipush 6, 2) := by decide +kernel
theorem dX11_wins_16 : decode cX11_wins 16 = .ok (.if_icmp .gt 15, 3) := by decide +kernel
theorem dX11_wins_19 : decode cX11_wins 19 = .ok (.aload_n 0, 1) := by decide +kernel
theorem dX11_wins_20 : decode cX11_wins 20 = .ok (.getfield 51, 3) := by decide +kernel
theorem dX11_wins_23 : decode cX11_wins 23 = .ok (.invokevirtual 286, 3) := by decide +kernel
theorem dX11_wins_26 : decode cX11_wins 26 = .ok (.bipush 12, 2) := by decide +kernel
theorem dX11_wins_28 : decode cX11_wins 28 = .ok (.if_icmp .le 5, 3) := by decide +kernel
theorem dX11_wins_31 : decode cX11_wins 31 = .ok (.iconst (-1), 1) := by decide +kernel
theorem dX11_wins_32 : decode cX11_wins 32 = .ok (.ireturn, 1) := by decide +kernel
theorem dX11_wins_33 : decode cX11_wins 33 = .ok (.aload_n 0, 1) := by decide +kernel
theorem dX11_wins_34 : decode cX11_wins 34 = .ok (.getfield 76, 3) := by decide +kernel
theorem dX11_wins_37 : decode cX11_wins 37 = .ok (.aload_n 0, 1) := by decide +kernel
theorem dX11_wins_38 : decode cX11_wins 38 = .ok (.getfield 51, 3) := by decide +kernel
theorem dX11_wins_41 : decode cX11_wins 41 = .ok (.iconst 1, 1) := by decide +kernel
theorem dX11_wins_42 : decode cX11_wins 42 = .ok (.iload_n 1, 1) := by decide +kernel
theorem dX11_wins_43 : decode cX11_wins 43 = .ok (.ishl, 1) := by decide +kernel
theorem dX11_wins_44 : decode cX11_wins 44 = .ok (.iconst 0, 1) := by decide +kernel
theorem dX11_wins_45 : decode cX11_wins 45 = .ok (.invokevirtual 289, 3) := by decide +kernel
theorem dX11_wins_48 : decode cX11_wins 48 = .ok (.aload_n 0, 1) := by decide +kernel
theorem dX11_wins_49 : decode cX11_wins 49 = .ok (.getfield 76, 3) := by decide +kernel
theorem dX11_wins_52 : decode cX11_wins 52 = .ok (.iload_n 1, 1) := by decide +kernel
theorem dX11_wins_53 : decode cX11_wins 53 = .ok (.iload_n 2, 1) := by decide +kernel
theorem dX11_wins_54 : decode cX11_wins 54 = .ok (.invokevirtual 293, 3) := by decide +kernel
theorem dX11_wins_57 : decode cX11_wins 57 = .ok (.ireturn, 1) := by decide +kernel
theorem dX11_mean_0 : decode cX11_mean 0 = .ok (.aload_n 0, 1) := by decide +kernel
theorem dX11_mean_1 : decode cX11_mean 1 = .ok (.iload_n 1, 1) := by decide +kernel
theorem dX11_mean_2 : decode cX11_mean 2 = .ok (.invokevirtual 155, 3) := by decide +kernel
theorem dX11_mean_5 : decode cX11_mean 5 = .ok (.ifCond .eq 15, 3) := by decide +kernel
theorem dX11_mean_8 : decode cX11_mean 8 = .ok (.aload_n 0, 1) := by decide +kernel
theorem dX11_mean_9 : decode cX11_mean 9 = .ok (.getfield 51, 3) := by decide +kernel
theorem dX11_mean_12 : decode cX11_mean 12 = .ok (.invokevirtual 286, 3) := by decide +kernel
theorem dX11_mean_15 : decode cX11_mean 15 = .ok (.bipush 12, 2) := by decide +kernel
theorem dX11_mean_17 : decode cX11_mean 17 = .ok (.if_icmp .le 6, 3) := by decide +kernel
theorem dX11_mean_20 : decode cX11_mean 20 = .ok (.ldc 218, 2) := by decide +kernel
theorem dX11_mean_22 : decode cX11_mean 22 = .ok (.ireturn, 1) := by decide +kernel
theorem dX11_mean_23 : decode cX11_mean 23 = .ok (.aload_n 0, 1) := by decide +kernel
theorem dX11_mean_24 : decode cX11_mean 24 = .ok (.getfield 76, 3) := by decide +kernel
theorem dX11_mean_27 : decode cX11_mean 27 = .ok (.aload_n 0, 1) := by decide +kernel
theorem dX11_mean_28 : decode cX11_mean 28 = .ok (.getfield 51, 3) := by decide +kernel
theorem dX11_mean_31 : decode cX11_mean 31 = .ok (.iconst 1, 1) := by decide +kernel
theorem dX11_mean_32 : decode cX11_mean 32 = .ok (.iload_n 1, 1) := by decide +kernel
theorem dX11_mean_33 : decode cX11_mean 33 = .ok (.ishl, 1) := by decide +kernel
theorem dX11_mean_34 : decode cX11_mean 34 = .ok (.iconst 1, 1) := by decide +kernel
theorem dX11_mean_35 : decode cX11_mean 35 = .ok (.invokevirtual 289, 3) := by decide +kernel
theorem dX11_mean_38 : decode cX11_mean 38 = .ok (.aload_n 0, 1) := by decide +kernel
theorem dX11_mean_39 : decode cX11_mean 39 = .ok (.getfield 76, 3) := by decide +kernel
theorem dX11_mean_42 : decode cX11_mean 42 = .ok (.iload_n 1, 1) := by decide +kernel
theorem dX11_mean_43 : decode cX11_mean 43 = .ok (.invokevirtual 296, 3) := by decide +kernel
theorem dX11_mean_46 : decode cX11_mean 46 = .ok (.ireturn, 1) := by decide +kernel
theorem dX11_hopes_0 : decode cX11_hopes 0 = .ok (.aload_n 0, 1) := by decide +kernel
theorem dX11_hopes_1 : decode cX11_hopes 1 = .ok (.getfield 19, 3) := by decide +kernel
theorem dX11_hopes_4 : decode cX11_hopes 4 = .ok (.getfield 154, 3) := by decide +kernel
theorem dX11_hopes_7 : decode cX11_hopes 7 = .ok (.ifCond .eq 15, 3) := by decide +kernel
theorem dX11_hopes_10 : decode cX11_hopes 10 = .ok (.aload_n 0, 1) := by decide +kernel
theorem dX11_hopes_11 : decode cX11_hopes 11 = .ok (.getfield 51, 3) := by decide +kernel
theorem dX11_hopes_14 : decode cX11_hopes 14 = .ok (.invokevirtual 286, 3) := by decide +kernel
theorem dX11_hopes_17 : decode cX11_hopes 17 = .ok (.bipush 12, 2) := by decide +kernel
theorem dX11_hopes_19 : decode cX11_hopes 19 = .ok (.if_icmp .le 5, 3) := by decide +kernel
theorem dX11_hopes_22 : decode cX11_hopes 22 = .ok (.iconst (-1), 1) := by decide +kernel
theorem dX11_hopes_23 : decode cX11_hopes 23 = .ok (.ireturn, 1) := by decide +kernel
theorem dX11_hopes_24 : decode cX11_hopes 24 = .ok (.aload_n 0, 1) := by decide +kernel
theorem dX11_hopes_25 : decode cX11_hopes 25 = .ok (.getfield 76, 3) := by decide +kernel
theorem dX11_hopes_28 : decode cX11_hopes 28 = .ok (.aload_n 0, 1) := by decide +kernel
theorem dX11_hopes_29 : decode cX11_hopes 29 = .ok (.getfield 51, 3) := by decide +kernel
theorem dX11_hopes_32 : decode cX11_hopes 32 = .ok (.iconst 1, 1) := by decide +kernel
theorem dX11_hopes_33 : decode cX11_hopes 33 = .ok (.aload_n 0, 1) := by decide +kernel
theorem dX11_hopes_34 : decode cX11_hopes 34 = .ok (.getfield 19, 3) := by decide +kernel
theorem dX11_hopes_37 : decode cX11_hopes 37 = .ok (.getfield 154, 3) := by decide +kernel
theorem dX11_hopes_40 : decode cX11_hopes 40 = .ok (.ishl, 1) := by decide +kernel
theorem dX11_hopes_41 : decode cX11_hopes 41 = .ok (.iconst 1, 1) := by decide +kernel
theorem dX11_hopes_42 : decode cX11_hopes 42 = .ok (.isub, 1) := by decide +kernel
theorem dX11_hopes_43 : decode cX11_hopes 43 = .ok (.iconst 0, 1) := by decide +kernel
theorem dX11_hopes_44 : decode cX11_hopes 44 = .ok (.invokevirtual 289, 3) := by decide +kernel
theorem dX11_hopes_47 : decode cX11_hopes 47 = .ok (.iconst 0, 1) := by decide +kernel
theorem dX11_hopes_48 : decode cX11_hopes 48 = .ok (.istore_n 1, 1) := by decide +kernel
theorem dX11_hopes_49 : decode cX11_hopes 49 = .ok (.iconst 0, 1) := by decide +kernel
theorem dX11_hopes_50 : decode cX11_hopes 50 = .ok (.istore_n 2, 1) := by decide +kernel
theorem dX11_hopes_51 : decode cX11_hopes 51 = .ok (.iload_n 2, 1) := by decide +kernel
theorem dX11_hopes_52 : decode cX11_hopes 52 = .ok (.aload_n 0, 1) := by decide +kernel
theorem dX11_hopes_53 : decode cX11_hopes 53 = .ok (.getfield 19, 3) := by decide +kernel
theorem dX11_hopes_56 : decode cX11_hopes 56 = .ok (.getfield 154, 3) := by decide +kernel
theorem dX11_hopes_59 : decode cX11_hopes 59 = .ok (.if_icmp .ge 31, 3) := by decide +kernel
