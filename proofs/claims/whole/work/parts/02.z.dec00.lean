theorem dX0_init_0 : decode cX0_init 0 = .ok (.aload_n 0, 1) := by decide +kernel
theorem dX0_init_1 : decode cX0_init 1 = .ok (.invokespecial 3, 3) := by decide +kernel
theorem dX0_init_4 : decode cX0_init 4 = .ok (.aload_n 0, 1) := by decide +kernel
theorem dX0_init_5 : decode cX0_init 5 = .ok (.bipush 13, 2) := by decide +kernel
theorem dX0_init_7 : decode cX0_init 7 = .ok (.anewarray 9, 3) := by decide +kernel
theorem dX0_init_10 : decode cX0_init 10 = .ok (.putfield 11, 3) := by decide +kernel
theorem dX0_init_13 : decode cX0_init 13 = .ok (.aload_n 0, 1) := by decide +kernel
theorem dX0_init_14 : decode cX0_init 14 = .ok (.bipush 42, 2) := by decide +kernel
theorem dX0_init_16 : decode cX0_init 16 = .ok (.newarray .long, 2) := by decide +kernel
theorem dX0_init_18 : decode cX0_init 18 = .ok (.putfield 17, 3) := by decide +kernel
theorem dX0_init_21 : decode cX0_init 21 = .ok (.aload_n 0, 1) := by decide +kernel
theorem dX0_init_22 : decode cX0_init 22 = .ok (.bipush 6, 2) := by decide +kernel
theorem dX0_init_24 : decode cX0_init 24 = .ok (.newarray .long, 2) := by decide +kernel
theorem dX0_init_26 : decode cX0_init 26 = .ok (.putfield 21, 3) := by decide +kernel
theorem dX0_init_29 : decode cX0_init 29 = .ok (.aload_n 0, 1) := by decide +kernel
theorem dX0_init_30 : decode cX0_init 30 = .ok (.aload_n 1, 1) := by decide +kernel
theorem dX0_init_31 : decode cX0_init 31 = .ok (.putfield 24, 3) := by decide +kernel
theorem dX0_init_34 : decode cX0_init 34 = .ok (.aload_n 0, 1) := by decide +kernel
theorem dX0_init_35 : decode cX0_init 35 = .ok (.aload_n 2, 1) := by decide +kernel
theorem dX0_init_36 : decode cX0_init 36 = .ok (.putfield 28, 3) := by decide +kernel
theorem dX0_init_39 : decode cX0_init 39 = .ok (.aload_n 0, 1) := by decide +kernel
theorem dX0_init_40 : decode cX0_init 40 = .ok (.new 32, 3) := by decide +kernel
theorem dX0_init_43 : decode cX0_init 43 = .ok (.dup, 1) := by decide +kernel
theorem dX0_init_44 : decode cX0_init 44 = .ok (.aload_n 1, 1) := by decide +kernel
theorem dX0_init_45 : decode cX0_init 45 = .ok (.invokespecial 34, 3) := by decide +kernel
theorem dX0_init_48 : decode cX0_init 48 = .ok (.putfield 37, 3) := by decide +kernel
theorem dX0_init_51 : decode cX0_init 51 = .ok (.iconst 0, 1) := by decide +kernel
theorem dX0_init_52 : decode cX0_init 52 = .ok (.istore_n 3, 1) := by decide +kernel
theorem dX0_init_53 : decode cX0_init 53 = .ok (.iload_n 3, 1) := by decide +kernel
theorem dX0_init_54 : decode cX0_init 54 = .ok (.aload_n 0, 1) := by decide +kernel
theorem dX0_init_55 : decode cX0_init 55 = .ok (.getfield 11, 3) := by decide +kernel
theorem dX0_init_58 : decode cX0_init 58 = .ok (.arraylength, 1) := by decide +kernel
theorem dX0_init_59 : decode cX0_init 59 = .ok (.if_icmp .ge 23, 3) := by decide +kernel
theorem dX0_init_62 : decode cX0_init 62 = .ok (.aload_n 0, 1) := by decide +kernel
theorem dX0_init_63 : decode cX0_init 63 = .ok (.getfield 11, 3) := by decide +kernel
theorem dX0_init_66 : decode cX0_init 66 = .ok (.iload_n 3, 1) := by decide +kernel
theorem dX0_init_67 : decode cX0_init 67 = .ok (.new 9, 3) := by decide +kernel
theorem dX0_init_70 : decode cX0_init 70 = .ok (.dup, 1) := by decide +kernel
theorem dX0_init_71 : decode cX0_init 71 = .ok (.aload_n 1, 1) := by decide +kernel
theorem dX0_init_72 : decode cX0_init 72 = .ok (.invokespecial 41, 3) := by decide +kernel
theorem dX0_init_75 : decode cX0_init 75 = .ok (.aastore, 1) := by decide +kernel
theorem dX0_init_76 : decode cX0_init 76 = .ok (.iinc 3 1, 3) := by decide +kernel
theorem dX0_init_79 : decode cX0_init 79 = .ok (.goto (-26), 3) := by decide +kernel
theorem dX0_init_82 : decode cX0_init 82 = .ok (.return_, 1) := by decide +kernel
theorem dX0_go_0 : decode cX0_go 0 = .ok (.aload_n 0, 1) := by decide +kernel
theorem dX0_go_1 : decode cX0_go 1 = .ok (.getfield 17, 3) := by decide +kernel
theorem dX0_go_4 : decode cX0_go 4 = .ok (.lconst 0, 1) := by decide +kernel
theorem dX0_go_5 : decode cX0_go 5 = .ok (.invokestatic 42, 3) := by decide +kernel
theorem dX0_go_8 : decode cX0_go 8 = .ok (.aload_n 0, 1) := by decide +kernel
theorem dX0_go_9 : decode cX0_go 9 = .ok (.getfield 21, 3) := by decide +kernel
theorem dX0_go_12 : decode cX0_go 12 = .ok (.lconst 0, 1) := by decide +kernel
theorem dX0_go_13 : decode cX0_go 13 = .ok (.invokestatic 42, 3) := by decide +kernel
theorem dX0_go_16 : decode cX0_go 16 = .ok (.aload_n 0, 1) := by decide +kernel
theorem dX0_go_17 : decode cX0_go 17 = .ok (.iload_n 2, 1) := by decide +kernel
theorem dX0_go_18 : decode cX0_go 18 = .ok (.putfield 48, 3) := by decide +kernel
theorem dX0_go_21 : decode cX0_go 21 = .ok (.aload_n 0, 1) := by decide +kernel
theorem dX0_go_22 : decode cX0_go 22 = .ok (.iload_n 3, 1) := by decide +kernel
theorem dX0_go_23 : decode cX0_go 23 = .ok (.putfield 52, 3) := by decide +kernel
theorem dX0_go_26 : decode cX0_go 26 = .ok (.aload_n 0, 1) := by decide +kernel
theorem dX0_go_27 : decode cX0_go 27 = .ok (.getfield 11, 3) := by decide +kernel
theorem dX0_go_30 : decode cX0_go 30 = .ok (.iconst 0, 1) := by decide +kernel
theorem dX0_go_31 : decode cX0_go 31 = .ok (.aaload, 1) := by decide +kernel
theorem dX0_go_32 : decode cX0_go 32 = .ok (.aload_n 1, 1) := by decide +kernel
theorem dX0_go_33 : decode cX0_go 33 = .ok (.invokevirtual 56, 3) := by decide +kernel
theorem dX0_go_36 : decode cX0_go 36 = .ok (.aload_n 0, 1) := by decide +kernel
theorem dX0_go_37 : decode cX0_go 37 = .ok (.iconst 0, 1) := by decide +kernel
theorem dX0_go_38 : decode cX0_go 38 = .ok (.ldc2_w 60, 3) := by decide +kernel
theorem dX0_go_41 : decode cX0_go 41 = .ok (.invokevirtual 62, 3) := by decide +kernel
theorem dX0_go_44 : decode cX0_go 44 = .ok (.return_, 1) := by decide +kernel
theorem dX0_goOn_0 : decode cX0_goOn 0 = .ok (.aload_n 0, 1) := by decide +kernel
theorem dX0_goOn_1 : decode cX0_goOn 1 = .ok (.getfield 11, 3) := by decide +kernel
theorem dX0_goOn_4 : decode cX0_goOn 4 = .ok (.iload_n 1, 1) := by decide +kernel
theorem dX0_goOn_5 : decode cX0_goOn 5 = .ok (.aaload, 1) := by decide +kernel
theorem dX0_goOn_6 : decode cX0_goOn 6 = .ok (.astore 4, 2) := by decide +kernel
theorem dX0_goOn_8 : decode cX0_goOn 8 = .ok (.aload 4, 2) := by decide +kernel
theorem dX0_goOn_10 : decode cX0_goOn 10 = .ok (.invokevirtual 66, 3) := by decide +kernel
theorem dX0_goOn_13 : decode cX0_goOn 13 = .ok (.istore 5, 2) := by decide +kernel
theorem dX0_goOn_15 : decode cX0_goOn 15 = .ok (.iload 5, 2) := by decide +kernel
theorem dX0_goOn_17 : decode cX0_goOn 17 = .ok (.iconst (-1), 1) := by decide +kernel
theorem dX0_goOn_18 : decode cX0_goOn 18 = .ok (.if_icmp .eq 14, 3) := by decide +kernel
theorem dX0_goOn_21 : decode cX0_goOn 21 = .ok (.iload_n 1, 1) := by decide +kernel
theorem dX0_goOn_22 : decode cX0_goOn 22 = .ok (.iconst 1, 1) := by decide +kernel
theorem dX0_goOn_23 : decode cX0_goOn 23 = .ok (.iadd, 1) := by decide +kernel
theorem dX0_goOn_24 : decode cX0_goOn 24 = .ok (.aload_n 0, 1) := by decide +kernel
theorem dX0_goOn_25 : decode cX0_goOn 25 = .ok (.getfield 11, 3) := by decide +kernel
theorem dX0_goOn_28 : decode cX0_goOn 28 = .ok (.arraylength, 1) := by decide +kernel
theorem dX0_goOn_29 : decode cX0_goOn 29 = .ok (.if_icmp .lt 11, 3) := by decide +kernel
theorem dX0_goOn_32 : decode cX0_goOn 32 = .ok (.aload_n 0, 1) := by decide +kernel
theorem dX0_goOn_33 : decode cX0_goOn 33 = .ok (.aload 4, 2) := by decide +kernel
theorem dX0_goOn_35 : decode cX0_goOn 35 = .ok (.lload_n 2, 1) := by decide +kernel
theorem dX0_goOn_36 : decode cX0_goOn 36 = .ok (.invokevirtual 70, 3) := by decide +kernel
theorem dX0_goOn_39 : decode cX0_goOn 39 = .ok (.return_, 1) := by decide +kernel
theorem dX0_goOn_40 : decode cX0_goOn 40 = .ok (.aload_n 0, 1) := by decide +kernel
theorem dX0_goOn_41 : decode cX0_goOn 41 = .ok (.getfield 37, 3) := by decide +kernel
theorem dX0_goOn_44 : decode cX0_goOn 44 = .ok (.aload 4, 2) := by decide +kernel
theorem dX0_goOn_46 : decode cX0_goOn 46 = .ok (.iload 5, 2) := by decide +kernel
theorem dX0_goOn_48 : decode cX0_goOn 48 = .ok (.invokevirtual 74, 3) := by decide +kernel
theorem dX0_goOn_51 : decode cX0_goOn 51 = .ok (.lload_n 2, 1) := by decide +kernel
theorem dX0_goOn_52 : decode cX0_goOn 52 = .ok (.aload_n 0, 1) := by decide +kernel
theorem dX0_goOn_53 : decode cX0_goOn 53 = .ok (.getfield 28, 3) := by decide +kernel
theorem dX0_goOn_56 : decode cX0_goOn 56 = .ok (.aload_n 0, 1) := by decide +kernel
theorem dX0_goOn_57 : decode cX0_goOn 57 = .ok (.getfield 37, 3) := by decide +kernel
theorem dX0_goOn_60 : decode cX0_goOn 60 = .ok (.aload 4, 2) := by decide +kernel
theorem dX0_goOn_62 : decode cX0_goOn 62 = .ok (.iconst 5, 1) := by decide +kernel
theorem dX0_goOn_63 : decode cX0_goOn 63 = .ok (.iload 5, 2) := by decide +kernel
theorem dX0_goOn_65 : decode cX0_goOn 65 = .ok (.invokevirtual 78, 3) := by decide +kernel
theorem dX0_goOn_68 : decode cX0_goOn 68 = .ok (.invokevirtual 82, 3) := by decide +kernel
theorem dX0_goOn_71 : decode cX0_goOn 71 = .ok (.i2l, 1) := by decide +kernel
theorem dX0_goOn_72 : decode cX0_goOn 72 = .ok (.lmul, 1) := by decide +kernel
theorem dX0_goOn_73 : decode cX0_goOn 73 = .ok (.ldc2_w 88, 3) := by decide +kernel
theorem dX0_goOn_76 : decode cX0_goOn 76 = .ok (.ldiv, 1) := by decide +kernel
theorem dX0_goOn_77 : decode cX0_goOn 77 = .ok (.lstore 6, 2) := by decide +kernel
theorem dX0_goOn_79 : decode cX0_goOn 79 = .ok (.aload_n 0, 1) := by decide +kernel
theorem dX0_goOn_80 : decode cX0_goOn 80 = .ok (.getfield 11, 3) := by decide +kernel
theorem dX0_goOn_83 : decode cX0_goOn 83 = .ok (.iload_n 1, 1) := by decide +kernel
theorem dX0_goOn_84 : decode cX0_goOn 84 = .ok (.iconst 1, 1) := by decide +kernel
theorem dX0_goOn_85 : decode cX0_goOn 85 = .ok (.iadd, 1) := by decide +kernel
theorem dX0_goOn_86 : decode cX0_goOn 86 = .ok (.aaload, 1) := by decide +kernel
theorem dX0_goOn_87 : decode cX0_goOn 87 = .ok (.astore 8, 2) := by decide +kernel
theorem dX0_goOn_89 : decode cX0_goOn 89 = .ok (.lload 6, 2) := by decide +kernel
theorem dX0_goOn_91 : decode cX0_goOn 91 = .ok (.lconst 0, 1) := by decide +kernel
theorem dX0_goOn_92 : decode cX0_goOn 92 = .ok (.lcmp, 1) := by decide +kernel
theorem dX0_goOn_93 : decode cX0_goOn 93 = .ok (.ifCond .le 28, 3) := by decide +kernel
theorem dX0_goOn_96 : decode cX0_goOn 96 = .ok (.aload 8, 2) := by decide +kernel
theorem dX0_goOn_98 : decode cX0_goOn 98 = .ok (.aload 4, 2) := by decide +kernel
theorem dX0_goOn_100 : decode cX0_goOn 100 = .ok (.invokevirtual 56, 3) := by decide +kernel
theorem dX0_goOn_103 : decode cX0_goOn 103 = .ok (.aload 8, 2) := by decide +kernel
theorem dX0_goOn_105 : decode cX0_goOn 105 = .ok (.iload 5, 2) := by decide +kernel
theorem dX0_goOn_107 : decode cX0_goOn 107 = .ok (.iconst 1, 1) := by decide +kernel
theorem dX0_goOn_108 : decode cX0_goOn 108 = .ok (.invokevirtual 90, 3) := by decide +kernel
theorem dX0_goOn_111 : decode cX0_goOn 111 = .ok (.pop, 1) := by decide +kernel
theorem dX0_goOn_112 : decode cX0_goOn 112 = .ok (.aload_n 0, 1) := by decide +kernel
theorem dX0_goOn_113 : decode cX0_goOn 113 = .ok (.iload_n 1, 1) := by decide +kernel
theorem dX0_goOn_114 : decode cX0_goOn 114 = .ok (.iconst 1, 1) := by decide +kernel
theorem dX0_goOn_115 : decode cX0_goOn 115 = .ok (.iadd, 1) := by decide +kernel
theorem dX0_goOn_116 : decode cX0_goOn 116 = .ok (.lload 6, 2) := by decide +kernel
theorem dX0_goOn_118 : decode cX0_goOn 118 = .ok (.invokevirtual 62, 3) := by decide +kernel
theorem dX0_goOn_121 : decode cX0_goOn 121 = .ok (.lload_n 2, 1) := by decide +kernel
theorem dX0_goOn_122 : decode cX0_goOn 122 = .ok (.lload 6, 2) := by decide +kernel
theorem dX0_goOn_124 : decode cX0_goOn 124 = .ok (.lcmp, 1) := by decide +kernel
theorem dX0_goOn_125 : decode cX0_goOn 125 = .ok (.ifCond .le 30, 3) := by decide +kernel
theorem dX0_goOn_128 : decode cX0_goOn 128 = .ok (.aload 8, 2) := by decide +kernel
theorem dX0_goOn_130 : decode cX0_goOn 130 = .ok (.aload 4, 2) := by decide +kernel
theorem dX0_goOn_132 : decode cX0_goOn 132 = .ok (.invokevirtual 56, 3) := by decide +kernel
theorem dX0_goOn_135 : decode cX0_goOn 135 = .ok (.aload 8, 2) := by decide +kernel
theorem dX0_goOn_137 : decode cX0_goOn 137 = .ok (.iload 5, 2) := by decide +kernel
theorem dX0_goOn_139 : decode cX0_goOn 139 = .ok (.iconst 0, 1) := by decide +kernel
theorem dX0_goOn_140 : decode cX0_goOn 140 = .ok (.invokevirtual 90, 3) := by decide +kernel
theorem dX0_goOn_143 : decode cX0_goOn 143 = .ok (.pop, 1) := by decide +kernel
theorem dX0_goOn_144 : decode cX0_goOn 144 = .ok (.aload_n 0, 1) := by decide +kernel
theorem dX0_goOn_145 : decode cX0_goOn 145 = .ok (.iload_n 1, 1) := by decide +kernel
theorem dX0_goOn_146 : decode cX0_goOn 146 = .ok (.iconst 1, 1) := by decide +kernel
theorem dX0_goOn_147 : decode cX0_goOn 147 = .ok (.iadd, 1) := by decide +kernel
theorem dX0_goOn_148 : decode cX0_goOn 148 = .ok (.lload_n 2, 1) := by decide +kernel
theorem dX0_goOn_149 : decode cX0_goOn 149 = .ok (.lload 6, 2) := by decide +kernel
theorem dX0_goOn_151 : decode cX0_goOn 151 = .ok (.lsub, 1) := by decide +kernel
theorem dX0_goOn_152 : decode cX0_goOn 152 = .ok (.invokevirtual 62, 3) := by decide +kernel
theorem dX0_goOn_155 : decode cX0_goOn 155 = .ok (.return_, 1) := by decide +kernel
theorem dX0_settle_0 : decode cX0_settle 0 = .ok (.iconst 0, 1) := by decide +kernel
theorem dX0_settle_1 : decode cX0_settle 1 = .ok (.istore 4, 2) := by decide +kernel
theorem dX0_settle_3 : decode cX0_settle 3 = .ok (.iload 4, 2) := by decide +kernel
theorem dX0_settle_5 : decode cX0_settle 5 = .ok (.aload_n 0, 1) := by decide +kernel
theorem dX0_settle_6 : decode cX0_settle 6 = .ok (.getfield 24, 3) := by decide +kernel
theorem dX0_settle_9 : decode cX0_settle 9 = .ok (.getfield 94, 3) := by decide +kernel
theorem dX0_settle_12 : decode cX0_settle 12 = .ok (.if_icmp .ge 75, 3) := by decide +kernel
theorem dX0_settle_15 : decode cX0_settle 15 = .ok (.aload_n 0, 1) := by decide +kernel
theorem dX0_settle_16 : decode cX0_settle 16 = .ok (.getfield 48, 3) := by decide +kernel
theorem dX0_settle_19 : decode cX0_settle 19 = .ok (.iload 4, 2) := by decide +kernel
theorem dX0_settle_21 : decode cX0_settle 21 = .ok (.ishr, 1) := by decide +kernel
theorem dX0_settle_22 : decode cX0_settle 22 = .ok (.iconst 1, 1) := by decide +kernel
theorem dX0_settle_23 : decode cX0_settle 23 = .ok (.iand, 1) := by decide +kernel
theorem dX0_settle_24 : decode cX0_settle 24 = .ok (.ifCond .eq 57, 3) := by decide +kernel
theorem dX0_settle_27 : decode cX0_settle 27 = .ok (.aload_n 0, 1) := by decide +kernel
theorem dX0_settle_28 : decode cX0_settle 28 = .ok (.getfield 52, 3) := by decide +kernel
theorem dX0_settle_31 : decode cX0_settle 31 = .ok (.ifCond .eq 29, 3) := by decide +kernel
theorem dX0_settle_34 : decode cX0_settle 34 = .ok (.aload_n 0, 1) := by decide +kernel
theorem dX0_settle_35 : decode cX0_settle 35 = .ok (.getfield 21, 3) := by decide +kernel
theorem dX0_settle_38 : decode cX0_settle 38 = .ok (.iload 4, 2) := by decide +kernel
theorem dX0_settle_40 : decode cX0_settle 40 = .ok (.dup2, 1) := by decide +kernel
theorem dX0_settle_41 : decode cX0_settle 41 = .ok (.laload, 1) := by decide +kernel
theorem dX0_settle_42 : decode cX0_settle 42 = .ok (.lload_n 2, 1) := by decide +kernel
theorem dX0_settle_43 : decode cX0_settle 43 = .ok (.aload_n 0, 1) := by decide +kernel
theorem dX0_settle_44 : decode cX0_settle 44 = .ok (.getfield 28, 3) := by decide +kernel
theorem dX0_settle_47 : decode cX0_settle 47 = .ok (.aload_n 1, 1) := by decide +kernel
theorem dX0_settle_48 : decode cX0_settle 48 = .ok (.iload 4, 2) := by decide +kernel
theorem dX0_settle_50 : decode cX0_settle 50 = .ok (.invokevirtual 99, 3) := by decide +kernel
theorem dX0_settle_53 : decode cX0_settle 53 = .ok (.i2l, 1) := by decide +kernel
theorem dX0_settle_54 : decode cX0_settle 54 = .ok (.lmul, 1) := by decide +kernel
theorem dX0_settle_55 : decode cX0_settle 55 = .ok (.ladd, 1) := by decide +kernel
theorem dX0_settle_56 : decode cX0_settle 56 = .ok (.lastore, 1) := by decide +kernel
theorem dX0_settle_57 : decode cX0_settle 57 = .ok (.goto 24, 3) := by decide +kernel
theorem dX0_settle_60 : decode cX0_settle 60 = .ok (.aload_n 0, 1) := by decide +kernel
theorem dX0_settle_61 : decode cX0_settle 61 = .ok (.getfield 17, 3) := by decide +kernel
theorem dX0_settle_64 : decode cX0_settle 64 = .ok (.iload 4, 2) := by decide +kernel
theorem dX0_settle_66 : decode cX0_settle 66 = .ok (.bipush 7, 2) := by decide +kernel
theorem dX0_settle_68 : decode cX0_settle 68 = .ok (.imul, 1) := by decide +kernel
theorem dX0_settle_69 : decode cX0_settle 69 = .ok (.aload_n 1, 1) := by decide +kernel
theorem dX0_settle_70 : decode cX0_settle 70 = .ok (.iload 4, 2) := by decide +kernel
theorem dX0_settle_72 : decode cX0_settle 72 = .ok (.invokevirtual 103, 3) := by decide +kernel
theorem dX0_settle_75 : decode cX0_settle 75 = .ok (.iadd, 1) := by decide +kernel
theorem dX0_settle_76 : decode cX0_settle 76 = .ok (.dup2, 1) := by decide +kernel
theorem dX0_settle_77 : decode cX0_settle 77 = .ok (.laload, 1) := by decide +kernel
theorem dX0_settle_78 : decode cX0_settle 78 = .ok (.lload_n 2, 1) := by decide +kernel
theorem dX0_settle_79 : decode cX0_settle 79 = .ok (.ladd, 1) := by decide +kernel
theorem dX0_settle_80 : decode cX0_settle 80 = .ok (.lastore, 1) := by decide +kernel
theorem dX0_settle_81 : decode cX0_settle 81 = .ok (.iinc 4 1, 3) := by decide +kernel
theorem dX0_settle_84 : decode cX0_settle 84 = .ok (.goto (-81), 3) := by decide +kernel
theorem dX0_settle_87 : decode cX0_settle 87 = .ok (.return_, 1) := by decide +kernel
theorem dX0_partsUpTo_0 : decode cX0_partsUpTo 0 = .ok (.lconst 0, 1) := by decide +kernel
theorem dX0_partsUpTo_1 : decode cX0_partsUpTo 1 = .ok (.lstore_n 3, 1) := by decide +kernel
theorem dX0_partsUpTo_2 : decode cX0_partsUpTo 2 = .ok (.iconst 1, 1) := by decide +kernel
theorem dX0_partsUpTo_3 : decode cX0_partsUpTo 3 = .ok (.istore 5, 2) := by decide +kernel
theorem dX0_partsUpTo_5 : decode cX0_partsUpTo 5 = .ok (.iload 5, 2) := by decide +kernel
theorem dX0_partsUpTo_7 : decode cX0_partsUpTo 7 = .ok (.iload_n 2, 1) := by decide +kernel
theorem dX0_partsUpTo_8 : decode cX0_partsUpTo 8 = .ok (.if_icmp .gt 31, 3) := by decide +kernel
theorem dX0_partsUpTo_11 : decode cX0_partsUpTo 11 = .ok (.iload 5, 2) := by decide +kernel
theorem dX0_partsUpTo_13 : decode cX0_partsUpTo 13 = .ok (.bipush 7, 2) := by decide +kernel
theorem dX0_partsUpTo_15 : decode cX0_partsUpTo 15 = .ok (.if_icmp .ge 24, 3) := by decide +kernel
theorem dX0_partsUpTo_18 : decode cX0_partsUpTo 18 = .ok (.lload_n 3, 1) := by decide +kernel
theorem dX0_partsUpTo_19 : decode cX0_partsUpTo 19 = .ok (.aload_n 0, 1) := by decide +kernel
theorem dX0_partsUpTo_20 : decode cX0_partsUpTo 20 = .ok (.getfield 17, 3) := by decide +kernel
theorem dX0_partsUpTo_23 : decode cX0_partsUpTo 23 = .ok (.iload_n 1, 1) := by decide +kernel
theorem dX0_partsUpTo_24 : decode cX0_partsUpTo 24 = .ok (.bipush 7, 2) := by decide +kernel
theorem dX0_partsUpTo_26 : decode cX0_partsUpTo 26 = .ok (.imul, 1) := by decide +kernel
theorem dX0_partsUpTo_27 : decode cX0_partsUpTo 27 = .ok (.iload 5, 2) := by decide +kernel
theorem dX0_partsUpTo_29 : decode cX0_partsUpTo 29 = .ok (.iadd, 1) := by decide +kernel
theorem dX0_partsUpTo_30 : decode cX0_partsUpTo 30 = .ok (.laload, 1) := by decide +kernel
theorem dX0_partsUpTo_31 : decode cX0_partsUpTo 31 = .ok (.ladd, 1) := by decide +kernel
theorem dX0_partsUpTo_32 : decode cX0_partsUpTo 32 = .ok (.lstore_n 3, 1) := by decide +kernel
theorem dX0_partsUpTo_33 : decode cX0_partsUpTo 33 = .ok (.iinc 5 1, 3) := by decide +kernel
theorem dX0_partsUpTo_36 : decode cX0_partsUpTo 36 = .ok (.goto (-31), 3) := by decide +kernel
theorem dX0_partsUpTo_39 : decode cX0_partsUpTo 39 = .ok (.lload_n 3, 1) := by decide +kernel
theorem dX0_partsUpTo_40 : decode cX0_partsUpTo 40 = .ok (.l2i, 1) := by decide +kernel
theorem dX0_partsUpTo_41 : decode cX0_partsUpTo 41 = .ok (.ireturn, 1) := by decide +kernel
theorem dX0_meanOf_0 : decode cX0_meanOf 0 = .ok (.aload_n 0, 1) := by decide +kernel
theorem dX0_meanOf_1 : decode cX0_meanOf 1 = .ok (.getfield 21, 3) := by decide +kernel
theorem dX0_meanOf_4 : decode cX0_meanOf 4 = .ok (.iload_n 1, 1) := by decide +kernel
theorem dX0_meanOf_5 : decode cX0_meanOf 5 = .ok (.laload, 1) := by decide +kernel
theorem dX0_meanOf_6 : decode cX0_meanOf 6 = .ok (.ldc2_w 60, 3) := by decide +kernel
theorem dX0_meanOf_9 : decode cX0_meanOf 9 = .ok (.ldiv, 1) := by decide +kernel
theorem dX0_meanOf_10 : decode cX0_meanOf 10 = .ok (.l2i, 1) := by decide +kernel
theorem dX0_meanOf_11 : decode cX0_meanOf 11 = .ok (.ireturn, 1) := by decide +kernel
theorem dX1_init_0 : decode cX1_init 0 = .ok (.aload_n 0, 1) := by decide +kernel
theorem dX1_init_1 : decode cX1_init 1 = .ok (.invokespecial 3, 3) := by decide +kernel
theorem dX1_init_4 : decode cX1_init 4 = .ok (.aload_n 0, 1) := by decide +kernel
theorem dX1_init_5 : decode cX1_init 5 = .ok (.bipush 60, 2) := by decide +kernel
theorem dX1_init_7 : decode cX1_init 7 = .ok (.newarray .int, 2) := by decide +kernel
theorem dX1_init_9 : decode cX1_init 9 = .ok (.putfield 11, 3) := by decide +kernel
theorem dX1_init_12 : decode cX1_init 12 = .ok (.aload_n 0, 1) := by decide +kernel
theorem dX1_init_13 : decode cX1_init 13 = .ok (.iconst 4, 1) := by decide +kernel
theorem dX1_init_14 : decode cX1_init 14 = .ok (.newarray .int, 2) := by decide +kernel
theorem dX1_init_16 : decode cX1_init 16 = .ok (.putfield 15, 3) := by decide +kernel
theorem dX1_init_19 : decode cX1_init 19 = .ok (.return_, 1) := by decide +kernel
theorem dX1_clear_0 : decode cX1_clear 0 = .ok (.aload_n 0, 1) := by decide +kernel
theorem dX1_clear_1 : decode cX1_clear 1 = .ok (.iconst 0, 1) := by decide +kernel
theorem dX1_clear_2 : decode cX1_clear 2 = .ok (.putfield 18, 3) := by decide +kernel
theorem dX1_clear_5 : decode cX1_clear 5 = .ok (.getstatic 22, 3) := by decide +kernel
theorem dX1_clear_8 : decode cX1_clear 8 = .ok (.iconst 0, 1) := by decide +kernel
theorem dX1_clear_9 : decode cX1_clear 9 = .ok (.aload_n 0, 1) := by decide +kernel
theorem dX1_clear_10 : decode cX1_clear 10 = .ok (.getfield 15, 3) := by decide +kernel
theorem dX1_clear_13 : decode cX1_clear 13 = .ok (.iconst 0, 1) := by decide +kernel
theorem dX1_clear_14 : decode cX1_clear 14 = .ok (.iconst 4, 1) := by decide +kernel
theorem dX1_clear_15 : decode cX1_clear 15 = .ok (.invokestatic 25, 3) := by decide +kernel
theorem dX1_clear_18 : decode cX1_clear 18 = .ok (.iconst 0, 1) := by decide +kernel
theorem dX1_clear_19 : decode cX1_clear 19 = .ok (.istore_n 1, 1) := by decide +kernel
theorem dX1_clear_20 : decode cX1_clear 20 = .ok (.iload_n 1, 1) := by decide +kernel
theorem dX1_clear_21 : decode cX1_clear 21 = .ok (.bipush 6, 2) := by decide +kernel
theorem dX1_clear_23 : decode cX1_clear 23 = .ok (.if_icmp .ge 26, 3) := by decide +kernel
theorem dX1_clear_26 : decode cX1_clear 26 = .ok (.getstatic 31, 3) := by decide +kernel
theorem dX1_clear_29 : decode cX1_clear 29 = .ok (.iconst 0, 1) := by decide +kernel
theorem dX1_clear_30 : decode cX1_clear 30 = .ok (.aload_n 0, 1) := by decide +kernel
theorem dX1_clear_31 : decode cX1_clear 31 = .ok (.getfield 11, 3) := by decide +kernel
theorem dX1_clear_34 : decode cX1_clear 34 = .ok (.iload_n 1, 1) := by decide +kernel
theorem dX1_clear_35 : decode cX1_clear 35 = .ok (.bipush 10, 2) := by decide +kernel
theorem dX1_clear_37 : decode cX1_clear 37 = .ok (.imul, 1) := by decide +kernel
theorem dX1_clear_38 : decode cX1_clear 38 = .ok (.bipush 10, 2) := by decide +kernel
theorem dX1_clear_40 : decode cX1_clear 40 = .ok (.invokestatic 25, 3) := by decide +kernel
theorem dX1_clear_43 : decode cX1_clear 43 = .ok (.iinc 1 1, 3) := by decide +kernel
theorem dX1_clear_46 : decode cX1_clear 46 = .ok (.goto (-26), 3) := by decide +kernel
theorem dX1_clear_49 : decode cX1_clear 49 = .ok (.return_, 1) := by decide +kernel
theorem dX1_become_0 : decode cX1_become 0 = .ok (.aload_n 0, 1) := by decide +kernel
theorem dX1_become_1 : decode cX1_become 1 = .ok (.aload_n 1, 1) := by decide +kernel
theorem dX1_become_2 : decode cX1_become 2 = .ok (.getfield 18, 3) := by decide +kernel
theorem dX1_become_5 : decode cX1_become 5 = .ok (.putfield 18, 3) := by decide +kernel
theorem dX1_become_8 : decode cX1_become 8 = .ok (.aload_n 1, 1) := by decide +kernel
theorem dX1_become_9 : decode cX1_become 9 = .ok (.getfield 11, 3) := by decide +kernel
theorem dX1_become_12 : decode cX1_become 12 = .ok (.iconst 0, 1) := by decide +kernel
theorem dX1_become_13 : decode cX1_become 13 = .ok (.aload_n 0, 1) := by decide +kernel
theorem dX1_become_14 : decode cX1_become 14 = .ok (.getfield 11, 3) := by decide +kernel
theorem dX1_become_17 : decode cX1_become 17 = .ok (.iconst 0, 1) := by decide +kernel
theorem dX1_become_18 : decode cX1_become 18 = .ok (.aload_n 0, 1) := by decide +kernel
theorem dX1_become_19 : decode cX1_become 19 = .ok (.getfield 11, 3) := by decide +kernel
theorem dX1_become_22 : decode cX1_become 22 = .ok (.arraylength, 1) := by decide +kernel
theorem dX1_become_23 : decode cX1_become 23 = .ok (.invokestatic 25, 3) := by decide +kernel
theorem dX1_become_26 : decode cX1_become 26 = .ok (.aload_n 1, 1) := by decide +kernel
theorem dX1_become_27 : decode cX1_become 27 = .ok (.getfield 15, 3) := by decide +kernel
theorem dX1_become_30 : decode cX1_become 30 = .ok (.iconst 0, 1) := by decide +kernel
theorem dX1_become_31 : decode cX1_become 31 = .ok (.aload_n 0, 1) := by decide +kernel
theorem dX1_become_32 : decode cX1_become 32 = .ok (.getfield 15, 3) := by decide +kernel
theorem dX1_become_35 : decode cX1_become 35 = .ok (.iconst 0, 1) := by decide +kernel
theorem dX1_become_36 : decode cX1_become 36 = .ok (.iconst 4, 1) := by decide +kernel
theorem dX1_become_37 : decode cX1_become 37 = .ok (.invokestatic 25, 3) := by decide +kernel
theorem dX1_become_40 : decode cX1_become 40 = .ok (.return_, 1) := by decide +kernel
theorem dX1_of_0 : decode cX1_of 0 = .ok (.aload_n 0, 1) := by decide +kernel
theorem dX1_of_1 : decode cX1_of 1 = .ok (.getfield 11, 3) := by decide +kernel
theorem dX1_of_4 : decode cX1_of 4 = .ok (.iload_n 2, 1) := by decide +kernel
theorem dX1_of_5 : decode cX1_of 5 = .ok (.bipush 10, 2) := by decide +kernel
theorem dX1_of_7 : decode cX1_of 7 = .ok (.imul, 1) := by decide +kernel
theorem dX1_of_8 : decode cX1_of 8 = .ok (.iload_n 1, 1) := by decide +kernel
theorem dX1_of_9 : decode cX1_of 9 = .ok (.iadd, 1) := by decide +kernel
theorem dX1_of_10 : decode cX1_of 10 = .ok (.iaload, 1) := by decide +kernel
theorem dX1_of_11 : decode cX1_of 11 = .ok (.ireturn, 1) := by decide +kernel
theorem dX1_changes_0 : decode cX1_changes 0 = .ok (.aload_n 0, 1) := by decide +kernel
theorem dX1_changes_1 : decode cX1_changes 1 = .ok (.getfield 15, 3) := by decide +kernel
theorem dX1_changes_4 : decode cX1_changes 4 = .ok (.iconst 0, 1) := by decide +kernel
theorem dX1_changes_5 : decode cX1_changes 5 = .ok (.iaload, 1) := by decide +kernel
theorem dX1_changes_6 : decode cX1_changes 6 = .ok (.ireturn, 1) := by decide +kernel
theorem dX1_tries_0 : decode cX1_tries 0 = .ok (.aload_n 0, 1) := by decide +kernel
theorem dX1_tries_1 : decode cX1_tries 1 = .ok (.getfield 15, 3) := by decide +kernel
theorem dX1_tries_4 : decode cX1_tries 4 = .ok (.iconst 1, 1) := by decide +kernel
theorem dX1_tries_5 : decode cX1_tries 5 = .ok (.iaload, 1) := by decide +kernel
theorem dX1_tries_6 : decode cX1_tries 6 = .ok (.ireturn, 1) := by decide +kernel
theorem dX1_step_0 : decode cX1_step 0 = .ok (.aload_n 0, 1) := by decide +kernel
theorem dX1_step_1 : decode cX1_step 1 = .ok (.getfield 15, 3) := by decide +kernel
theorem dX1_step_4 : decode cX1_step 4 = .ok (.iconst 2, 1) := by decide +kernel
theorem dX1_step_5 : decode cX1_step 5 = .ok (.iaload, 1) := by decide +kernel
theorem dX1_step_6 : decode cX1_step 6 = .ok (.ireturn, 1) := by decide +kernel
theorem dX1_partsByBody_0 : decode cX1_partsByBody 0 = .ok (.aload_n 0, 1) := by decide +kernel
theorem dX1_partsByBody_1 : decode cX1_partsByBody 1 = .ok (.getfield 15, 3) := by decide +kernel
theorem dX1_partsByBody_4 : decode cX1_partsByBody 4 = .ok (.iconst 3, 1) := by decide +kernel
theorem dX1_partsByBody_5 : decode cX1_partsByBody 5 = .ok (.iaload, 1) := by decide +kernel
theorem dX1_partsByBody_6 : decode cX1_partsByBody 6 = .ok (.ifCond .ne 7, 3) := by decide +kernel
theorem dX1_partsByBody_9 : decode cX1_partsByBody 9 = .ok (.iconst 1, 1) := by decide +kernel
theorem dX1_partsByBody_10 : decode cX1_partsByBody 10 = .ok (.goto 4, 3) := by decide +kernel
theorem dX1_partsByBody_13 : decode cX1_partsByBody 13 = .ok (.iconst 0, 1) := by decide +kernel
theorem dX1_partsByBody_14 : decode cX1_partsByBody 14 = .ok (.ireturn, 1) := by decide +kernel
theorem dX2_init_0 : decode cX2_init 0 = .ok (.aload_n 0, 1) := by decide +kernel
theorem dX2_init_1 : decode cX2_init 1 = .ok (.invokespecial 3, 3) := by decide +kernel
theorem dX2_init_4 : decode cX2_init 4 = .ok (.aload_n 0, 1) := by decide +kernel
theorem dX2_init_5 : decode cX2_init 5 = .ok (.new 9, 3) := by decide +kernel
theorem dX2_init_8 : decode cX2_init 8 = .ok (.dup, 1) := by decide +kernel
theorem dX2_init_9 : decode cX2_init 9 = .ok (.invokespecial 11, 3) := by decide +kernel
theorem dX2_init_12 : decode cX2_init 12 = .ok (.putfield 12, 3) := by decide +kernel
theorem dX2_init_15 : decode cX2_init 15 = .ok (.aload_n 0, 1) := by decide +kernel
theorem dX2_init_16 : decode cX2_init 16 = .ok (.aload_n 1, 1) := by decide +kernel
theorem dX2_init_17 : decode cX2_init 17 = .ok (.putfield 18, 3) := by decide +kernel
theorem dX2_init_20 : decode cX2_init 20 = .ok (.return_, 1) := by decide +kernel
theorem dX2_read_0 : decode cX2_read 0 = .ok (.aload_n 0, 1) := by decide +kernel
theorem dX2_read_1 : decode cX2_read 1 = .ok (.getfield 18, 3) := by decide +kernel
theorem dX2_read_4 : decode cX2_read 4 = .ok (.invokevirtual 22, 3) := by decide +kernel
theorem dX2_read_7 : decode cX2_read 7 = .ok (.aload_n 0, 1) := by decide +kernel
theorem dX2_read_8 : decode cX2_read 8 = .ok (.getfield 12, 3) := by decide +kernel
theorem dX2_read_11 : decode cX2_read 11 = .ok (.invokevirtual 27, 3) := by decide +kernel
theorem dX2_read_14 : decode cX2_read 14 = .ok (.aload_n 0, 1) := by decide +kernel
theorem dX2_read_15 : decode cX2_read 15 = .ok (.iconst 0, 1) := by decide +kernel
theorem dX2_read_16 : decode cX2_read 16 = .ok (.putfield 30, 3) := by decide +kernel
theorem dX2_read_19 : decode cX2_read 19 = .ok (.iconst 0, 1) := by decide +kernel
theorem dX2_read_20 : decode cX2_read 20 = .ok (.istore_n 1, 1) := by decide +kernel
theorem dX2_read_21 : decode cX2_read 21 = .ok (.iload_n 1, 1) := by decide +kernel
theorem dX2_read_22 : decode cX2_read 22 = .ok (.sipush 240, 3) := by decide +kernel
theorem dX2_read_25 : decode cX2_read 25 = .ok (.if_icmp .ge 45, 3) := by decide +kernel
theorem dX2_read_28 : decode cX2_read 28 = .ok (.aload_n 0, 1) := by decide +kernel
theorem dX2_read_29 : decode cX2_read 29 = .ok (.invokevirtual 34, 3) := by decide +kernel
theorem dX2_read_32 : decode cX2_read 32 = .ok (.aload_n 0, 1) := by decide +kernel
theorem dX2_read_33 : decode cX2_read 33 = .ok (.getfield 18, 3) := by decide +kernel
theorem dX2_read_36 : decode cX2_read 36 = .ok (.invokevirtual 37, 3) := by decide +kernel
theorem dX2_read_39 : decode cX2_read 39 = .ok (.ifCond .ne 31, 3) := by decide +kernel
theorem dX2_read_42 : decode cX2_read 42 = .ok (.aload_n 0, 1) := by decide +kernel
theorem dX2_read_43 : decode cX2_read 43 = .ok (.getfield 18, 3) := by decide +kernel
theorem dX2_read_46 : decode cX2_read 46 = .ok (.invokevirtual 41, 3) := by decide +kernel
theorem dX2_read_49 : decode cX2_read 49 = .ok (.ifCond .ne 6, 3) := by decide +kernel
theorem dX2_read_52 : decode cX2_read 52 = .ok (.goto 18, 3) := by decide +kernel
theorem dX2_read_55 : decode cX2_read 55 = .ok (.aload_n 0, 1) := by decide +kernel
theorem dX2_read_56 : decode cX2_read 56 = .ok (.getfield 18, 3) := by decide +kernel
theorem dX2_read_59 : decode cX2_read 59 = .ok (.bipush 59, 2) := by decide +kernel
theorem dX2_read_61 : decode cX2_read 61 = .ok (.invokevirtual 45, 3) := by decide +kernel
theorem dX2_read_64 : decode cX2_read 64 = .ok (.iinc 1 1, 3) := by decide +kernel
theorem dX2_read_67 : decode cX2_read 67 = .ok (.goto (-46), 3) := by decide +kernel
theorem dX2_read_70 : decode cX2_read 70 = .ok (.aload_n 0, 1) := by decide +kernel
theorem dX2_read_71 : decode cX2_read 71 = .ok (.getfield 12, 3) := by decide +kernel
theorem dX2_read_74 : decode cX2_read 74 = .ok (.getfield 49, 3) := by decide +kernel
theorem dX2_read_77 : decode cX2_read 77 = .ok (.ifCond .ne 17, 3) := by decide +kernel
theorem dX2_read_80 : decode cX2_read 80 = .ok (.aload_n 0, 1) := by decide +kernel
theorem dX2_read_81 : decode cX2_read 81 = .ok (.getfield 18, 3) := by decide +kernel
theorem dX2_read_84 : decode cX2_read 84 = .ok (.aload_n 0, 1) := by decide +kernel
theorem dX2_read_85 : decode cX2_read 85 = .ok (.getfield 18, 3) := by decide +kernel
theorem dX2_read_88 : decode cX2_read 88 = .ok (.getfield 53, 3) := by decide +kernel
theorem dX2_read_91 : decode cX2_read 91 = .ok (.invokevirtual 56, 3) := by decide +kernel
theorem dX2_read_94 : decode cX2_read 94 = .ok (.aload_n 0, 1) := by decide +kernel
theorem dX2_read_95 : decode cX2_read 95 = .ok (.getfield 18, 3) := by decide +kernel
theorem dX2_read_98 : decode cX2_read 98 = .ok (.getfield 60, 3) := by decide +kernel
theorem dX2_read_101 : decode cX2_read 101 = .ok (.ireturn, 1) := by decide +kernel
theorem dX2_readClause_0 : decode cX2_readClause 0 = .ok (.aload_n 0, 1) := by decide +kernel
theorem dX2_readClause_1 : decode cX2_readClause 1 = .ok (.getfield 18, 3) := by decide +kernel
theorem dX2_readClause_4 : decode cX2_readClause 4 = .ok (.invokevirtual 41, 3) := by decide +kernel
theorem dX2_readClause_7 : decode cX2_readClause 7 = .ok (.istore_n 1, 1) := by decide +kernel
theorem dX2_readClause_8 : decode cX2_readClause 8 = .ok (.iload_n 1, 1) := by decide +kernel
theorem dX2_readClause_9 : decode cX2_readClause 9 = .ok (.bipush 108, 2) := by decide +kernel
theorem dX2_readClause_11 : decode cX2_readClause 11 = .ok (.if_icmp .ne 73, 3) := by decide +kernel
theorem dX2_readClause_14 : decode cX2_readClause 14 = .ok (.aload_n 0, 1) := by decide +kernel
theorem dX2_readClause_15 : decode cX2_readClause 15 = .ok (.getfield 12, 3) := by decide +kernel
theorem dX2_readClause_18 : decode cX2_readClause 18 = .ok (.getfield 49, 3) := by decide +kernel
theorem dX2_readClause_21 : decode cX2_readClause 21 = .ok (.bipush 6, 2) := by decide +kernel
theorem dX2_readClause_23 : decode cX2_readClause 23 = .ok (.if_icmp .ge 61, 3) := by decide +kernel
theorem dX2_readClause_26 : decode cX2_readClause 26 = .ok (.aload_n 0, 1) := by decide +kernel
theorem dX2_readClause_27 : decode cX2_readClause 27 = .ok (.getfield 18, 3) := by decide +kernel
theorem dX2_readClause_30 : decode cX2_readClause 30 = .ok (.dup, 1) := by decide +kernel
theorem dX2_readClause_31 : decode cX2_readClause 31 = .ok (.getfield 53, 3) := by decide +kernel
theorem dX2_readClause_34 : decode cX2_readClause 34 = .ok (.iconst 1, 1) := by decide +kernel
theorem dX2_readClause_35 : decode cX2_readClause 35 = .ok (.iadd, 1) := by decide +kernel
theorem dX2_readClause_36 : decode cX2_readClause 36 = .ok (.putfield 53, 3) := by decide +kernel
theorem dX2_readClause_39 : decode cX2_readClause 39 = .ok (.aload_n 0, 1) := by decide +kernel
theorem dX2_readClause_40 : decode cX2_readClause 40 = .ok (.ldc 63, 2) := by decide +kernel
theorem dX2_readClause_42 : decode cX2_readClause 42 = .ok (.getstatic 65, 3) := by decide +kernel
theorem dX2_readClause_45 : decode cX2_readClause 45 = .ok (.getstatic 69, 3) := by decide +kernel
theorem dX2_readClause_48 : decode cX2_readClause 48 = .ok (.aload_n 0, 1) := by decide +kernel
theorem dX2_readClause_49 : decode cX2_readClause 49 = .ok (.getfield 12, 3) := by decide +kernel
theorem dX2_readClause_52 : decode cX2_readClause 52 = .ok (.getfield 72, 3) := by decide +kernel
theorem dX2_readClause_55 : decode cX2_readClause 55 = .ok (.aload_n 0, 1) := by decide +kernel
theorem dX2_readClause_56 : decode cX2_readClause 56 = .ok (.getfield 12, 3) := by decide +kernel
theorem dX2_readClause_59 : decode cX2_readClause 59 = .ok (.getfield 49, 3) := by decide +kernel
theorem dX2_readClause_62 : decode cX2_readClause 62 = .ok (.bipush 10, 2) := by decide +kernel
theorem dX2_readClause_64 : decode cX2_readClause 64 = .ok (.imul, 1) := by decide +kernel
theorem dX2_readClause_65 : decode cX2_readClause 65 = .ok (.invokevirtual 75, 3) := by decide +kernel
theorem dX2_readClause_68 : decode cX2_readClause 68 = .ok (.aload_n 0, 1) := by decide +kernel
theorem dX2_readClause_69 : decode cX2_readClause 69 = .ok (.getfield 12, 3) := by decide +kernel
theorem dX2_readClause_72 : decode cX2_readClause 72 = .ok (.dup, 1) := by decide +kernel
theorem dX2_readClause_73 : decode cX2_readClause 73 = .ok (.getfield 49, 3) := by decide +kernel
theorem dX2_readClause_76 : decode cX2_readClause 76 = .ok (.iconst 1, 1) := by decide +kernel
theorem dX2_readClause_77 : decode cX2_readClause 77 = .ok (.iadd, 1) := by decide +kernel
theorem dX2_readClause_78 : decode cX2_readClause 78 = .ok (.putfield 49, 3) := by decide +kernel
theorem dX2_readClause_81 : decode cX2_readClause 81 = .ok (.goto 71, 3) := by decide +kernel
theorem dX2_readClause_84 : decode cX2_readClause 84 = .ok (.iload_n 1, 1) := by decide +kernel
theorem dX2_readClause_85 : decode cX2_readClause 85 = .ok (.bipush 114, 2) := by decide +kernel
theorem dX2_readClause_87 : decode cX2_readClause 87 = .ok (.if_icmp .ne 51, 3) := by decide +kernel
theorem dX2_readClause_90 : decode cX2_readClause 90 = .ok (.aload_n 0, 1) := by decide +kernel
theorem dX2_readClause_91 : decode cX2_readClause 91 = .ok (.getfield 30, 3) := by decide +kernel
theorem dX2_readClause_94 : decode cX2_readClause 94 = .ok (.ifCond .ne 44, 3) := by decide +kernel
theorem dX2_readClause_97 : decode cX2_readClause 97 = .ok (.aload_n 0, 1) := by decide +kernel
theorem dX2_readClause_98 : decode cX2_readClause 98 = .ok (.getfield 18, 3) := by decide +kernel
theorem dX2_readClause_101 : decode cX2_readClause 101 = .ok (.dup, 1) := by decide +kernel
theorem dX2_readClause_102 : decode cX2_readClause 102 = .ok (.getfield 53, 3) := by decide +kernel
theorem dX2_readClause_105 : decode cX2_readClause 105 = .ok (.iconst 1, 1) := by decide +kernel
theorem dX2_readClause_106 : decode cX2_readClause 106 = .ok (.iadd, 1) := by decide +kernel
theorem dX2_readClause_107 : decode cX2_readClause 107 = .ok (.putfield 53, 3) := by decide +kernel
theorem dX2_readClause_110 : decode cX2_readClause 110 = .ok (.aload_n 0, 1) := by decide +kernel
theorem dX2_readClause_111 : decode cX2_readClause 111 = .ok (.iconst 1, 1) := by decide +kernel
theorem dX2_readClause_112 : decode cX2_readClause 112 = .ok (.putfield 30, 3) := by decide +kernel
theorem dX2_readClause_115 : decode cX2_readClause 115 = .ok (.aload_n 0, 1) := by decide +kernel
theorem dX2_readClause_116 : decode cX2_readClause 116 = .ok (.ldc 79, 2) := by decide +kernel
theorem dX2_readClause_118 : decode cX2_readClause 118 = .ok (.getstatic 81, 3) := by decide +kernel
theorem dX2_readClause_121 : decode cX2_readClause 121 = .ok (.getstatic 84, 3) := by decide +kernel
theorem dX2_readClause_124 : decode cX2_readClause 124 = .ok (.aload_n 0, 1) := by decide +kernel
theorem dX2_readClause_125 : decode cX2_readClause 125 = .ok (.getfield 12, 3) := by decide +kernel
theorem dX2_readClause_128 : decode cX2_readClause 128 = .ok (.getfield 87, 3) := by decide +kernel
theorem dX2_readClause_131 : decode cX2_readClause 131 = .ok (.iconst 0, 1) := by decide +kernel
theorem dX2_readClause_132 : decode cX2_readClause 132 = .ok (.invokevirtual 75, 3) := by decide +kernel
theorem dX2_readClause_135 : decode cX2_readClause 135 = .ok (.goto 17, 3) := by decide +kernel
theorem dX2_readClause_138 : decode cX2_readClause 138 = .ok (.aload_n 0, 1) := by decide +kernel
theorem dX2_readClause_139 : decode cX2_readClause 139 = .ok (.getfield 18, 3) := by decide +kernel
theorem dX2_readClause_142 : decode cX2_readClause 142 = .ok (.aload_n 0, 1) := by decide +kernel
theorem dX2_readClause_143 : decode cX2_readClause 143 = .ok (.getfield 18, 3) := by decide +kernel
theorem dX2_readClause_146 : decode cX2_readClause 146 = .ok (.getfield 53, 3) := by decide +kernel
theorem dX2_readClause_149 : decode cX2_readClause 149 = .ok (.invokevirtual 56, 3) := by decide +kernel
theorem dX2_readClause_152 : decode cX2_readClause 152 = .ok (.return_, 1) := by decide +kernel
theorem dX2_readItems_0 : decode cX2_readItems 0 = .ok (.iconst 0, 1) := by decide +kernel
theorem dX2_readItems_1 : decode cX2_readItems 1 = .ok (.istore 6, 2) := by decide +kernel
theorem dX2_readItems_3 : decode cX2_readItems 3 = .ok (.iconst 0, 1) := by decide +kernel
theorem dX2_readItems_4 : decode cX2_readItems 4 = .ok (.istore 7, 2) := by decide +kernel
theorem dX2_readItems_6 : decode cX2_readItems 6 = .ok (.iload 7, 2) := by decide +kernel
theorem dX2_readItems_8 : decode cX2_readItems 8 = .ok (.aload_n 1, 1) := by decide +kernel
theorem dX2_readItems_9 : decode cX2_readItems 9 = .ok (.invokevirtual 90, 3) := by decide +kernel
theorem dX2_readItems_12 : decode cX2_readItems 12 = .ok (.if_icmp .gt 157, 3) := by decide +kernel
theorem dX2_readItems_15 : decode cX2_readItems 15 = .ok (.aload_n 0, 1) := by decide +kernel
theorem dX2_readItems_16 : decode cX2_readItems 16 = .ok (.getfield 18, 3) := by decide +kernel
theorem dX2_readItems_19 : decode cX2_readItems 19 = .ok (.invokevirtual 41, 3) := by decide +kernel
theorem dX2_readItems_22 : decode cX2_readItems 22 = .ok (.istore 8, 2) := by decide +kernel
theorem dX2_readItems_24 : decode cX2_readItems 24 = .ok (.iload 8, 2) := by decide +kernel
theorem dX2_readItems_26 : decode cX2_readItems 26 = .ok (.ifCond .eq 10, 3) := by decide +kernel
theorem dX2_readItems_29 : decode cX2_readItems 29 = .ok (.iload 8, 2) := by decide +kernel
theorem dX2_readItems_31 : decode cX2_readItems 31 = .ok (.bipush 59, 2) := by decide +kernel
theorem dX2_readItems_33 : decode cX2_readItems 33 = .ok (.if_icmp .ne 4, 3) := by decide +kernel
theorem dX2_readItems_36 : decode cX2_readItems 36 = .ok (.return_, 1) := by decide +kernel
theorem dX2_readItems_37 : decode cX2_readItems 37 = .ok (.aload_n 1, 1) := by decide +kernel
theorem dX2_readItems_38 : decode cX2_readItems 38 = .ok (.iload 8, 2) := by decide +kernel
theorem dX2_readItems_40 : decode cX2_readItems 40 = .ok (.i2c, 1) := by decide +kernel
theorem dX2_readItems_41 : decode cX2_readItems 41 = .ok (.invokevirtual 95, 3) := by decide +kernel
theorem dX2_readItems_44 : decode cX2_readItems 44 = .ok (.istore 9, 2) := by decide +kernel
theorem dX2_readItems_46 : decode cX2_readItems 46 = .ok (.iload 9, 2) := by decide +kernel
theorem dX2_readItems_48 : decode cX2_readItems 48 = .ok (.ifCond .lt 13, 3) := by decide +kernel
theorem dX2_readItems_51 : decode cX2_readItems 51 = .ok (.iload 6, 2) := by decide +kernel
theorem dX2_readItems_53 : decode cX2_readItems 53 = .ok (.iload 9, 2) := by decide +kernel
theorem dX2_readItems_55 : decode cX2_readItems 55 = .ok (.ishr, 1) := by decide +kernel
theorem dX2_readItems_56 : decode cX2_readItems 56 = .ok (.iconst 1, 1) := by decide +kernel
theorem dX2_readItems_57 : decode cX2_readItems 57 = .ok (.iand, 1) := by decide +kernel
theorem dX2_readItems_58 : decode cX2_readItems 58 = .ok (.ifCond .eq 18, 3) := by decide +kernel
theorem dX2_readItems_61 : decode cX2_readItems 61 = .ok (.aload_n 0, 1) := by decide +kernel
theorem dX2_readItems_62 : decode cX2_readItems 62 = .ok (.getfield 18, 3) := by decide +kernel
theorem dX2_readItems_65 : decode cX2_readItems 65 = .ok (.aload_n 0, 1) := by decide +kernel
theorem dX2_readItems_66 : decode cX2_readItems 66 = .ok (.getfield 18, 3) := by decide +kernel
theorem dX2_readItems_69 : decode cX2_readItems 69 = .ok (.getfield 53, 3) := by decide +kernel
theorem dX2_readItems_72 : decode cX2_readItems 72 = .ok (.invokevirtual 56, 3) := by decide +kernel
theorem dX2_readItems_75 : decode cX2_readItems 75 = .ok (.return_, 1) := by decide +kernel
theorem dX2_readItems_76 : decode cX2_readItems 76 = .ok (.iload 6, 2) := by decide +kernel
theorem dX2_readItems_78 : decode cX2_readItems 78 = .ok (.iconst 1, 1) := by decide +kernel
theorem dX2_readItems_79 : decode cX2_readItems 79 = .ok (.iload 9, 2) := by decide +kernel
theorem dX2_readItems_81 : decode cX2_readItems 81 = .ok (.ishl, 1) := by decide +kernel
theorem dX2_readItems_82 : decode cX2_readItems 82 = .ok (.ior, 1) := by decide +kernel
theorem dX2_readItems_83 : decode cX2_readItems 83 = .ok (.istore 6, 2) := by decide +kernel
theorem dX2_readItems_85 : decode cX2_readItems 85 = .ok (.aload_n 0, 1) := by decide +kernel
theorem dX2_readItems_86 : decode cX2_readItems 86 = .ok (.getfield 18, 3) := by decide +kernel
theorem dX2_readItems_89 : decode cX2_readItems 89 = .ok (.dup, 1) := by decide +kernel
theorem dX2_readItems_90 : decode cX2_readItems 90 = .ok (.getfield 53, 3) := by decide +kernel
theorem dX2_readItems_93 : decode cX2_readItems 93 = .ok (.iconst 1, 1) := by decide +kernel
theorem dX2_readItems_94 : decode cX2_readItems 94 = .ok (.iadd, 1) := by decide +kernel
theorem dX2_readItems_95 : decode cX2_readItems 95 = .ok (.putfield 53, 3) := by decide +kernel
theorem dX2_readItems_98 : decode cX2_readItems 98 = .ok (.aload_n 0, 1) := by decide +kernel
theorem dX2_readItems_99 : decode cX2_readItems 99 = .ok (.getfield 18, 3) := by decide +kernel
theorem dX2_readItems_102 : decode cX2_readItems 102 = .ok (.iconst 2, 1) := by decide +kernel
theorem dX2_readItems_103 : decode cX2_readItems 103 = .ok (.invokevirtual 99, 3) := by decide +kernel
theorem dX2_readItems_106 : decode cX2_readItems 106 = .ok (.istore 10, 2) := by decide +kernel
theorem dX2_readItems_108 : decode cX2_readItems 108 = .ok (.iload 10, 2) := by decide +kernel
theorem dX2_readItems_110 : decode cX2_readItems 110 = .ok (.aload_n 2, 1) := by decide +kernel
theorem dX2_readItems_111 : decode cX2_readItems 111 = .ok (.iload 9, 2) := by decide +kernel
theorem dX2_readItems_113 : decode cX2_readItems 113 = .ok (.iaload, 1) := by decide +kernel
theorem dX2_readItems_114 : decode cX2_readItems 114 = .ok (.if_icmp .lt 12, 3) := by decide +kernel
theorem dX2_readItems_117 : decode cX2_readItems 117 = .ok (.iload 10, 2) := by decide +kernel
theorem dX2_readItems_119 : decode cX2_readItems 119 = .ok (.aload_n 3, 1) := by decide +kernel
theorem dX2_readItems_120 : decode cX2_readItems 120 = .ok (.iload 9, 2) := by decide +kernel
theorem dX2_readItems_122 : decode cX2_readItems 122 = .ok (.iaload, 1) := by decide +kernel
theorem dX2_readItems_123 : decode cX2_readItems 123 = .ok (.if_icmp .le 19, 3) := by decide +kernel
theorem dX2_readItems_126 : decode cX2_readItems 126 = .ok (.aload_n 0, 1) := by decide +kernel
theorem dX2_readItems_127 : decode cX2_readItems 127 = .ok (.getfield 18, 3) := by decide +kernel
theorem dX2_readItems_130 : decode cX2_readItems 130 = .ok (.aload_n 0, 1) := by decide +kernel
theorem dX2_readItems_131 : decode cX2_readItems 131 = .ok (.getfield 18, 3) := by decide +kernel
theorem dX2_readItems_134 : decode cX2_readItems 134 = .ok (.getfield 53, 3) := by decide +kernel
theorem dX2_readItems_137 : decode cX2_readItems 137 = .ok (.iconst 1, 1) := by decide +kernel
theorem dX2_readItems_138 : decode cX2_readItems 138 = .ok (.isub, 1) := by decide +kernel
theorem dX2_readItems_139 : decode cX2_readItems 139 = .ok (.invokevirtual 56, 3) := by decide +kernel
theorem dX2_readItems_142 : decode cX2_readItems 142 = .ok (.aload_n 0, 1) := by decide +kernel
theorem dX2_readItems_143 : decode cX2_readItems 143 = .ok (.getfield 18, 3) := by decide +kernel
theorem dX2_readItems_146 : decode cX2_readItems 146 = .ok (.invokevirtual 37, 3) := by decide +kernel
theorem dX2_readItems_149 : decode cX2_readItems 149 = .ok (.ifCond .eq 4, 3) := by decide +kernel
theorem dX2_readItems_152 : decode cX2_readItems 152 = .ok (.return_, 1) := by decide +kernel
theorem dX2_readItems_153 : decode cX2_readItems 153 = .ok (.aload 4, 2) := by decide +kernel
theorem dX2_readItems_155 : decode cX2_readItems 155 = .ok (.iload 5, 2) := by decide +kernel
theorem dX2_readItems_157 : decode cX2_readItems 157 = .ok (.iload 9, 2) := by decide +kernel
theorem dX2_readItems_159 : decode cX2_readItems 159 = .ok (.iadd, 1) := by decide +kernel
theorem dX2_readItems_160 : decode cX2_readItems 160 = .ok (.iload 10, 2) := by decide +kernel
theorem dX2_readItems_162 : decode cX2_readItems 162 = .ok (.iastore, 1) := by decide +kernel
theorem dX2_readItems_163 : decode cX2_readItems 163 = .ok (.iinc 7 1, 3) := by decide +kernel
theorem dX2_readItems_166 : decode cX2_readItems 166 = .ok (.goto (-160), 3) := by decide +kernel
theorem dX2_readItems_169 : decode cX2_readItems 169 = .ok (.return_, 1) := by decide +kernel
theorem dX3_init_0 : decode cX3_init 0 = .ok (.aload_n 0, 1) := by decide +kernel
theorem dX3_init_1 : decode cX3_init 1 = .ok (.invokespecial 3, 3) := by decide +kernel
theorem dX3_init_4 : decode cX3_init 4 = .ok (.aload_n 0, 1) := by decide +kernel
theorem dX3_init_5 : decode cX3_init 5 = .ok (.iconst 3, 1) := by decide +kernel
theorem dX3_init_6 : decode cX3_init 6 = .ok (.newarray .int, 2) := by decide +kernel
theorem dX3_init_8 : decode cX3_init 8 = .ok (.putfield 11, 3) := by decide +kernel
theorem dX3_init_11 : decode cX3_init 11 = .ok (.aload_n 0, 1) := by decide +kernel
theorem dX3_init_12 : decode cX3_init 12 = .ok (.iconst 3, 1) := by decide +kernel
theorem dX3_init_13 : decode cX3_init 13 = .ok (.newarray .int, 2) := by decide +kernel
theorem dX3_init_15 : decode cX3_init 15 = .ok (.putfield 15, 3) := by decide +kernel
theorem dX3_init_18 : decode cX3_init 18 = .ok (.aload_n 0, 1) := by decide +kernel
theorem dX3_init_19 : decode cX3_init 19 = .ok (.sipush 192, 3) := by decide +kernel
theorem dX3_init_22 : decode cX3_init 22 = .ok (.newarray .int, 2) := by decide +kernel
theorem dX3_init_24 : decode cX3_init 24 = .ok (.putfield 18, 3) := by decide +kernel
theorem dX3_init_27 : decode cX3_init 27 = .ok (.aload_n 0, 1) := by decide +kernel
theorem dX3_init_28 : decode cX3_init 28 = .ok (.aload_n 1, 1) := by decide +kernel
theorem dX3_init_29 : decode cX3_init 29 = .ok (.putfield 21, 3) := by decide +kernel
theorem dX3_init_32 : decode cX3_init 32 = .ok (.return_, 1) := by decide +kernel
theorem dX3_gather_0 : decode cX3_gather 0 = .ok (.aload_n 0, 1) := by decide +kernel
theorem dX3_gather_1 : decode cX3_gather 1 = .ok (.iconst 0, 1) := by decide +kernel
theorem dX3_gather_2 : decode cX3_gather 2 = .ok (.putfield 25, 3) := by decide +kernel
theorem dX3_gather_5 : decode cX3_gather 5 = .ok (.aload_n 0, 1) := by decide +kernel
theorem dX3_gather_6 : decode cX3_gather 6 = .ok (.getfield 21, 3) := by decide +kernel
theorem dX3_gather_9 : decode cX3_gather 9 = .ok (.getfield 29, 3) := by decide +kernel
theorem dX3_gather_12 : decode cX3_gather 12 = .ok (.ifCond .eq 11, 3) := by decide +kernel
theorem dX3_gather_15 : decode cX3_gather 15 = .ok (.aload_n 1, 1) := by decide +kernel
theorem dX3_gather_16 : decode cX3_gather 16 = .ok (.invokevirtual 32, 3) := by decide +kernel
theorem dX3_gather_19 : decode cX3_gather 19 = .ok (.iconst 1, 1) := by decide +kernel
theorem dX3_gather_20 : decode cX3_gather 20 = .ok (.if_icmp .eq 5, 3) := by decide +kernel
theorem dX3_gather_23 : decode cX3_gather 23 = .ok (.iconst 0, 1) := by decide +kernel
theorem dX3_gather_24 : decode cX3_gather 24 = .ok (.ireturn, 1) := by decide +kernel
theorem dX3_gather_25 : decode cX3_gather 25 = .ok (.iconst 0, 1) := by decide +kernel
theorem dX3_gather_26 : decode cX3_gather 26 = .ok (.istore_n 2, 1) := by decide +kernel
theorem dX3_gather_27 : decode cX3_gather 27 = .ok (.iload_n 2, 1) := by decide +kernel
theorem dX3_gather_28 : decode cX3_gather 28 = .ok (.aload_n 0, 1) := by decide +kernel
theorem dX3_gather_29 : decode cX3_gather 29 = .ok (.getfield 21, 3) := by decide +kernel
theorem dX3_gather_32 : decode cX3_gather 32 = .ok (.getfield 29, 3) := by decide +kernel
theorem dX3_gather_35 : decode cX3_gather 35 = .ok (.if_icmp .ge 70, 3) := by decide +kernel
theorem dX3_gather_38 : decode cX3_gather 38 = .ok (.aload_n 1, 1) := by decide +kernel
theorem dX3_gather_39 : decode cX3_gather 39 = .ok (.iload_n 2, 1) := by decide +kernel
theorem dX3_gather_40 : decode cX3_gather 40 = .ok (.invokevirtual 38, 3) := by decide +kernel
theorem dX3_gather_43 : decode cX3_gather 43 = .ok (.ifCond .eq 56, 3) := by decide +kernel
theorem dX3_gather_46 : decode cX3_gather 46 = .ok (.aload_n 0, 1) := by decide +kernel
theorem dX3_gather_47 : decode cX3_gather 47 = .ok (.getfield 25, 3) := by decide +kernel
theorem dX3_gather_50 : decode cX3_gather 50 = .ok (.iconst 3, 1) := by decide +kernel
theorem dX3_gather_51 : decode cX3_gather 51 = .ok (.if_icmp .ge 12, 3) := by decide +kernel
theorem dX3_gather_54 : decode cX3_gather 54 = .ok (.aload_n 1, 1) := by decide +kernel
theorem dX3_gather_55 : decode cX3_gather 55 = .ok (.iload_n 2, 1) := by decide +kernel
theorem dX3_gather_56 : decode cX3_gather 56 = .ok (.invokevirtual 42, 3) := by decide +kernel
theorem dX3_gather_59 : decode cX3_gather 59 = .ok (.iconst 1, 1) := by decide +kernel
theorem dX3_gather_60 : decode cX3_gather 60 = .ok (.if_icmp .eq 5, 3) := by decide +kernel
theorem dX3_gather_63 : decode cX3_gather 63 = .ok (.iconst 0, 1) := by decide +kernel
theorem dX3_gather_64 : decode cX3_gather 64 = .ok (.ireturn, 1) := by decide +kernel
theorem dX3_gather_65 : decode cX3_gather 65 = .ok (.aload_n 0, 1) := by decide +kernel
theorem dX3_gather_66 : decode cX3_gather 66 = .ok (.getfield 11, 3) := by decide +kernel
theorem dX3_gather_69 : decode cX3_gather 69 = .ok (.aload_n 0, 1) := by decide +kernel
theorem dX3_gather_70 : decode cX3_gather 70 = .ok (.getfield 25, 3) := by decide +kernel
theorem dX3_gather_73 : decode cX3_gather 73 = .ok (.iload_n 2, 1) := by decide +kernel
theorem dX3_gather_74 : decode cX3_gather 74 = .ok (.iastore, 1) := by decide +kernel
theorem dX3_gather_75 : decode cX3_gather 75 = .ok (.aload_n 0, 1) := by decide +kernel
theorem dX3_gather_76 : decode cX3_gather 76 = .ok (.getfield 15, 3) := by decide +kernel
theorem dX3_gather_79 : decode cX3_gather 79 = .ok (.aload_n 0, 1) := by decide +kernel
theorem dX3_gather_80 : decode cX3_gather 80 = .ok (.getfield 25, 3) := by decide +kernel
theorem dX3_gather_83 : decode cX3_gather 83 = .ok (.aload_n 1, 1) := by decide +kernel
theorem dX3_gather_84 : decode cX3_gather 84 = .ok (.iload_n 2, 1) := by decide +kernel
theorem dX3_gather_85 : decode cX3_gather 85 = .ok (.invokevirtual 46, 3) := by decide +kernel
theorem dX3_gather_88 : decode cX3_gather 88 = .ok (.iastore, 1) := by decide +kernel
theorem dX3_gather_89 : decode cX3_gather 89 = .ok (.aload_n 0, 1) := by decide +kernel
theorem dX3_gather_90 : decode cX3_gather 90 = .ok (.dup, 1) := by decide +kernel
theorem dX3_gather_91 : decode cX3_gather 91 = .ok (.getfield 25, 3) := by decide +kernel
theorem dX3_gather_94 : decode cX3_gather 94 = .ok (.iconst 1, 1) := by decide +kernel
theorem dX3_gather_95 : decode cX3_gather 95 = .ok (.iadd, 1) := by decide +kernel
theorem dX3_gather_96 : decode cX3_gather 96 = .ok (.putfield 25, 3) := by decide +kernel
theorem dX3_gather_99 : decode cX3_gather 99 = .ok (.iinc 2 1, 3) := by decide +kernel
theorem dX3_gather_102 : decode cX3_gather 102 = .ok (.goto (-75), 3) := by decide +kernel
theorem dX3_gather_105 : decode cX3_gather 105 = .ok (.aload_n 0, 1) := by decide +kernel
theorem dX3_gather_106 : decode cX3_gather 106 = .ok (.getfield 25, 3) := by decide +kernel
theorem dX3_gather_109 : decode cX3_gather 109 = .ok (.ifCond .le 7, 3) := by decide +kernel
theorem dX3_gather_112 : decode cX3_gather 112 = .ok (.iconst 1, 1) := by decide +kernel
theorem dX3_gather_113 : decode cX3_gather 113 = .ok (.goto 4, 3) := by decide +kernel
theorem dX3_gather_116 : decode cX3_gather 116 = .ok (.iconst 0, 1) := by decide +kernel
theorem dX3_gather_117 : decode cX3_gather 117 = .ok (.ireturn, 1) := by decide +kernel
theorem dX3_rows_0 : decode cX3_rows 0 = .ok (.iconst 1, 1) := by decide +kernel
theorem dX3_rows_1 : decode cX3_rows 1 = .ok (.iconst 2, 1) := by decide +kernel
theorem dX3_rows_2 : decode cX3_rows 2 = .ok (.aload_n 0, 1) := by decide +kernel
theorem dX3_rows_3 : decode cX3_rows 3 = .ok (.getfield 25, 3) := by decide +kernel
theorem dX3_rows_6 : decode cX3_rows 6 = .ok (.imul, 1) := by decide +kernel
theorem dX3_rows_7 : decode cX3_rows 7 = .ok (.ishl, 1) := by decide +kernel
theorem dX3_rows_8 : decode cX3_rows 8 = .ok (.ireturn, 1) := by decide +kernel
theorem dX3_shiftOf_0 : decode cX3_shiftOf 0 = .ok (.iconst 2, 1) := by decide +kernel
theorem dX3_shiftOf_1 : decode cX3_shiftOf 1 = .ok (.aload_n 0, 1) := by decide +kernel
theorem dX3_shiftOf_2 : decode cX3_shiftOf 2 = .ok (.getfield 25, 3) := by decide +kernel
theorem dX3_shiftOf_5 : decode cX3_shiftOf 5 = .ok (.iconst 1, 1) := by decide +kernel
theorem dX3_shiftOf_6 : decode cX3_shiftOf 6 = .ok (.isub, 1) := by decide +kernel
theorem dX3_shiftOf_7 : decode cX3_shiftOf 7 = .ok (.iload_n 1, 1) := by decide +kernel
theorem dX3_shiftOf_8 : decode cX3_shiftOf 8 = .ok (.isub, 1) := by decide +kernel
theorem dX3_shiftOf_9 : decode cX3_shiftOf 9 = .ok (.imul, 1) := by decide +kernel
theorem dX3_shiftOf_10 : decode cX3_shiftOf 10 = .ok (.ireturn, 1) := by decide +kernel
theorem dX3_digit_0 : decode cX3_digit 0 = .ok (.iload_n 1, 1) := by decide +kernel
theorem dX3_digit_1 : decode cX3_digit 1 = .ok (.aload_n 0, 1) := by decide +kernel
theorem dX3_digit_2 : decode cX3_digit 2 = .ok (.iload_n 2, 1) := by decide +kernel
theorem dX3_digit_3 : decode cX3_digit 3 = .ok (.invokevirtual 48, 3) := by decide +kernel
theorem dX3_digit_6 : decode cX3_digit 6 = .ok (.ishr, 1) := by decide +kernel
theorem dX3_digit_7 : decode cX3_digit 7 = .ok (.iconst 3, 1) := by decide +kernel
theorem dX3_digit_8 : decode cX3_digit 8 = .ok (.iand, 1) := by decide +kernel
theorem dX3_digit_9 : decode cX3_digit 9 = .ok (.ireturn, 1) := by decide +kernel
theorem dX3_weight_0 : decode cX3_weight 0 = .ok (.bipush 99, 2) := by decide +kernel
theorem dX3_weight_2 : decode cX3_weight 2 = .ok (.aload_n 0, 1) := by decide +kernel
theorem dX3_weight_3 : decode cX3_weight 3 = .ok (.getfield 15, 3) := by decide +kernel
theorem dX3_weight_6 : decode cX3_weight 6 = .ok (.iload_n 2, 1) := by decide +kernel
theorem dX3_weight_7 : decode cX3_weight 7 = .ok (.iaload, 1) := by decide +kernel
theorem dX3_weight_8 : decode cX3_weight 8 = .ok (.aload_n 0, 1) := by decide +kernel
theorem dX3_weight_9 : decode cX3_weight 9 = .ok (.iload_n 1, 1) := by decide +kernel
theorem dX3_weight_10 : decode cX3_weight 10 = .ok (.iload_n 2, 1) := by decide +kernel
theorem dX3_weight_11 : decode cX3_weight 11 = .ok (.invokevirtual 51, 3) := by decide +kernel
theorem dX3_weight_14 : decode cX3_weight 14 = .ok (.iadd, 1) := by decide +kernel
theorem dX3_weight_15 : decode cX3_weight 15 = .ok (.invokestatic 55, 3) := by decide +kernel
theorem dX3_weight_18 : decode cX3_weight 18 = .ok (.ireturn, 1) := by decide +kernel
theorem dX3_bits_0 : decode cX3_bits 0 = .ok (.iconst 0, 1) := by decide +kernel
theorem dX3_bits_1 : decode cX3_bits 1 = .ok (.istore_n 1, 1) := by decide +kernel
theorem dX3_bits_2 : decode cX3_bits 2 = .ok (.iconst 0, 1) := by decide +kernel
theorem dX3_bits_3 : decode cX3_bits 3 = .ok (.istore_n 2, 1) := by decide +kernel
theorem dX3_bits_4 : decode cX3_bits 4 = .ok (.iload_n 2, 1) := by decide +kernel
theorem dX3_bits_5 : decode cX3_bits 5 = .ok (.aload_n 0, 1) := by decide +kernel
theorem dX3_bits_6 : decode cX3_bits 6 = .ok (.getfield 25, 3) := by decide +kernel
theorem dX3_bits_9 : decode cX3_bits 9 = .ok (.if_icmp .ge 20, 3) := by decide +kernel
theorem dX3_bits_12 : decode cX3_bits 12 = .ok (.iload_n 1, 1) := by decide +kernel
theorem dX3_bits_13 : decode cX3_bits 13 = .ok (.iconst 1, 1) := by decide +kernel
theorem dX3_bits_14 : decode cX3_bits 14 = .ok (.aload_n 0, 1) := by decide +kernel
theorem dX3_bits_15 : decode cX3_bits 15 = .ok (.getfield 11, 3) := by decide +kernel
theorem dX3_bits_18 : decode cX3_bits 18 = .ok (.iload_n 2, 1) := by decide +kernel
theorem dX3_bits_19 : decode cX3_bits 19 = .ok (.iaload, 1) := by decide +kernel
theorem dX3_bits_20 : decode cX3_bits 20 = .ok (.ishl, 1) := by decide +kernel
theorem dX3_bits_21 : decode cX3_bits 21 = .ok (.ior, 1) := by decide +kernel
theorem dX3_bits_22 : decode cX3_bits 22 = .ok (.istore_n 1, 1) := by decide +kernel
theorem dX3_bits_23 : decode cX3_bits 23 = .ok (.iinc 2 1, 3) := by decide +kernel
theorem dX3_bits_26 : decode cX3_bits 26 = .ok (.goto (-22), 3) := by decide +kernel
theorem dX3_bits_29 : decode cX3_bits 29 = .ok (.iload_n 1, 1) := by decide +kernel
theorem dX3_bits_30 : decode cX3_bits 30 = .ok (.ireturn, 1) := by decide +kernel
theorem dX3_ask_0 : decode cX3_ask 0 = .ok (.iconst 0, 1) := by decide +kernel
theorem dX3_ask_1 : decode cX3_ask 1 = .ok (.istore_n 3, 1) := by decide +kernel
theorem dX3_ask_2 : decode cX3_ask 2 = .ok (.iload_n 3, 1) := by decide +kernel
theorem dX3_ask_3 : decode cX3_ask 3 = .ok (.aload_n 0, 1) := by decide +kernel
theorem dX3_ask_4 : decode cX3_ask 4 = .ok (.getfield 25, 3) := by decide +kernel
theorem dX3_ask_7 : decode cX3_ask 7 = .ok (.if_icmp .ge 25, 3) := by decide +kernel
theorem dX3_ask_10 : decode cX3_ask 10 = .ok (.aload_n 2, 1) := by decide +kernel
theorem dX3_ask_11 : decode cX3_ask 11 = .ok (.aload_n 0, 1) := by decide +kernel
theorem dX3_ask_12 : decode cX3_ask 12 = .ok (.getfield 11, 3) := by decide +kernel
theorem dX3_ask_15 : decode cX3_ask 15 = .ok (.iload_n 3, 1) := by decide +kernel
theorem dX3_ask_16 : decode cX3_ask 16 = .ok (.iaload, 1) := by decide +kernel
theorem dX3_ask_17 : decode cX3_ask 17 = .ok (.aload_n 0, 1) := by decide +kernel
theorem dX3_ask_18 : decode cX3_ask 18 = .ok (.iload_n 1, 1) := by decide +kernel
theorem dX3_ask_19 : decode cX3_ask 19 = .ok (.iload_n 3, 1) := by decide +kernel
theorem dX3_ask_20 : decode cX3_ask 20 = .ok (.invokevirtual 60, 3) := by decide +kernel
theorem dX3_ask_23 : decode cX3_ask 23 = .ok (.invokevirtual 63, 3) := by decide +kernel
theorem dX3_ask_26 : decode cX3_ask 26 = .ok (.iinc 3 1, 3) := by decide +kernel
theorem dX3_ask_29 : decode cX3_ask 29 = .ok (.goto (-27), 3) := by decide +kernel
theorem dX3_ask_32 : decode cX3_ask 32 = .ok (.return_, 1) := by decide +kernel
theorem dX3_note_0 : decode cX3_note 0 = .ok (.iconst 0, 1) := by decide +kernel
theorem dX3_note_1 : decode cX3_note 1 = .ok (.istore_n 3, 1) := by decide +kernel
theorem dX3_note_2 : decode cX3_note 2 = .ok (.iload_n 3, 1) := by decide +kernel
theorem dX3_note_3 : decode cX3_note 3 = .ok (.aload_n 0, 1) := by decide +kernel
theorem dX3_note_4 : decode cX3_note 4 = .ok (.getfield 25, 3) := by decide +kernel
theorem dX3_note_7 : decode cX3_note 7 = .ok (.if_icmp .ge 29, 3) := by decide +kernel
theorem dX3_note_10 : decode cX3_note 10 = .ok (.aload_n 0, 1) := by decide +kernel
theorem dX3_note_11 : decode cX3_note 11 = .ok (.getfield 18, 3) := by decide +kernel
theorem dX3_note_14 : decode cX3_note 14 = .ok (.iload_n 1, 1) := by decide +kernel
theorem dX3_note_15 : decode cX3_note 15 = .ok (.iconst 3, 1) := by decide +kernel
theorem dX3_note_16 : decode cX3_note 16 = .ok (.imul, 1) := by decide +kernel
theorem dX3_note_17 : decode cX3_note 17 = .ok (.iload_n 3, 1) := by decide +kernel
theorem dX3_note_18 : decode cX3_note 18 = .ok (.iadd, 1) := by decide +kernel
theorem dX3_note_19 : decode cX3_note 19 = .ok (.aload_n 2, 1) := by decide +kernel
theorem dX3_note_20 : decode cX3_note 20 = .ok (.aload_n 0, 1) := by decide +kernel
theorem dX3_note_21 : decode cX3_note 21 = .ok (.getfield 11, 3) := by decide +kernel
theorem dX3_note_24 : decode cX3_note 24 = .ok (.iload_n 3, 1) := by decide +kernel
theorem dX3_note_25 : decode cX3_note 25 = .ok (.iaload, 1) := by decide +kernel
theorem dX3_note_26 : decode cX3_note 26 = .ok (.invokevirtual 67, 3) := by decide +kernel
theorem dX3_note_29 : decode cX3_note 29 = .ok (.iastore, 1) := by decide +kernel
theorem dX3_note_30 : decode cX3_note 30 = .ok (.iinc 3 1, 3) := by decide +kernel
theorem dX3_note_33 : decode cX3_note 33 = .ok (.goto (-31), 3) := by decide +kernel
theorem dX3_note_36 : decode cX3_note 36 = .ok (.return_, 1) := by decide +kernel
theorem dX3_isAtRest_0 : decode cX3_isAtRest 0 = .ok (.iconst 0, 1) := by decide +kernel
theorem dX3_isAtRest_1 : decode cX3_isAtRest 1 = .ok (.istore_n 2, 1) := by decide +kernel
theorem dX3_isAtRest_2 : decode cX3_isAtRest 2 = .ok (.iload_n 2, 1) := by decide +kernel
theorem dX3_isAtRest_3 : decode cX3_isAtRest 3 = .ok (.aload_n 0, 1) := by decide +kernel
theorem dX3_isAtRest_4 : decode cX3_isAtRest 4 = .ok (.getfield 25, 3) := by decide +kernel
theorem dX3_isAtRest_7 : decode cX3_isAtRest 7 = .ok (.if_icmp .ge 74, 3) := by decide +kernel
theorem dX3_isAtRest_10 : decode cX3_isAtRest 10 = .ok (.iload_n 1, 1) := by decide +kernel
theorem dX3_isAtRest_11 : decode cX3_isAtRest 11 = .ok (.iconst 3, 1) := by decide +kernel
theorem dX3_isAtRest_12 : decode cX3_isAtRest 12 = .ok (.aload_n 0, 1) := by decide +kernel
theorem dX3_isAtRest_13 : decode cX3_isAtRest 13 = .ok (.iload_n 2, 1) := by decide +kernel
theorem dX3_isAtRest_14 : decode cX3_isAtRest 14 = .ok (.invokevirtual 48, 3) := by decide +kernel
theorem dX3_isAtRest_17 : decode cX3_isAtRest 17 = .ok (.ishl, 1) := by decide +kernel
theorem dX3_isAtRest_18 : decode cX3_isAtRest 18 = .ok (.iconst (-1), 1) := by decide +kernel
theorem dX3_isAtRest_19 : decode cX3_isAtRest 19 = .ok (.ixor, 1) := by decide +kernel
theorem dX3_isAtRest_20 : decode cX3_isAtRest 20 = .ok (.iand, 1) := by decide +kernel
theorem dX3_isAtRest_21 : decode cX3_isAtRest 21 = .ok (.istore_n 3, 1) := by decide +kernel
theorem dX3_isAtRest_22 : decode cX3_isAtRest 22 = .ok (.iconst 0, 1) := by decide +kernel
theorem dX3_isAtRest_23 : decode cX3_isAtRest 23 = .ok (.istore 4, 2) := by decide +kernel
theorem dX3_isAtRest_25 : decode cX3_isAtRest 25 = .ok (.iload 4, 2) := by decide +kernel
theorem dX3_isAtRest_27 : decode cX3_isAtRest 27 = .ok (.iconst 4, 1) := by decide +kernel
theorem dX3_isAtRest_28 : decode cX3_isAtRest 28 = .ok (.if_icmp .ge 47, 3) := by decide +kernel
theorem dX3_isAtRest_31 : decode cX3_isAtRest 31 = .ok (.iload_n 3, 1) := by decide +kernel
theorem dX3_isAtRest_32 : decode cX3_isAtRest 32 = .ok (.iload 4, 2) := by decide +kernel
theorem dX3_isAtRest_34 : decode cX3_isAtRest 34 = .ok (.aload_n 0, 1) := by decide +kernel
theorem dX3_isAtRest_35 : decode cX3_isAtRest 35 = .ok (.iload_n 2, 1) := by decide +kernel
theorem dX3_isAtRest_36 : decode cX3_isAtRest 36 = .ok (.invokevirtual 48, 3) := by decide +kernel
theorem dX3_isAtRest_39 : decode cX3_isAtRest 39 = .ok (.ishl, 1) := by decide +kernel
theorem dX3_isAtRest_40 : decode cX3_isAtRest 40 = .ok (.ior, 1) := by decide +kernel
theorem dX3_isAtRest_41 : decode cX3_isAtRest 41 = .ok (.istore 5, 2) := by decide +kernel
theorem dX3_isAtRest_43 : decode cX3_isAtRest 43 = .ok (.aload_n 0, 1) := by decide +kernel
theorem dX3_isAtRest_44 : decode cX3_isAtRest 44 = .ok (.getfield 18, 3) := by decide +kernel
theorem dX3_isAtRest_47 : decode cX3_isAtRest 47 = .ok (.iload 5, 2) := by decide +kernel
theorem dX3_isAtRest_49 : decode cX3_isAtRest 49 = .ok (.iconst 3, 1) := by decide +kernel
theorem dX3_isAtRest_50 : decode cX3_isAtRest 50 = .ok (.imul, 1) := by decide +kernel
theorem dX3_isAtRest_51 : decode cX3_isAtRest 51 = .ok (.iload_n 2, 1) := by decide +kernel
theorem dX3_isAtRest_52 : decode cX3_isAtRest 52 = .ok (.iadd, 1) := by decide +kernel
theorem dX3_isAtRest_53 : decode cX3_isAtRest 53 = .ok (.iaload, 1) := by decide +kernel
theorem dX3_isAtRest_54 : decode cX3_isAtRest 54 = .ok (.aload_n 0, 1) := by decide +kernel
theorem dX3_isAtRest_55 : decode cX3_isAtRest 55 = .ok (.getfield 18, 3) := by decide +kernel
theorem dX3_isAtRest_58 : decode cX3_isAtRest 58 = .ok (.iload_n 1, 1) := by decide +kernel
theorem dX3_isAtRest_59 : decode cX3_isAtRest 59 = .ok (.iconst 3, 1) := by decide +kernel
theorem dX3_isAtRest_60 : decode cX3_isAtRest 60 = .ok (.imul, 1) := by decide +kernel
theorem dX3_isAtRest_61 : decode cX3_isAtRest 61 = .ok (.iload_n 2, 1) := by decide +kernel
theorem dX3_isAtRest_62 : decode cX3_isAtRest 62 = .ok (.iadd, 1) := by decide +kernel
theorem dX3_isAtRest_63 : decode cX3_isAtRest 63 = .ok (.iaload, 1) := by decide +kernel
theorem dX3_isAtRest_64 : decode cX3_isAtRest 64 = .ok (.if_icmp .le 5, 3) := by decide +kernel
theorem dX3_isAtRest_67 : decode cX3_isAtRest 67 = .ok (.iconst 0, 1) := by decide +kernel
theorem dX3_isAtRest_68 : decode cX3_isAtRest 68 = .ok (.ireturn, 1) := by decide +kernel
theorem dX3_isAtRest_69 : decode cX3_isAtRest 69 = .ok (.iinc 4 1, 3) := by decide +kernel
theorem dX3_isAtRest_72 : decode cX3_isAtRest 72 = .ok (.goto (-47), 3) := by decide +kernel
theorem dX3_isAtRest_75 : decode cX3_isAtRest 75 = .ok (.iinc 2 1, 3) := by decide +kernel
theorem dX3_isAtRest_78 : decode cX3_isAtRest 78 = .ok (.goto (-76), 3) := by decide +kernel
theorem dX3_isAtRest_81 : decode cX3_isAtRest 81 = .ok (.iconst 1, 1) := by decide +kernel
theorem dX3_isAtRest_82 : decode cX3_isAtRest 82 = .ok (.ireturn, 1) := by decide +kernel
theorem dX3_asDigits_0 : decode cX3_asDigits 0 = .ok (.iconst 0, 1) := by decide +kernel
theorem dX3_asDigits_1 : decode cX3_asDigits 1 = .ok (.istore_n 2, 1) := by decide +kernel
theorem dX3_asDigits_2 : decode cX3_asDigits 2 = .ok (.iconst 0, 1) := by decide +kernel
theorem dX3_asDigits_3 : decode cX3_asDigits 3 = .ok (.istore_n 3, 1) := by decide +kernel
theorem dX3_asDigits_4 : decode cX3_asDigits 4 = .ok (.iload_n 3, 1) := by decide +kernel
theorem dX3_asDigits_5 : decode cX3_asDigits 5 = .ok (.aload_n 0, 1) := by decide +kernel
theorem dX3_asDigits_6 : decode cX3_asDigits 6 = .ok (.getfield 25, 3) := by decide +kernel
theorem dX3_asDigits_9 : decode cX3_asDigits 9 = .ok (.if_icmp .ge 21, 3) := by decide +kernel
theorem dX3_asDigits_12 : decode cX3_asDigits 12 = .ok (.iload_n 2, 1) := by decide +kernel
theorem dX3_asDigits_13 : decode cX3_asDigits 13 = .ok (.bipush 10, 2) := by decide +kernel
theorem dX3_asDigits_15 : decode cX3_asDigits 15 = .ok (.imul, 1) := by decide +kernel
theorem dX3_asDigits_16 : decode cX3_asDigits 16 = .ok (.aload_n 0, 1) := by decide +kernel
theorem dX3_asDigits_17 : decode cX3_asDigits 17 = .ok (.iload_n 1, 1) := by decide +kernel
theorem dX3_asDigits_18 : decode cX3_asDigits 18 = .ok (.iload_n 3, 1) := by decide +kernel
theorem dX3_asDigits_19 : decode cX3_asDigits 19 = .ok (.invokevirtual 51, 3) := by decide +kernel
theorem dX3_asDigits_22 : decode cX3_asDigits 22 = .ok (.iadd, 1) := by decide +kernel
theorem dX3_asDigits_23 : decode cX3_asDigits 23 = .ok (.istore_n 2, 1) := by decide +kernel
theorem dX3_asDigits_24 : decode cX3_asDigits 24 = .ok (.iinc 3 1, 3) := by decide +kernel
theorem dX3_asDigits_27 : decode cX3_asDigits 27 = .ok (.goto (-23), 3) := by decide +kernel
theorem dX3_asDigits_30 : decode cX3_asDigits 30 = .ok (.iload_n 2, 1) := by decide +kernel
theorem dX3_asDigits_31 : decode cX3_asDigits 31 = .ok (.ireturn, 1) := by decide +kernel
theorem dX3_answer_0 : decode cX3_answer 0 = .ok (.iconst 0, 1) := by decide +kernel
theorem dX3_answer_1 : decode cX3_answer 1 = .ok (.istore_n 2, 1) := by decide +kernel
theorem dX3_answer_2 : decode cX3_answer 2 = .ok (.iconst 0, 1) := by decide +kernel
theorem dX3_answer_3 : decode cX3_answer 3 = .ok (.istore_n 3, 1) := by decide +kernel
theorem dX3_answer_4 : decode cX3_answer 4 = .ok (.iload_n 3, 1) := by decide +kernel
theorem dX3_answer_5 : decode cX3_answer 5 = .ok (.aload_n 0, 1) := by decide +kernel
theorem dX3_answer_6 : decode cX3_answer 6 = .ok (.invokevirtual 72, 3) := by decide +kernel
theorem dX3_answer_9 : decode cX3_answer 9 = .ok (.if_icmp .ge 31, 3) := by decide +kernel
theorem dX3_answer_12 : decode cX3_answer 12 = .ok (.aload_n 0, 1) := by decide +kernel
theorem dX3_answer_13 : decode cX3_answer 13 = .ok (.iload_n 3, 1) := by decide +kernel
theorem dX3_answer_14 : decode cX3_answer 14 = .ok (.invokevirtual 75, 3) := by decide +kernel
theorem dX3_answer_17 : decode cX3_answer 17 = .ok (.ifCond .eq 17, 3) := by decide +kernel
theorem dX3_answer_20 : decode cX3_answer 20 = .ok (.iload_n 2, 1) := by decide +kernel
theorem dX3_answer_21 : decode cX3_answer 21 = .ok (.iload_n 1, 1) := by decide +kernel
theorem dX3_answer_22 : decode cX3_answer 22 = .ok (.if_icmp .ne 9, 3) := by decide +kernel
theorem dX3_answer_25 : decode cX3_answer 25 = .ok (.aload_n 0, 1) := by decide +kernel
theorem dX3_answer_26 : decode cX3_answer 26 = .ok (.iload_n 3, 1) := by decide +kernel
theorem dX3_answer_27 : decode cX3_answer 27 = .ok (.invokevirtual 78, 3) := by decide +kernel
theorem dX3_answer_30 : decode cX3_answer 30 = .ok (.ireturn, 1) := by decide +kernel
theorem dX3_answer_31 : decode cX3_answer 31 = .ok (.iinc 2 1, 3) := by decide +kernel
theorem dX3_answer_34 : decode cX3_answer 34 = .ok (.iinc 3 1, 3) := by decide +kernel
theorem dX3_answer_37 : decode cX3_answer 37 = .ok (.goto (-33), 3) := by decide +kernel
theorem dX3_answer_40 : decode cX3_answer 40 = .ok (.iload_n 1, 1) := by decide +kernel
theorem dX3_answer_41 : decode cX3_answer 41 = .ok (.iconst (-1), 1) := by decide +kernel
theorem dX3_answer_42 : decode cX3_answer 42 = .ok (.if_icmp .ne 7, 3) := by decide +kernel
theorem dX3_answer_45 : decode cX3_answer 45 = .ok (.iload_n 2, 1) := by decide +kernel
theorem dX3_answer_46 : decode cX3_answer 46 = .ok (.goto 4, 3) := by decide +kernel
theorem dX3_answer_49 : decode cX3_answer 49 = .ok (.iconst (-1), 1) := by decide +kernel
theorem dX3_answer_50 : decode cX3_answer 50 = .ok (.ireturn, 1) := by decide +kernel
theorem dX4_init_0 : decode cX4_init 0 = .ok (.aload_n 0, 1) := by decide +kernel
theorem dX4_init_1 : decode cX4_init 1 = .ok (.invokespecial 3, 3) := by decide +kernel
theorem dX4_init_4 : decode cX4_init 4 = .ok (.aload_n 0, 1) := by decide +kernel
theorem dX4_init_5 : decode cX4_init 5 = .ok (.sipush 240, 3) := by decide +kernel
theorem dX4_init_8 : decode cX4_init 8 = .ok (.newarray .int, 2) := by decide +kernel
theorem dX4_init_10 : decode cX4_init 10 = .ok (.putfield 9, 3) := by decide +kernel
theorem dX4_init_13 : decode cX4_init 13 = .ok (.aload_n 0, 1) := by decide +kernel
theorem dX4_init_14 : decode cX4_init 14 = .ok (.aload_n 1, 1) := by decide +kernel
theorem dX4_init_15 : decode cX4_init 15 = .ok (.putfield 15, 3) := by decide +kernel
theorem dX4_init_18 : decode cX4_init 18 = .ok (.return_, 1) := by decide +kernel
theorem dX4_read_0 : decode cX4_read 0 = .ok (.aload_n 0, 1) := by decide +kernel
theorem dX4_read_1 : decode cX4_read 1 = .ok (.getfield 15, 3) := by decide +kernel
theorem dX4_read_4 : decode cX4_read 4 = .ok (.invokevirtual 19, 3) := by decide +kernel
theorem dX4_read_7 : decode cX4_read 7 = .ok (.aload_n 0, 1) := by decide +kernel
theorem dX4_read_8 : decode cX4_read 8 = .ok (.iconst 0, 1) := by decide +kernel
theorem dX4_read_9 : decode cX4_read 9 = .ok (.putfield 24, 3) := by decide +kernel
theorem dX4_read_12 : decode cX4_read 12 = .ok (.iconst 0, 1) := by decide +kernel
theorem dX4_read_13 : decode cX4_read 13 = .ok (.istore_n 1, 1) := by decide +kernel
theorem dX4_read_14 : decode cX4_read 14 = .ok (.iload_n 1, 1) := by decide +kernel
theorem dX4_read_15 : decode cX4_read 15 = .ok (.sipush 240, 3) := by decide +kernel
theorem dX4_read_18 : decode cX4_read 18 = .ok (.if_icmp .ge 45, 3) := by decide +kernel
theorem dX4_read_21 : decode cX4_read 21 = .ok (.aload_n 0, 1) := by decide +kernel
theorem dX4_read_22 : decode cX4_read 22 = .ok (.invokevirtual 28, 3) := by decide +kernel
theorem dX4_read_25 : decode cX4_read 25 = .ok (.aload_n 0, 1) := by decide +kernel
theorem dX4_read_26 : decode cX4_read 26 = .ok (.getfield 15, 3) := by decide +kernel
theorem dX4_read_29 : decode cX4_read 29 = .ok (.invokevirtual 31, 3) := by decide +kernel
theorem dX4_read_32 : decode cX4_read 32 = .ok (.ifCond .ne 31, 3) := by decide +kernel
theorem dX4_read_35 : decode cX4_read 35 = .ok (.aload_n 0, 1) := by decide +kernel
theorem dX4_read_36 : decode cX4_read 36 = .ok (.getfield 15, 3) := by decide +kernel
theorem dX4_read_39 : decode cX4_read 39 = .ok (.invokevirtual 35, 3) := by decide +kernel
theorem dX4_read_42 : decode cX4_read 42 = .ok (.ifCond .ne 6, 3) := by decide +kernel
theorem dX4_read_45 : decode cX4_read 45 = .ok (.goto 18, 3) := by decide +kernel
theorem dX4_read_48 : decode cX4_read 48 = .ok (.aload_n 0, 1) := by decide +kernel
theorem dX4_read_49 : decode cX4_read 49 = .ok (.getfield 15, 3) := by decide +kernel
theorem dX4_read_52 : decode cX4_read 52 = .ok (.bipush 59, 2) := by decide +kernel
theorem dX4_read_54 : decode cX4_read 54 = .ok (.invokevirtual 39, 3) := by decide +kernel
theorem dX4_read_57 : decode cX4_read 57 = .ok (.iinc 1 1, 3) := by decide +kernel
theorem dX4_read_60 : decode cX4_read 60 = .ok (.goto (-46), 3) := by decide +kernel
theorem dX4_read_63 : decode cX4_read 63 = .ok (.aload_n 0, 1) := by decide +kernel
theorem dX4_read_64 : decode cX4_read 64 = .ok (.getfield 15, 3) := by decide +kernel
theorem dX4_read_67 : decode cX4_read 67 = .ok (.getfield 43, 3) := by decide +kernel
theorem dX4_read_70 : decode cX4_read 70 = .ok (.ireturn, 1) := by decide +kernel
theorem dX4_readClause_0 : decode cX4_readClause 0 = .ok (.aload_n 0, 1) := by decide +kernel
theorem dX4_readClause_1 : decode cX4_readClause 1 = .ok (.getfield 15, 3) := by decide +kernel
theorem dX4_readClause_4 : decode cX4_readClause 4 = .ok (.bipush 121, 2) := by decide +kernel
theorem dX4_readClause_6 : decode cX4_readClause 6 = .ok (.invokevirtual 39, 3) := by decide +kernel
theorem dX4_readClause_9 : decode cX4_readClause 9 = .ok (.aload_n 0, 1) := by decide +kernel
theorem dX4_readClause_10 : decode cX4_readClause 10 = .ok (.getfield 15, 3) := by decide +kernel
theorem dX4_readClause_13 : decode cX4_readClause 13 = .ok (.bipush 58, 2) := by decide +kernel
theorem dX4_readClause_15 : decode cX4_readClause 15 = .ok (.invokevirtual 39, 3) := by decide +kernel
theorem dX4_readClause_18 : decode cX4_readClause 18 = .ok (.aload_n 0, 1) := by decide +kernel
theorem dX4_readClause_19 : decode cX4_readClause 19 = .ok (.getfield 15, 3) := by decide +kernel
theorem dX4_readClause_22 : decode cX4_readClause 22 = .ok (.invokevirtual 35, 3) := by decide +kernel
theorem dX4_readClause_25 : decode cX4_readClause 25 = .ok (.istore_n 1, 1) := by decide +kernel
theorem dX4_readClause_26 : decode cX4_readClause 26 = .ok (.iload_n 1, 1) := by decide +kernel
theorem dX4_readClause_27 : decode cX4_readClause 27 = .ok (.bipush 33, 2) := by decide +kernel
theorem dX4_readClause_29 : decode cX4_readClause 29 = .ok (.if_icmp .eq 13, 3) := by decide +kernel
theorem dX4_readClause_32 : decode cX4_readClause 32 = .ok (.iload_n 1, 1) := by decide +kernel
theorem dX4_readClause_33 : decode cX4_readClause 33 = .ok (.bipush 40, 2) := by decide +kernel
theorem dX4_readClause_35 : decode cX4_readClause 35 = .ok (.if_icmp .eq 7, 3) := by decide +kernel
theorem dX4_readClause_38 : decode cX4_readClause 38 = .ok (.iconst 1, 1) := by decide +kernel
theorem dX4_readClause_39 : decode cX4_readClause 39 = .ok (.goto 4, 3) := by decide +kernel
theorem dX4_readClause_42 : decode cX4_readClause 42 = .ok (.iconst 0, 1) := by decide +kernel
theorem dX4_readClause_43 : decode cX4_readClause 43 = .ok (.istore_n 2, 1) := by decide +kernel
theorem dX4_readClause_44 : decode cX4_readClause 44 = .ok (.iload_n 2, 1) := by decide +kernel
theorem dX4_readClause_45 : decode cX4_readClause 45 = .ok (.ifCond .eq 16, 3) := by decide +kernel
theorem dX4_readClause_48 : decode cX4_readClause 48 = .ok (.aload_n 0, 1) := by decide +kernel
theorem dX4_readClause_49 : decode cX4_readClause 49 = .ok (.iconst 0, 1) := by decide +kernel
theorem dX4_readClause_50 : decode cX4_readClause 50 = .ok (.invokevirtual 46, 3) := by decide +kernel
theorem dX4_readClause_53 : decode cX4_readClause 53 = .ok (.aload_n 0, 1) := by decide +kernel
theorem dX4_readClause_54 : decode cX4_readClause 54 = .ok (.getfield 15, 3) := by decide +kernel
theorem dX4_readClause_57 : decode cX4_readClause 57 = .ok (.invokevirtual 35, 3) := by decide +kernel
theorem dX4_readClause_60 : decode cX4_readClause 60 = .ok (.istore_n 1, 1) := by decide +kernel
theorem dX4_readClause_61 : decode cX4_readClause 61 = .ok (.iload_n 2, 1) := by decide +kernel
theorem dX4_readClause_62 : decode cX4_readClause 62 = .ok (.ifCond .eq 10, 3) := by decide +kernel
theorem dX4_readClause_65 : decode cX4_readClause 65 = .ok (.iload_n 1, 1) := by decide +kernel
theorem dX4_readClause_66 : decode cX4_readClause 66 = .ok (.invokestatic 50, 3) := by decide +kernel
theorem dX4_readClause_69 : decode cX4_readClause 69 = .ok (.ifCond .eq 29, 3) := by decide +kernel
theorem dX4_readClause_72 : decode cX4_readClause 72 = .ok (.aload_n 0, 1) := by decide +kernel
theorem dX4_readClause_73 : decode cX4_readClause 73 = .ok (.iconst 0, 1) := by decide +kernel
theorem dX4_readClause_74 : decode cX4_readClause 74 = .ok (.iload_n 2, 1) := by decide +kernel
theorem dX4_readClause_75 : decode cX4_readClause 75 = .ok (.invokevirtual 54, 3) := by decide +kernel
theorem dX4_readClause_78 : decode cX4_readClause 78 = .ok (.aload_n 0, 1) := by decide +kernel
theorem dX4_readClause_79 : decode cX4_readClause 79 = .ok (.getfield 15, 3) := by decide +kernel
theorem dX4_readClause_82 : decode cX4_readClause 82 = .ok (.bipush 63, 2) := by decide +kernel
theorem dX4_readClause_84 : decode cX4_readClause 84 = .ok (.invokevirtual 39, 3) := by decide +kernel
theorem dX4_readClause_87 : decode cX4_readClause 87 = .ok (.aload_n 0, 1) := by decide +kernel
theorem dX4_readClause_88 : decode cX4_readClause 88 = .ok (.bipush (-63), 2) := by decide +kernel
theorem dX4_readClause_90 : decode cX4_readClause 90 = .ok (.invokevirtual 58, 3) := by decide +kernel
theorem dX4_readClause_93 : decode cX4_readClause 93 = .ok (.aload_n 0, 1) := by decide +kernel
theorem dX4_readClause_94 : decode cX4_readClause 94 = .ok (.iconst 0, 1) := by decide +kernel
theorem dX4_readClause_95 : decode cX4_readClause 95 = .ok (.invokevirtual 46, 3) := by decide +kernel
theorem dX4_readClause_98 : decode cX4_readClause 98 = .ok (.aload_n 0, 1) := by decide +kernel
theorem dX4_readClause_99 : decode cX4_readClause 99 = .ok (.bipush (-59), 2) := by decide +kernel
theorem dX4_readClause_101 : decode cX4_readClause 101 = .ok (.invokevirtual 58, 3) := by decide +kernel
theorem dX4_readClause_104 : decode cX4_readClause 104 = .ok (.return_, 1) := by decide +kernel
theorem dX4_readCondition_0 : decode cX4_readCondition 0 = .ok (.aload_n 0, 1) := by decide +kernel
theorem dX4_readCondition_1 : decode cX4_readCondition 1 = .ok (.iload_n 1, 1) := by decide +kernel
theorem dX4_readCondition_2 : decode cX4_readCondition 2 = .ok (.iload_n 2, 1) := by decide +kernel
theorem dX4_readCondition_3 : decode cX4_readCondition 3 = .ok (.invokevirtual 61, 3) := by decide +kernel
theorem dX4_readCondition_6 : decode cX4_readCondition 6 = .ok (.iconst 0, 1) := by decide +kernel
theorem dX4_readCondition_7 : decode cX4_readCondition 7 = .ok (.istore_n 3, 1) := by decide +kernel
theorem dX4_readCondition_8 : decode cX4_readCondition 8 = .ok (.iload_n 3, 1) := by decide +kernel
theorem dX4_readCondition_9 : decode cX4_readCondition 9 = .ok (.sipush 240, 3) := by decide +kernel
theorem dX4_readCondition_12 : decode cX4_readCondition 12 = .ok (.if_icmp .ge 56, 3) := by decide +kernel
theorem dX4_readCondition_15 : decode cX4_readCondition 15 = .ok (.aload_n 0, 1) := by decide +kernel
theorem dX4_readCondition_16 : decode cX4_readCondition 16 = .ok (.getfield 15, 3) := by decide +kernel
theorem dX4_readCondition_19 : decode cX4_readCondition 19 = .ok (.invokevirtual 31, 3) := by decide +kernel
theorem dX4_readCondition_22 : decode cX4_readCondition 22 = .ok (.ifCond .ne 46, 3) := by decide +kernel
theorem dX4_readCondition_25 : decode cX4_readCondition 25 = .ok (.aload_n 0, 1) := by decide +kernel
theorem dX4_readCondition_26 : decode cX4_readCondition 26 = .ok (.getfield 15, 3) := by decide +kernel
theorem dX4_readCondition_29 : decode cX4_readCondition 29 = .ok (.invokevirtual 35, 3) := by decide +kernel
theorem dX4_readCondition_32 : decode cX4_readCondition 32 = .ok (.bipush 124, 2) := by decide +kernel
theorem dX4_readCondition_34 : decode cX4_readCondition 34 = .ok (.if_icmp .ne 34, 3) := by decide +kernel
theorem dX4_readCondition_37 : decode cX4_readCondition 37 = .ok (.aload_n 0, 1) := by decide +kernel
theorem dX4_readCondition_38 : decode cX4_readCondition 38 = .ok (.getfield 15, 3) := by decide +kernel
theorem dX4_readCondition_41 : decode cX4_readCondition 41 = .ok (.dup, 1) := by decide +kernel
theorem dX4_readCondition_42 : decode cX4_readCondition 42 = .ok (.getfield 64, 3) := by decide +kernel
theorem dX4_readCondition_45 : decode cX4_readCondition 45 = .ok (.iconst 1, 1) := by decide +kernel
theorem dX4_readCondition_46 : decode cX4_readCondition 46 = .ok (.iadd, 1) := by decide +kernel
theorem dX4_readCondition_47 : decode cX4_readCondition 47 = .ok (.putfield 64, 3) := by decide +kernel
theorem dX4_readCondition_50 : decode cX4_readCondition 50 = .ok (.aload_n 0, 1) := by decide +kernel
theorem dX4_readCondition_51 : decode cX4_readCondition 51 = .ok (.iload_n 1, 1) := by decide +kernel
theorem dX4_readCondition_52 : decode cX4_readCondition 52 = .ok (.iconst 0, 1) := by decide +kernel
theorem dX4_readCondition_53 : decode cX4_readCondition 53 = .ok (.invokevirtual 61, 3) := by decide +kernel
theorem dX4_readCondition_56 : decode cX4_readCondition 56 = .ok (.aload_n 0, 1) := by decide +kernel
theorem dX4_readCondition_57 : decode cX4_readCondition 57 = .ok (.bipush (-124), 2) := by decide +kernel
theorem dX4_readCondition_59 : decode cX4_readCondition 59 = .ok (.invokevirtual 58, 3) := by decide +kernel
theorem dX4_readCondition_62 : decode cX4_readCondition 62 = .ok (.iinc 3 1, 3) := by decide +kernel
theorem dX4_readCondition_65 : decode cX4_readCondition 65 = .ok (.goto (-57), 3) := by decide +kernel
theorem dX4_readCondition_68 : decode cX4_readCondition 68 = .ok (.return_, 1) := by decide +kernel
theorem dX4_readTruth_0 : decode cX4_readTruth 0 = .ok (.aload_n 0, 1) := by decide +kernel
theorem dX4_readTruth_1 : decode cX4_readTruth 1 = .ok (.iload_n 1, 1) := by decide +kernel
theorem dX4_readTruth_2 : decode cX4_readTruth 2 = .ok (.iload_n 2, 1) := by decide +kernel
theorem dX4_readTruth_3 : decode cX4_readTruth 3 = .ok (.invokevirtual 67, 3) := by decide +kernel
theorem dX4_readTruth_6 : decode cX4_readTruth 6 = .ok (.iconst 0, 1) := by decide +kernel
theorem dX4_readTruth_7 : decode cX4_readTruth 7 = .ok (.istore_n 3, 1) := by decide +kernel
theorem dX4_readTruth_8 : decode cX4_readTruth 8 = .ok (.iload_n 3, 1) := by decide +kernel
theorem dX4_readTruth_9 : decode cX4_readTruth 9 = .ok (.sipush 240, 3) := by decide +kernel
theorem dX4_readTruth_12 : decode cX4_readTruth 12 = .ok (.if_icmp .ge 56, 3) := by decide +kernel
theorem dX4_readTruth_15 : decode cX4_readTruth 15 = .ok (.aload_n 0, 1) := by decide +kernel
theorem dX4_readTruth_16 : decode cX4_readTruth 16 = .ok (.getfield 15, 3) := by decide +kernel
theorem dX4_readTruth_19 : decode cX4_readTruth 19 = .ok (.invokevirtual 31, 3) := by decide +kernel
theorem dX4_readTruth_22 : decode cX4_readTruth 22 = .ok (.ifCond .ne 46, 3) := by decide +kernel
theorem dX4_readTruth_25 : decode cX4_readTruth 25 = .ok (.aload_n 0, 1) := by decide +kernel
theorem dX4_readTruth_26 : decode cX4_readTruth 26 = .ok (.getfield 15, 3) := by decide +kernel
theorem dX4_readTruth_29 : decode cX4_readTruth 29 = .ok (.invokevirtual 35, 3) := by decide +kernel
theorem dX4_readTruth_32 : decode cX4_readTruth 32 = .ok (.bipush 38, 2) := by decide +kernel
theorem dX4_readTruth_34 : decode cX4_readTruth 34 = .ok (.if_icmp .ne 34, 3) := by decide +kernel
theorem dX4_readTruth_37 : decode cX4_readTruth 37 = .ok (.aload_n 0, 1) := by decide +kernel
theorem dX4_readTruth_38 : decode cX4_readTruth 38 = .ok (.getfield 15, 3) := by decide +kernel
theorem dX4_readTruth_41 : decode cX4_readTruth 41 = .ok (.dup, 1) := by decide +kernel
theorem dX4_readTruth_42 : decode cX4_readTruth 42 = .ok (.getfield 64, 3) := by decide +kernel
theorem dX4_readTruth_45 : decode cX4_readTruth 45 = .ok (.iconst 1, 1) := by decide +kernel
theorem dX4_readTruth_46 : decode cX4_readTruth 46 = .ok (.iadd, 1) := by decide +kernel
theorem dX4_readTruth_47 : decode cX4_readTruth 47 = .ok (.putfield 64, 3) := by decide +kernel
theorem dX4_readTruth_50 : decode cX4_readTruth 50 = .ok (.aload_n 0, 1) := by decide +kernel
theorem dX4_readTruth_51 : decode cX4_readTruth 51 = .ok (.iload_n 1, 1) := by decide +kernel
theorem dX4_readTruth_52 : decode cX4_readTruth 52 = .ok (.iconst 0, 1) := by decide +kernel
theorem dX4_readTruth_53 : decode cX4_readTruth 53 = .ok (.invokevirtual 67, 3) := by decide +kernel
theorem dX4_readTruth_56 : decode cX4_readTruth 56 = .ok (.aload_n 0, 1) := by decide +kernel
theorem dX4_readTruth_57 : decode cX4_readTruth 57 = .ok (.bipush (-38), 2) := by decide +kernel
theorem dX4_readTruth_59 : decode cX4_readTruth 59 = .ok (.invokevirtual 58, 3) := by decide +kernel
theorem dX4_readTruth_62 : decode cX4_readTruth 62 = .ok (.iinc 3 1, 3) := by decide +kernel
theorem dX4_readTruth_65 : decode cX4_readTruth 65 = .ok (.goto (-57), 3) := by decide +kernel
theorem dX4_readTruth_68 : decode cX4_readTruth 68 = .ok (.return_, 1) := by decide +kernel
theorem dX4_readUnit_0 : decode cX4_readUnit 0 = .ok (.aload_n 0, 1) := by decide +kernel
theorem dX4_readUnit_1 : decode cX4_readUnit 1 = .ok (.getfield 15, 3) := by decide +kernel
theorem dX4_readUnit_4 : decode cX4_readUnit 4 = .ok (.invokevirtual 35, 3) := by decide +kernel
theorem dX4_readUnit_7 : decode cX4_readUnit 7 = .ok (.istore_n 3, 1) := by decide +kernel
theorem dX4_readUnit_8 : decode cX4_readUnit 8 = .ok (.aload_n 0, 1) := by decide +kernel
theorem dX4_readUnit_9 : decode cX4_readUnit 9 = .ok (.getfield 15, 3) := by decide +kernel
theorem dX4_readUnit_12 : decode cX4_readUnit 12 = .ok (.invokevirtual 31, 3) := by decide +kernel
theorem dX4_readUnit_15 : decode cX4_readUnit 15 = .ok (.ifCond .eq 4, 3) := by decide +kernel
theorem dX4_readUnit_18 : decode cX4_readUnit 18 = .ok (.return_, 1) := by decide +kernel
theorem dX4_readUnit_19 : decode cX4_readUnit 19 = .ok (.iload_n 2, 1) := by decide +kernel
theorem dX4_readUnit_20 : decode cX4_readUnit 20 = .ok (.ifCond .ne 34, 3) := by decide +kernel
theorem dX4_readUnit_23 : decode cX4_readUnit 23 = .ok (.iload_n 3, 1) := by decide +kernel
theorem dX4_readUnit_24 : decode cX4_readUnit 24 = .ok (.bipush 33, 2) := by decide +kernel
theorem dX4_readUnit_26 : decode cX4_readUnit 26 = .ok (.if_icmp .ne 28, 3) := by decide +kernel
theorem dX4_readUnit_29 : decode cX4_readUnit 29 = .ok (.aload_n 0, 1) := by decide +kernel
theorem dX4_readUnit_30 : decode cX4_readUnit 30 = .ok (.iload_n 1, 1) := by decide +kernel
theorem dX4_readUnit_31 : decode cX4_readUnit 31 = .ok (.invokevirtual 70, 3) := by decide +kernel
theorem dX4_readUnit_34 : decode cX4_readUnit 34 = .ok (.ifCond .eq 64, 3) := by decide +kernel
theorem dX4_readUnit_37 : decode cX4_readUnit 37 = .ok (.aload_n 0, 1) := by decide +kernel
theorem dX4_readUnit_38 : decode cX4_readUnit 38 = .ok (.iload_n 1, 1) := by decide +kernel
theorem dX4_readUnit_39 : decode cX4_readUnit 39 = .ok (.iconst 1, 1) := by decide +kernel
theorem dX4_readUnit_40 : decode cX4_readUnit 40 = .ok (.iadd, 1) := by decide +kernel
theorem dX4_readUnit_41 : decode cX4_readUnit 41 = .ok (.iconst 0, 1) := by decide +kernel
theorem dX4_readUnit_42 : decode cX4_readUnit 42 = .ok (.invokevirtual 67, 3) := by decide +kernel
theorem dX4_readUnit_45 : decode cX4_readUnit 45 = .ok (.aload_n 0, 1) := by decide +kernel
theorem dX4_readUnit_46 : decode cX4_readUnit 46 = .ok (.bipush (-33), 2) := by decide +kernel
theorem dX4_readUnit_48 : decode cX4_readUnit 48 = .ok (.invokevirtual 58, 3) := by decide +kernel
theorem dX4_readUnit_51 : decode cX4_readUnit 51 = .ok (.goto 47, 3) := by decide +kernel
theorem dX4_readUnit_54 : decode cX4_readUnit 54 = .ok (.iload_n 2, 1) := by decide +kernel
theorem dX4_readUnit_55 : decode cX4_readUnit 55 = .ok (.ifCond .ne 37, 3) := by decide +kernel
theorem dX4_readUnit_58 : decode cX4_readUnit 58 = .ok (.iload_n 3, 1) := by decide +kernel
theorem dX4_readUnit_59 : decode cX4_readUnit 59 = .ok (.bipush 40, 2) := by decide +kernel
theorem dX4_readUnit_61 : decode cX4_readUnit 61 = .ok (.if_icmp .ne 31, 3) := by decide +kernel
theorem dX4_readUnit_64 : decode cX4_readUnit 64 = .ok (.aload_n 0, 1) := by decide +kernel
theorem dX4_readUnit_65 : decode cX4_readUnit 65 = .ok (.iload_n 1, 1) := by decide +kernel
theorem dX4_readUnit_66 : decode cX4_readUnit 66 = .ok (.invokevirtual 70, 3) := by decide +kernel
theorem dX4_readUnit_69 : decode cX4_readUnit 69 = .ok (.ifCond .eq 29, 3) := by decide +kernel
theorem dX4_readUnit_72 : decode cX4_readUnit 72 = .ok (.aload_n 0, 1) := by decide +kernel
theorem dX4_readUnit_73 : decode cX4_readUnit 73 = .ok (.iload_n 1, 1) := by decide +kernel
theorem dX4_readUnit_74 : decode cX4_readUnit 74 = .ok (.iconst 1, 1) := by decide +kernel
theorem dX4_readUnit_75 : decode cX4_readUnit 75 = .ok (.iadd, 1) := by decide +kernel
theorem dX4_readUnit_76 : decode cX4_readUnit 76 = .ok (.iconst 0, 1) := by decide +kernel
theorem dX4_readUnit_77 : decode cX4_readUnit 77 = .ok (.invokevirtual 54, 3) := by decide +kernel
theorem dX4_readUnit_80 : decode cX4_readUnit 80 = .ok (.aload_n 0, 1) := by decide +kernel
theorem dX4_readUnit_81 : decode cX4_readUnit 81 = .ok (.getfield 15, 3) := by decide +kernel
theorem dX4_readUnit_84 : decode cX4_readUnit 84 = .ok (.bipush 41, 2) := by decide +kernel
theorem dX4_readUnit_86 : decode cX4_readUnit 86 = .ok (.invokevirtual 39, 3) := by decide +kernel
theorem dX4_readUnit_89 : decode cX4_readUnit 89 = .ok (.goto 9, 3) := by decide +kernel
theorem dX4_readUnit_92 : decode cX4_readUnit 92 = .ok (.aload_n 0, 1) := by decide +kernel
theorem dX4_readUnit_93 : decode cX4_readUnit 93 = .ok (.iload_n 1, 1) := by decide +kernel
theorem dX4_readUnit_94 : decode cX4_readUnit 94 = .ok (.iload_n 2, 1) := by decide +kernel
theorem dX4_readUnit_95 : decode cX4_readUnit 95 = .ok (.invokevirtual 73, 3) := by decide +kernel
theorem dX4_readUnit_98 : decode cX4_readUnit 98 = .ok (.return_, 1) := by decide +kernel
theorem dX4_readComparison_0 : decode cX4_readComparison 0 = .ok (.iload_n 2, 1) := by decide +kernel
theorem dX4_readComparison_1 : decode cX4_readComparison 1 = .ok (.ifCond .ne 8, 3) := by decide +kernel
theorem dX4_readComparison_4 : decode cX4_readComparison 4 = .ok (.aload_n 0, 1) := by decide +kernel
theorem dX4_readComparison_5 : decode cX4_readComparison 5 = .ok (.iload_n 1, 1) := by decide +kernel
theorem dX4_readComparison_6 : decode cX4_readComparison 6 = .ok (.invokevirtual 46, 3) := by decide +kernel
theorem dX4_readComparison_9 : decode cX4_readComparison 9 = .ok (.aload_n 0, 1) := by decide +kernel
theorem dX4_readComparison_10 : decode cX4_readComparison 10 = .ok (.getfield 15, 3) := by decide +kernel
theorem dX4_readComparison_13 : decode cX4_readComparison 13 = .ok (.invokevirtual 35, 3) := by decide +kernel
theorem dX4_readComparison_16 : decode cX4_readComparison 16 = .ok (.istore_n 3, 1) := by decide +kernel
theorem dX4_readComparison_17 : decode cX4_readComparison 17 = .ok (.aload_n 0, 1) := by decide +kernel
theorem dX4_readComparison_18 : decode cX4_readComparison 18 = .ok (.getfield 15, 3) := by decide +kernel
theorem dX4_readComparison_21 : decode cX4_readComparison 21 = .ok (.invokevirtual 31, 3) := by decide +kernel
theorem dX4_readComparison_24 : decode cX4_readComparison 24 = .ok (.ifCond .ne 10, 3) := by decide +kernel
theorem dX4_readComparison_27 : decode cX4_readComparison 27 = .ok (.iload_n 3, 1) := by decide +kernel
theorem dX4_readComparison_28 : decode cX4_readComparison 28 = .ok (.invokestatic 50, 3) := by decide +kernel
theorem dX4_readComparison_31 : decode cX4_readComparison 31 = .ok (.ifCond .ne 18, 3) := by decide +kernel
theorem dX4_readComparison_34 : decode cX4_readComparison 34 = .ok (.aload_n 0, 1) := by decide +kernel
theorem dX4_readComparison_35 : decode cX4_readComparison 35 = .ok (.getfield 15, 3) := by decide +kernel
theorem dX4_readComparison_38 : decode cX4_readComparison 38 = .ok (.aload_n 0, 1) := by decide +kernel
theorem dX4_readComparison_39 : decode cX4_readComparison 39 = .ok (.getfield 15, 3) := by decide +kernel
theorem dX4_readComparison_42 : decode cX4_readComparison 42 = .ok (.getfield 64, 3) := by decide +kernel
theorem dX4_readComparison_45 : decode cX4_readComparison 45 = .ok (.invokevirtual 76, 3) := by decide +kernel
theorem dX4_readComparison_48 : decode cX4_readComparison 48 = .ok (.return_, 1) := by decide +kernel
theorem dX4_readComparison_49 : decode cX4_readComparison 49 = .ok (.aload_n 0, 1) := by decide +kernel
theorem dX4_readComparison_50 : decode cX4_readComparison 50 = .ok (.getfield 15, 3) := by decide +kernel
theorem dX4_readComparison_53 : decode cX4_readComparison 53 = .ok (.dup, 1) := by decide +kernel
theorem dX4_readComparison_54 : decode cX4_readComparison 54 = .ok (.getfield 64, 3) := by decide +kernel
theorem dX4_readComparison_57 : decode cX4_readComparison 57 = .ok (.iconst 1, 1) := by decide +kernel
theorem dX4_readComparison_58 : decode cX4_readComparison 58 = .ok (.iadd, 1) := by decide +kernel
theorem dX4_readComparison_59 : decode cX4_readComparison 59 = .ok (.putfield 64, 3) := by decide +kernel
theorem dX4_readComparison_62 : decode cX4_readComparison 62 = .ok (.aload_n 0, 1) := by decide +kernel
theorem dX4_readComparison_63 : decode cX4_readComparison 63 = .ok (.iload_n 1, 1) := by decide +kernel
theorem dX4_readComparison_64 : decode cX4_readComparison 64 = .ok (.invokevirtual 46, 3) := by decide +kernel
theorem dX4_readComparison_67 : decode cX4_readComparison 67 = .ok (.aload_n 0, 1) := by decide +kernel
theorem dX4_readComparison_68 : decode cX4_readComparison 68 = .ok (.iload_n 3, 1) := by decide +kernel
theorem dX4_readComparison_69 : decode cX4_readComparison 69 = .ok (.ineg, 1) := by decide +kernel
theorem dX4_readComparison_70 : decode cX4_readComparison 70 = .ok (.invokevirtual 58, 3) := by decide +kernel
theorem dX4_readComparison_73 : decode cX4_readComparison 73 = .ok (.return_, 1) := by decide +kernel
theorem dX4_readSum_0 : decode cX4_readSum 0 = .ok (.aload_n 0, 1) := by decide +kernel
theorem dX4_readSum_1 : decode cX4_readSum 1 = .ok (.iload_n 1, 1) := by decide +kernel
theorem dX4_readSum_2 : decode cX4_readSum 2 = .ok (.invokevirtual 79, 3) := by decide +kernel
theorem dX4_readSum_5 : decode cX4_readSum 5 = .ok (.iconst 0, 1) := by decide +kernel
theorem dX4_readSum_6 : decode cX4_readSum 6 = .ok (.istore_n 2, 1) := by decide +kernel
theorem dX4_readSum_7 : decode cX4_readSum 7 = .ok (.iload_n 2, 1) := by decide +kernel
theorem dX4_readSum_8 : decode cX4_readSum 8 = .ok (.sipush 240, 3) := by decide +kernel
theorem dX4_readSum_11 : decode cX4_readSum 11 = .ok (.if_icmp .ge 64, 3) := by decide +kernel
theorem dX4_readSum_14 : decode cX4_readSum 14 = .ok (.aload_n 0, 1) := by decide +kernel
theorem dX4_readSum_15 : decode cX4_readSum 15 = .ok (.getfield 15, 3) := by decide +kernel
theorem dX4_readSum_18 : decode cX4_readSum 18 = .ok (.invokevirtual 31, 3) := by decide +kernel
theorem dX4_readSum_21 : decode cX4_readSum 21 = .ok (.ifCond .ne 54, 3) := by decide +kernel
theorem dX4_readSum_24 : decode cX4_readSum 24 = .ok (.aload_n 0, 1) := by decide +kernel
theorem dX4_readSum_25 : decode cX4_readSum 25 = .ok (.getfield 15, 3) := by decide +kernel
theorem dX4_readSum_28 : decode cX4_readSum 28 = .ok (.invokevirtual 35, 3) := by decide +kernel
theorem dX4_readSum_31 : decode cX4_readSum 31 = .ok (.istore_n 3, 1) := by decide +kernel
theorem dX4_readSum_32 : decode cX4_readSum 32 = .ok (.iload_n 3, 1) := by decide +kernel
theorem dX4_readSum_33 : decode cX4_readSum 33 = .ok (.bipush 43, 2) := by decide +kernel
theorem dX4_readSum_35 : decode cX4_readSum 35 = .ok (.if_icmp .eq 10, 3) := by decide +kernel
theorem dX4_readSum_38 : decode cX4_readSum 38 = .ok (.iload_n 3, 1) := by decide +kernel
theorem dX4_readSum_39 : decode cX4_readSum 39 = .ok (.bipush 45, 2) := by decide +kernel
theorem dX4_readSum_41 : decode cX4_readSum 41 = .ok (.if_icmp .eq 4, 3) := by decide +kernel
theorem dX4_readSum_44 : decode cX4_readSum 44 = .ok (.return_, 1) := by decide +kernel
theorem dX4_readSum_45 : decode cX4_readSum 45 = .ok (.aload_n 0, 1) := by decide +kernel
theorem dX4_readSum_46 : decode cX4_readSum 46 = .ok (.getfield 15, 3) := by decide +kernel
theorem dX4_readSum_49 : decode cX4_readSum 49 = .ok (.dup, 1) := by decide +kernel
theorem dX4_readSum_50 : decode cX4_readSum 50 = .ok (.getfield 64, 3) := by decide +kernel
theorem dX4_readSum_53 : decode cX4_readSum 53 = .ok (.iconst 1, 1) := by decide +kernel
theorem dX4_readSum_54 : decode cX4_readSum 54 = .ok (.iadd, 1) := by decide +kernel
theorem dX4_readSum_55 : decode cX4_readSum 55 = .ok (.putfield 64, 3) := by decide +kernel
theorem dX4_readSum_58 : decode cX4_readSum 58 = .ok (.aload_n 0, 1) := by decide +kernel
theorem dX4_readSum_59 : decode cX4_readSum 59 = .ok (.iload_n 1, 1) := by decide +kernel
theorem dX4_readSum_60 : decode cX4_readSum 60 = .ok (.invokevirtual 79, 3) := by decide +kernel
theorem dX4_readSum_63 : decode cX4_readSum 63 = .ok (.aload_n 0, 1) := by decide +kernel
theorem dX4_readSum_64 : decode cX4_readSum 64 = .ok (.iload_n 3, 1) := by decide +kernel
theorem dX4_readSum_65 : decode cX4_readSum 65 = .ok (.ineg, 1) := by decide +kernel
theorem dX4_readSum_66 : decode cX4_readSum 66 = .ok (.invokevirtual 58, 3) := by decide +kernel
theorem dX4_readSum_69 : decode cX4_readSum 69 = .ok (.iinc 2 1, 3) := by decide +kernel
theorem dX4_readSum_72 : decode cX4_readSum 72 = .ok (.goto (-65), 3) := by decide +kernel
theorem dX4_readSum_75 : decode cX4_readSum 75 = .ok (.return_, 1) := by decide +kernel
theorem dX4_readTerm_0 : decode cX4_readTerm 0 = .ok (.aload_n 0, 1) := by decide +kernel
theorem dX4_readTerm_1 : decode cX4_readTerm 1 = .ok (.iload_n 1, 1) := by decide +kernel
theorem dX4_readTerm_2 : decode cX4_readTerm 2 = .ok (.invokevirtual 82, 3) := by decide +kernel
theorem dX4_readTerm_5 : decode cX4_readTerm 5 = .ok (.iconst 0, 1) := by decide +kernel
theorem dX4_readTerm_6 : decode cX4_readTerm 6 = .ok (.istore_n 2, 1) := by decide +kernel
theorem dX4_readTerm_7 : decode cX4_readTerm 7 = .ok (.iload_n 2, 1) := by decide +kernel
theorem dX4_readTerm_8 : decode cX4_readTerm 8 = .ok (.sipush 240, 3) := by decide +kernel
theorem dX4_readTerm_11 : decode cX4_readTerm 11 = .ok (.if_icmp .ge 64, 3) := by decide +kernel
theorem dX4_readTerm_14 : decode cX4_readTerm 14 = .ok (.aload_n 0, 1) := by decide +kernel
theorem dX4_readTerm_15 : decode cX4_readTerm 15 = .ok (.getfield 15, 3) := by decide +kernel
theorem dX4_readTerm_18 : decode cX4_readTerm 18 = .ok (.invokevirtual 31, 3) := by decide +kernel
theorem dX4_readTerm_21 : decode cX4_readTerm 21 = .ok (.ifCond .ne 54, 3) := by decide +kernel
theorem dX4_readTerm_24 : decode cX4_readTerm 24 = .ok (.aload_n 0, 1) := by decide +kernel
theorem dX4_readTerm_25 : decode cX4_readTerm 25 = .ok (.getfield 15, 3) := by decide +kernel
theorem dX4_readTerm_28 : decode cX4_readTerm 28 = .ok (.invokevirtual 35, 3) := by decide +kernel
theorem dX4_readTerm_31 : decode cX4_readTerm 31 = .ok (.istore_n 3, 1) := by decide +kernel
theorem dX4_readTerm_32 : decode cX4_readTerm 32 = .ok (.iload_n 3, 1) := by decide +kernel
theorem dX4_readTerm_33 : decode cX4_readTerm 33 = .ok (.bipush 42, 2) := by decide +kernel
theorem dX4_readTerm_35 : decode cX4_readTerm 35 = .ok (.if_icmp .eq 10, 3) := by decide +kernel
theorem dX4_readTerm_38 : decode cX4_readTerm 38 = .ok (.iload_n 3, 1) := by decide +kernel
theorem dX4_readTerm_39 : decode cX4_readTerm 39 = .ok (.bipush 47, 2) := by decide +kernel
theorem dX4_readTerm_41 : decode cX4_readTerm 41 = .ok (.if_icmp .eq 4, 3) := by decide +kernel
theorem dX4_readTerm_44 : decode cX4_readTerm 44 = .ok (.return_, 1) := by decide +kernel
theorem dX4_readTerm_45 : decode cX4_readTerm 45 = .ok (.aload_n 0, 1) := by decide +kernel
theorem dX4_readTerm_46 : decode cX4_readTerm 46 = .ok (.getfield 15, 3) := by decide +kernel
theorem dX4_readTerm_49 : decode cX4_readTerm 49 = .ok (.dup, 1) := by decide +kernel
theorem dX4_readTerm_50 : decode cX4_readTerm 50 = .ok (.getfield 64, 3) := by decide +kernel
theorem dX4_readTerm_53 : decode cX4_readTerm 53 = .ok (.iconst 1, 1) := by decide +kernel
theorem dX4_readTerm_54 : decode cX4_readTerm 54 = .ok (.iadd, 1) := by decide +kernel
theorem dX4_readTerm_55 : decode cX4_readTerm 55 = .ok (.putfield 64, 3) := by decide +kernel
theorem dX4_readTerm_58 : decode cX4_readTerm 58 = .ok (.aload_n 0, 1) := by decide +kernel
theorem dX4_readTerm_59 : decode cX4_readTerm 59 = .ok (.iload_n 1, 1) := by decide +kernel
theorem dX4_readTerm_60 : decode cX4_readTerm 60 = .ok (.invokevirtual 82, 3) := by decide +kernel
theorem dX4_readTerm_63 : decode cX4_readTerm 63 = .ok (.aload_n 0, 1) := by decide +kernel
theorem dX4_readTerm_64 : decode cX4_readTerm 64 = .ok (.iload_n 3, 1) := by decide +kernel
theorem dX4_readTerm_65 : decode cX4_readTerm 65 = .ok (.ineg, 1) := by decide +kernel
theorem dX4_readTerm_66 : decode cX4_readTerm 66 = .ok (.invokevirtual 58, 3) := by decide +kernel
theorem dX4_readTerm_69 : decode cX4_readTerm 69 = .ok (.iinc 2 1, 3) := by decide +kernel
theorem dX4_readTerm_72 : decode cX4_readTerm 72 = .ok (.goto (-65), 3) := by decide +kernel
theorem dX4_readTerm_75 : decode cX4_readTerm 75 = .ok (.return_, 1) := by decide +kernel
theorem dX4_readAtom_0 : decode cX4_readAtom 0 = .ok (.aload_n 0, 1) := by decide +kernel
theorem dX4_readAtom_1 : decode cX4_readAtom 1 = .ok (.getfield 15, 3) := by decide +kernel
theorem dX4_readAtom_4 : decode cX4_readAtom 4 = .ok (.invokevirtual 35, 3) := by decide +kernel
theorem dX4_readAtom_7 : decode cX4_readAtom 7 = .ok (.istore_n 2, 1) := by decide +kernel
theorem dX4_readAtom_8 : decode cX4_readAtom 8 = .ok (.aload_n 0, 1) := by decide +kernel
theorem dX4_readAtom_9 : decode cX4_readAtom 9 = .ok (.getfield 15, 3) := by decide +kernel
theorem dX4_readAtom_12 : decode cX4_readAtom 12 = .ok (.invokevirtual 31, 3) := by decide +kernel
theorem dX4_readAtom_15 : decode cX4_readAtom 15 = .ok (.ifCond .eq 4, 3) := by decide +kernel
theorem dX4_readAtom_18 : decode cX4_readAtom 18 = .ok (.return_, 1) := by decide +kernel
theorem dX4_readAtom_19 : decode cX4_readAtom 19 = .ok (.iload_n 2, 1) := by decide +kernel
theorem dX4_readAtom_20 : decode cX4_readAtom 20 = .ok (.ifCond .ne 7, 3) := by decide +kernel
theorem dX4_readAtom_23 : decode cX4_readAtom 23 = .ok (.iconst (-1), 1) := by decide +kernel
theorem dX4_readAtom_24 : decode cX4_readAtom 24 = .ok (.goto 10, 3) := by decide +kernel
theorem dX4_readAtom_27 : decode cX4_readAtom 27 = .ok (.ldc 87, 2) := by decide +kernel
theorem dX4_readAtom_29 : decode cX4_readAtom 29 = .ok (.iload_n 2, 1) := by decide +kernel
theorem dX4_readAtom_30 : decode cX4_readAtom 30 = .ok (.i2c, 1) := by decide +kernel
theorem dX4_readAtom_31 : decode cX4_readAtom 31 = .ok (.invokevirtual 89, 3) := by decide +kernel
theorem dX4_readAtom_34 : decode cX4_readAtom 34 = .ok (.istore_n 3, 1) := by decide +kernel
theorem dX4_readAtom_35 : decode cX4_readAtom 35 = .ok (.iload_n 3, 1) := by decide +kernel
theorem dX4_readAtom_36 : decode cX4_readAtom 36 = .ok (.ifCond .lt 28, 3) := by decide +kernel
theorem dX4_readAtom_39 : decode cX4_readAtom 39 = .ok (.aload_n 0, 1) := by decide +kernel
theorem dX4_readAtom_40 : decode cX4_readAtom 40 = .ok (.getfield 15, 3) := by decide +kernel
theorem dX4_readAtom_43 : decode cX4_readAtom 43 = .ok (.dup, 1) := by decide +kernel
theorem dX4_readAtom_44 : decode cX4_readAtom 44 = .ok (.getfield 64, 3) := by decide +kernel
theorem dX4_readAtom_47 : decode cX4_readAtom 47 = .ok (.iconst 1, 1) := by decide +kernel
theorem dX4_readAtom_48 : decode cX4_readAtom 48 = .ok (.iadd, 1) := by decide +kernel
theorem dX4_readAtom_49 : decode cX4_readAtom 49 = .ok (.putfield 64, 3) := by decide +kernel
theorem dX4_readAtom_52 : decode cX4_readAtom 52 = .ok (.aload_n 0, 1) := by decide +kernel
theorem dX4_readAtom_53 : decode cX4_readAtom 53 = .ok (.sipush 10000, 3) := by decide +kernel
theorem dX4_readAtom_56 : decode cX4_readAtom 56 = .ok (.iload_n 3, 1) := by decide +kernel
theorem dX4_readAtom_57 : decode cX4_readAtom 57 = .ok (.iadd, 1) := by decide +kernel
theorem dX4_readAtom_58 : decode cX4_readAtom 58 = .ok (.invokevirtual 58, 3) := by decide +kernel
theorem dX4_readAtom_61 : decode cX4_readAtom 61 = .ok (.goto 48, 3) := by decide +kernel
theorem dX4_readAtom_64 : decode cX4_readAtom 64 = .ok (.iload_n 2, 1) := by decide +kernel
theorem dX4_readAtom_65 : decode cX4_readAtom 65 = .ok (.bipush 91, 2) := by decide +kernel
theorem dX4_readAtom_67 : decode cX4_readAtom 67 = .ok (.if_icmp .ne 30, 3) := by decide +kernel
theorem dX4_readAtom_70 : decode cX4_readAtom 70 = .ok (.aload_n 0, 1) := by decide +kernel
theorem dX4_readAtom_71 : decode cX4_readAtom 71 = .ok (.iload_n 1, 1) := by decide +kernel
theorem dX4_readAtom_72 : decode cX4_readAtom 72 = .ok (.invokevirtual 70, 3) := by decide +kernel
theorem dX4_readAtom_75 : decode cX4_readAtom 75 = .ok (.ifCond .eq 34, 3) := by decide +kernel
theorem dX4_readAtom_78 : decode cX4_readAtom 78 = .ok (.aload_n 0, 1) := by decide +kernel
theorem dX4_readAtom_79 : decode cX4_readAtom 79 = .ok (.iload_n 1, 1) := by decide +kernel
theorem dX4_readAtom_80 : decode cX4_readAtom 80 = .ok (.iconst 1, 1) := by decide +kernel
theorem dX4_readAtom_81 : decode cX4_readAtom 81 = .ok (.iadd, 1) := by decide +kernel
theorem dX4_readAtom_82 : decode cX4_readAtom 82 = .ok (.invokevirtual 46, 3) := by decide +kernel
theorem dX4_readAtom_85 : decode cX4_readAtom 85 = .ok (.aload_n 0, 1) := by decide +kernel
theorem dX4_readAtom_86 : decode cX4_readAtom 86 = .ok (.getfield 15, 3) := by decide +kernel
theorem dX4_readAtom_89 : decode cX4_readAtom 89 = .ok (.bipush 93, 2) := by decide +kernel
theorem dX4_readAtom_91 : decode cX4_readAtom 91 = .ok (.invokevirtual 39, 3) := by decide +kernel
theorem dX4_readAtom_94 : decode cX4_readAtom 94 = .ok (.goto 15, 3) := by decide +kernel
theorem dX4_readAtom_97 : decode cX4_readAtom 97 = .ok (.aload_n 0, 1) := by decide +kernel
theorem dX4_readAtom_98 : decode cX4_readAtom 98 = .ok (.aload_n 0, 1) := by decide +kernel
theorem dX4_readAtom_99 : decode cX4_readAtom 99 = .ok (.getfield 15, 3) := by decide +kernel
theorem dX4_readAtom_102 : decode cX4_readAtom 102 = .ok (.iconst 4, 1) := by decide +kernel
theorem dX4_readAtom_103 : decode cX4_readAtom 103 = .ok (.invokevirtual 95, 3) := by decide +kernel
theorem dX4_readAtom_106 : decode cX4_readAtom 106 = .ok (.invokevirtual 58, 3) := by decide +kernel
theorem dX4_readAtom_109 : decode cX4_readAtom 109 = .ok (.return_, 1) := by decide +kernel
theorem dX4_goesDeeper_0 : decode cX4_goesDeeper 0 = .ok (.iload_n 1, 1) := by decide +kernel
theorem dX4_goesDeeper_1 : decode cX4_goesDeeper 1 = .ok (.bipush 6, 2) := by decide +kernel
theorem dX4_goesDeeper_3 : decode cX4_goesDeeper 3 = .ok (.if_icmp .lt 19, 3) := by decide +kernel
theorem dX4_goesDeeper_6 : decode cX4_goesDeeper 6 = .ok (.aload_n 0, 1) := by decide +kernel
theorem dX4_goesDeeper_7 : decode cX4_goesDeeper 7 = .ok (.getfield 15, 3) := by decide +kernel
theorem dX4_goesDeeper_10 : decode cX4_goesDeeper 10 = .ok (.aload_n 0, 1) := by decide +kernel
theorem dX4_goesDeeper_11 : decode cX4_goesDeeper 11 = .ok (.getfield 15, 3) := by decide +kernel
theorem dX4_goesDeeper_14 : decode cX4_goesDeeper 14 = .ok (.getfield 64, 3) := by decide +kernel
theorem dX4_goesDeeper_17 : decode cX4_goesDeeper 17 = .ok (.invokevirtual 76, 3) := by decide +kernel
theorem dX4_goesDeeper_20 : decode cX4_goesDeeper 20 = .ok (.iconst 0, 1) := by decide +kernel
theorem dX4_goesDeeper_21 : decode cX4_goesDeeper 21 = .ok (.ireturn, 1) := by decide +kernel
theorem dX4_goesDeeper_22 : decode cX4_goesDeeper 22 = .ok (.aload_n 0, 1) := by decide +kernel
theorem dX4_goesDeeper_23 : decode cX4_goesDeeper 23 = .ok (.getfield 15, 3) := by decide +kernel
theorem dX4_goesDeeper_26 : decode cX4_goesDeeper 26 = .ok (.dup, 1) := by decide +kernel
theorem dX4_goesDeeper_27 : decode cX4_goesDeeper 27 = .ok (.getfield 64, 3) := by decide +kernel
theorem dX4_goesDeeper_30 : decode cX4_goesDeeper 30 = .ok (.iconst 1, 1) := by decide +kernel
theorem dX4_goesDeeper_31 : decode cX4_goesDeeper 31 = .ok (.iadd, 1) := by decide +kernel
theorem dX4_goesDeeper_32 : decode cX4_goesDeeper 32 = .ok (.putfield 64, 3) := by decide +kernel
theorem dX4_goesDeeper_35 : decode cX4_goesDeeper 35 = .ok (.iconst 1, 1) := by decide +kernel
theorem dX4_goesDeeper_36 : decode cX4_goesDeeper 36 = .ok (.ireturn, 1) := by decide +kernel
theorem dX4_isComparison_0 : decode cX4_isComparison 0 = .ok (.iload_n 0, 1) := by decide +kernel
theorem dX4_isComparison_1 : decode cX4_isComparison 1 = .ok (.bipush 61, 2) := by decide +kernel
theorem dX4_isComparison_3 : decode cX4_isComparison 3 = .ok (.if_icmp .eq 15, 3) := by decide +kernel
theorem dX4_isComparison_6 : decode cX4_isComparison 6 = .ok (.iload_n 0, 1) := by decide +kernel
theorem dX4_isComparison_7 : decode cX4_isComparison 7 = .ok (.bipush 60, 2) := by decide +kernel
theorem dX4_isComparison_9 : decode cX4_isComparison 9 = .ok (.if_icmp .eq 9, 3) := by decide +kernel
theorem dX4_isComparison_12 : decode cX4_isComparison 12 = .ok (.iload_n 0, 1) := by decide +kernel
theorem dX4_isComparison_13 : decode cX4_isComparison 13 = .ok (.bipush 62, 2) := by decide +kernel
theorem dX4_isComparison_15 : decode cX4_isComparison 15 = .ok (.if_icmp .ne 7, 3) := by decide +kernel
theorem dX4_isComparison_18 : decode cX4_isComparison 18 = .ok (.iconst 1, 1) := by decide +kernel
theorem dX4_isComparison_19 : decode cX4_isComparison 19 = .ok (.goto 4, 3) := by decide +kernel
theorem dX4_isComparison_22 : decode cX4_isComparison 22 = .ok (.iconst 0, 1) := by decide +kernel
theorem dX4_isComparison_23 : decode cX4_isComparison 23 = .ok (.ireturn, 1) := by decide +kernel
theorem dX4_write_0 : decode cX4_write 0 = .ok (.aload_n 0, 1) := by decide +kernel
theorem dX4_write_1 : decode cX4_write 1 = .ok (.getfield 24, 3) := by decide +kernel
theorem dX4_write_4 : decode cX4_write 4 = .ok (.aload_n 0, 1) := by decide +kernel
theorem dX4_write_5 : decode cX4_write 5 = .ok (.getfield 9, 3) := by decide +kernel
theorem dX4_write_8 : decode cX4_write 8 = .ok (.arraylength, 1) := by decide +kernel
theorem dX4_write_9 : decode cX4_write 9 = .ok (.if_icmp .ge 23, 3) := by decide +kernel
theorem dX4_write_12 : decode cX4_write 12 = .ok (.aload_n 0, 1) := by decide +kernel
theorem dX4_write_13 : decode cX4_write 13 = .ok (.getfield 9, 3) := by decide +kernel
theorem dX4_write_16 : decode cX4_write 16 = .ok (.aload_n 0, 1) := by decide +kernel
theorem dX4_write_17 : decode cX4_write 17 = .ok (.getfield 24, 3) := by decide +kernel
theorem dX4_write_20 : decode cX4_write 20 = .ok (.iload_n 1, 1) := by decide +kernel
theorem dX4_write_21 : decode cX4_write 21 = .ok (.iastore, 1) := by decide +kernel
theorem dX4_write_22 : decode cX4_write 22 = .ok (.aload_n 0, 1) := by decide +kernel
theorem dX4_write_23 : decode cX4_write 23 = .ok (.dup, 1) := by decide +kernel
theorem dX4_write_24 : decode cX4_write 24 = .ok (.getfield 24, 3) := by decide +kernel
theorem dX4_write_27 : decode cX4_write 27 = .ok (.iconst 1, 1) := by decide +kernel
theorem dX4_write_28 : decode cX4_write 28 = .ok (.iadd, 1) := by decide +kernel
theorem dX4_write_29 : decode cX4_write 29 = .ok (.putfield 24, 3) := by decide +kernel
theorem dX4_write_32 : decode cX4_write 32 = .ok (.return_, 1) := by decide +kernel
theorem dX5_init_0 : decode cX5_init 0 = .ok (.aload_n 0, 1) := by decide +kernel
theorem dX5_init_1 : decode cX5_init 1 = .ok (.invokespecial 3, 3) := by decide +kernel
theorem dX5_init_4 : decode cX5_init 4 = .ok (.aload_n 0, 1) := by decide +kernel
theorem dX5_init_5 : decode cX5_init 5 = .ok (.bipush 6, 2) := by decide +kernel
theorem dX5_init_7 : decode cX5_init 7 = .ok (.sipush 240, 3) := by decide +kernel
theorem dX5_init_10 : decode cX5_init 10 = .ok (.multianewarray 9 2, 4) := by decide +kernel
theorem dX5_init_14 : decode cX5_init 14 = .ok (.putfield 11, 3) := by decide +kernel
theorem dX5_init_17 : decode cX5_init 17 = .ok (.aload_n 0, 1) := by decide +kernel
theorem dX5_init_18 : decode cX5_init 18 = .ok (.bipush 6, 2) := by decide +kernel
theorem dX5_init_20 : decode cX5_init 20 = .ok (.newarray .int, 2) := by decide +kernel
theorem dX5_init_22 : decode cX5_init 22 = .ok (.putfield 16, 3) := by decide +kernel
theorem dX5_init_25 : decode cX5_init 25 = .ok (.aload_n 0, 1) := by decide +kernel
theorem dX5_init_26 : decode cX5_init 26 = .ok (.bipush 8, 2) := by decide +kernel
theorem dX5_init_28 : decode cX5_init 28 = .ok (.newarray .int, 2) := by decide +kernel
theorem dX5_init_30 : decode cX5_init 30 = .ok (.putfield 20, 3) := by decide +kernel
theorem dX5_init_33 : decode cX5_init 33 = .ok (.aload_n 0, 1) := by decide +kernel
theorem dX5_init_34 : decode cX5_init 34 = .ok (.bipush 64, 2) := by decide +kernel
theorem dX5_init_36 : decode cX5_init 36 = .ok (.newarray .int, 2) := by decide +kernel
theorem dX5_init_38 : decode cX5_init 38 = .ok (.putfield 23, 3) := by decide +kernel
theorem dX5_init_41 : decode cX5_init 41 = .ok (.aload_n 0, 1) := by decide +kernel
theorem dX5_init_42 : decode cX5_init 42 = .ok (.iconst (-1), 1) := by decide +kernel
theorem dX5_init_43 : decode cX5_init 43 = .ok (.putfield 26, 3) := by decide +kernel
theorem dX5_init_46 : decode cX5_init 46 = .ok (.aload_n 0, 1) := by decide +kernel
theorem dX5_init_47 : decode cX5_init 47 = .ok (.iconst (-1), 1) := by decide +kernel
theorem dX5_init_48 : decode cX5_init 48 = .ok (.putfield 30, 3) := by decide +kernel
theorem dX5_init_51 : decode cX5_init 51 = .ok (.aload_n 0, 1) := by decide +kernel
theorem dX5_init_52 : decode cX5_init 52 = .ok (.aload_n 1, 1) := by decide +kernel
theorem dX5_init_53 : decode cX5_init 53 = .ok (.putfield 33, 3) := by decide +kernel
theorem dX5_init_56 : decode cX5_init 56 = .ok (.return_, 1) := by decide +kernel
theorem dX5_add_0 : decode cX5_add 0 = .ok (.aload_n 0, 1) := by decide +kernel
theorem dX5_add_1 : decode cX5_add 1 = .ok (.getfield 37, 3) := by decide +kernel
theorem dX5_add_4 : decode cX5_add 4 = .ok (.bipush 6, 2) := by decide +kernel
theorem dX5_add_6 : decode cX5_add 6 = .ok (.if_icmp .ge 14, 3) := by decide +kernel
theorem dX5_add_9 : decode cX5_add 9 = .ok (.iload_n 2, 1) := by decide +kernel
theorem dX5_add_10 : decode cX5_add 10 = .ok (.ifCond .lt 10, 3) := by decide +kernel
theorem dX5_add_13 : decode cX5_add 13 = .ok (.iload_n 2, 1) := by decide +kernel
theorem dX5_add_14 : decode cX5_add 14 = .ok (.sipush 240, 3) := by decide +kernel
theorem dX5_add_17 : decode cX5_add 17 = .ok (.if_icmp .le 5, 3) := by decide +kernel
theorem dX5_add_20 : decode cX5_add 20 = .ok (.iconst (-1), 1) := by decide +kernel
theorem dX5_add_21 : decode cX5_add 21 = .ok (.ireturn, 1) := by decide +kernel
theorem dX5_add_22 : decode cX5_add 22 = .ok (.aload_n 1, 1) := by decide +kernel
theorem dX5_add_23 : decode cX5_add 23 = .ok (.iconst 0, 1) := by decide +kernel
theorem dX5_add_24 : decode cX5_add 24 = .ok (.aload_n 0, 1) := by decide +kernel
theorem dX5_add_25 : decode cX5_add 25 = .ok (.getfield 11, 3) := by decide +kernel
theorem dX5_add_28 : decode cX5_add 28 = .ok (.aload_n 0, 1) := by decide +kernel
theorem dX5_add_29 : decode cX5_add 29 = .ok (.getfield 37, 3) := by decide +kernel
theorem dX5_add_32 : decode cX5_add 32 = .ok (.aaload, 1) := by decide +kernel
theorem dX5_add_33 : decode cX5_add 33 = .ok (.iconst 0, 1) := by decide +kernel
theorem dX5_add_34 : decode cX5_add 34 = .ok (.iload_n 2, 1) := by decide +kernel
theorem dX5_add_35 : decode cX5_add 35 = .ok (.invokestatic 40, 3) := by decide +kernel
theorem dX5_add_38 : decode cX5_add 38 = .ok (.aload_n 0, 1) := by decide +kernel
theorem dX5_add_39 : decode cX5_add 39 = .ok (.getfield 16, 3) := by decide +kernel
theorem dX5_add_42 : decode cX5_add 42 = .ok (.aload_n 0, 1) := by decide +kernel
theorem dX5_add_43 : decode cX5_add 43 = .ok (.getfield 37, 3) := by decide +kernel
theorem dX5_add_46 : decode cX5_add 46 = .ok (.iload_n 2, 1) := by decide +kernel
theorem dX5_add_47 : decode cX5_add 47 = .ok (.iastore, 1) := by decide +kernel
theorem dX5_add_48 : decode cX5_add 48 = .ok (.aload_n 0, 1) := by decide +kernel
theorem dX5_add_49 : decode cX5_add 49 = .ok (.dup, 1) := by decide +kernel
theorem dX5_add_50 : decode cX5_add 50 = .ok (.getfield 37, 3) := by decide +kernel
theorem dX5_add_53 : decode cX5_add 53 = .ok (.iconst 1, 1) := by decide +kernel
theorem dX5_add_54 : decode cX5_add 54 = .ok (.iadd, 1) := by decide +kernel
theorem dX5_add_55 : decode cX5_add 55 = .ok (.putfield 37, 3) := by decide +kernel
theorem dX5_add_58 : decode cX5_add 58 = .ok (.aload_n 0, 1) := by decide +kernel
theorem dX5_add_59 : decode cX5_add 59 = .ok (.getfield 37, 3) := by decide +kernel
theorem dX5_add_62 : decode cX5_add 62 = .ok (.iconst 1, 1) := by decide +kernel
theorem dX5_add_63 : decode cX5_add 63 = .ok (.isub, 1) := by decide +kernel
theorem dX5_add_64 : decode cX5_add 64 = .ok (.ireturn, 1) := by decide +kernel
theorem dX5_chance_0 : decode cX5_chance 0 = .ok (.aload_n 1, 1) := by decide +kernel
theorem dX5_chance_1 : decode cX5_chance 1 = .ok (.invokevirtual 46, 3) := by decide +kernel
theorem dX5_chance_4 : decode cX5_chance 4 = .ok (.istore_n 3, 1) := by decide +kernel
theorem dX5_chance_5 : decode cX5_chance 5 = .ok (.aload_n 0, 1) := by decide +kernel
theorem dX5_chance_6 : decode cX5_chance 6 = .ok (.getfield 33, 3) := by decide +kernel
theorem dX5_chance_9 : decode cX5_chance 9 = .ok (.iconst 3, 1) := by decide +kernel
theorem dX5_chance_10 : decode cX5_chance 10 = .ok (.aload_n 1, 1) := by decide +kernel
theorem dX5_chance_11 : decode cX5_chance 11 = .ok (.getfield 54, 3) := by decide +kernel
theorem dX5_chance_14 : decode cX5_chance 14 = .ok (.invokevirtual 57, 3) := by decide +kernel
theorem dX5_chance_17 : decode cX5_chance 17 = .ok (.istore 4, 2) := by decide +kernel
theorem dX5_chance_19 : decode cX5_chance 19 = .ok (.bipush 50, 2) := by decide +kernel
theorem dX5_chance_21 : decode cX5_chance 21 = .ok (.iload 4, 2) := by decide +kernel
theorem dX5_chance_23 : decode cX5_chance 23 = .ok (.iload_n 3, 1) := by decide +kernel
theorem dX5_chance_24 : decode cX5_chance 24 = .ok (.iload_n 2, 1) := by decide +kernel
theorem dX5_chance_25 : decode cX5_chance 25 = .ok (.isub, 1) := by decide +kernel
theorem dX5_chance_26 : decode cX5_chance 26 = .ok (.imul, 1) := by decide +kernel
theorem dX5_chance_27 : decode cX5_chance 27 = .ok (.iadd, 1) := by decide +kernel
theorem dX5_chance_28 : decode cX5_chance 28 = .ok (.istore 5, 2) := by decide +kernel
theorem dX5_chance_30 : decode cX5_chance 30 = .ok (.aload_n 0, 1) := by decide +kernel
theorem dX5_chance_31 : decode cX5_chance 31 = .ok (.getfield 26, 3) := by decide +kernel
theorem dX5_chance_34 : decode cX5_chance 34 = .ok (.iconst (-1), 1) := by decide +kernel
theorem dX5_chance_35 : decode cX5_chance 35 = .ok (.if_icmp .eq 89, 3) := by decide +kernel
theorem dX5_chance_38 : decode cX5_chance 38 = .ok (.aload_n 0, 1) := by decide +kernel
theorem dX5_chance_39 : decode cX5_chance 39 = .ok (.getfield 20, 3) := by decide +kernel
theorem dX5_chance_42 : decode cX5_chance 42 = .ok (.iconst 0, 1) := by decide +kernel
theorem dX5_chance_43 : decode cX5_chance 43 = .ok (.iload_n 2, 1) := by decide +kernel
theorem dX5_chance_44 : decode cX5_chance 44 = .ok (.iastore, 1) := by decide +kernel
theorem dX5_chance_45 : decode cX5_chance 45 = .ok (.aload_n 0, 1) := by decide +kernel
theorem dX5_chance_46 : decode cX5_chance 46 = .ok (.getfield 20, 3) := by decide +kernel
theorem dX5_chance_49 : decode cX5_chance 49 = .ok (.iconst 1, 1) := by decide +kernel
theorem dX5_chance_50 : decode cX5_chance 50 = .ok (.iload_n 3, 1) := by decide +kernel
theorem dX5_chance_51 : decode cX5_chance 51 = .ok (.iastore, 1) := by decide +kernel
theorem dX5_chance_52 : decode cX5_chance 52 = .ok (.aload_n 0, 1) := by decide +kernel
theorem dX5_chance_53 : decode cX5_chance 53 = .ok (.getfield 20, 3) := by decide +kernel
theorem dX5_chance_56 : decode cX5_chance 56 = .ok (.iconst 2, 1) := by decide +kernel
theorem dX5_chance_57 : decode cX5_chance 57 = .ok (.iload 4, 2) := by decide +kernel
theorem dX5_chance_59 : decode cX5_chance 59 = .ok (.iastore, 1) := by decide +kernel
theorem dX5_chance_60 : decode cX5_chance 60 = .ok (.aload_n 0, 1) := by decide +kernel
theorem dX5_chance_61 : decode cX5_chance 61 = .ok (.getfield 20, 3) := by decide +kernel
theorem dX5_chance_64 : decode cX5_chance 64 = .ok (.iconst 3, 1) := by decide +kernel
theorem dX5_chance_65 : decode cX5_chance 65 = .ok (.aload_n 1, 1) := by decide +kernel
theorem dX5_chance_66 : decode cX5_chance 66 = .ok (.getfield 61, 3) := by decide +kernel
theorem dX5_chance_69 : decode cX5_chance 69 = .ok (.iastore, 1) := by decide +kernel
theorem dX5_chance_70 : decode cX5_chance 70 = .ok (.aload_n 0, 1) := by decide +kernel
theorem dX5_chance_71 : decode cX5_chance 71 = .ok (.getfield 20, 3) := by decide +kernel
theorem dX5_chance_74 : decode cX5_chance 74 = .ok (.iconst 4, 1) := by decide +kernel
theorem dX5_chance_75 : decode cX5_chance 75 = .ok (.aload_n 1, 1) := by decide +kernel
theorem dX5_chance_76 : decode cX5_chance 76 = .ok (.getfield 64, 3) := by decide +kernel
theorem dX5_chance_79 : decode cX5_chance 79 = .ok (.iastore, 1) := by decide +kernel
theorem dX5_chance_80 : decode cX5_chance 80 = .ok (.aload_n 0, 1) := by decide +kernel
theorem dX5_chance_81 : decode cX5_chance 81 = .ok (.getfield 20, 3) := by decide +kernel
theorem dX5_chance_84 : decode cX5_chance 84 = .ok (.iconst 5, 1) := by decide +kernel
theorem dX5_chance_85 : decode cX5_chance 85 = .ok (.iconst 0, 1) := by decide +kernel
theorem dX5_chance_86 : decode cX5_chance 86 = .ok (.iastore, 1) := by decide +kernel
theorem dX5_chance_87 : decode cX5_chance 87 = .ok (.aload_n 0, 1) := by decide +kernel
theorem dX5_chance_88 : decode cX5_chance 88 = .ok (.getfield 20, 3) := by decide +kernel
theorem dX5_chance_91 : decode cX5_chance 91 = .ok (.bipush 6, 2) := by decide +kernel
theorem dX5_chance_93 : decode cX5_chance 93 = .ok (.iconst 0, 1) := by decide +kernel
theorem dX5_chance_94 : decode cX5_chance 94 = .ok (.iastore, 1) := by decide +kernel
theorem dX5_chance_95 : decode cX5_chance 95 = .ok (.aload_n 0, 1) := by decide +kernel
theorem dX5_chance_96 : decode cX5_chance 96 = .ok (.getfield 20, 3) := by decide +kernel
theorem dX5_chance_99 : decode cX5_chance 99 = .ok (.bipush 7, 2) := by decide +kernel
theorem dX5_chance_101 : decode cX5_chance 101 = .ok (.aload_n 0, 1) := by decide +kernel
theorem dX5_chance_102 : decode cX5_chance 102 = .ok (.getfield 33, 3) := by decide +kernel
theorem dX5_chance_105 : decode cX5_chance 105 = .ok (.iconst 2, 1) := by decide +kernel
theorem dX5_chance_106 : decode cX5_chance 106 = .ok (.aload_n 1, 1) := by decide +kernel
theorem dX5_chance_107 : decode cX5_chance 107 = .ok (.getfield 54, 3) := by decide +kernel
theorem dX5_chance_110 : decode cX5_chance 110 = .ok (.invokevirtual 57, 3) := by decide +kernel
theorem dX5_chance_113 : decode cX5_chance 113 = .ok (.iastore, 1) := by decide +kernel
theorem dX5_chance_114 : decode cX5_chance 114 = .ok (.aload_n 0, 1) := by decide +kernel
theorem dX5_chance_115 : decode cX5_chance 115 = .ok (.aload_n 0, 1) := by decide +kernel
theorem dX5_chance_116 : decode cX5_chance 116 = .ok (.getfield 26, 3) := by decide +kernel
theorem dX5_chance_119 : decode cX5_chance 119 = .ok (.invokevirtual 67, 3) := by decide +kernel
theorem dX5_chance_122 : decode cX5_chance 122 = .ok (.istore 5, 2) := by decide +kernel
theorem dX5_chance_124 : decode cX5_chance 124 = .ok (.iload 5, 2) := by decide +kernel
theorem dX5_chance_126 : decode cX5_chance 126 = .ok (.ifCond .ge 7, 3) := by decide +kernel
theorem dX5_chance_129 : decode cX5_chance 129 = .ok (.iconst 0, 1) := by decide +kernel
theorem dX5_chance_130 : decode cX5_chance 130 = .ok (.goto 17, 3) := by decide +kernel
theorem dX5_chance_133 : decode cX5_chance 133 = .ok (.iload 5, 2) := by decide +kernel
theorem dX5_chance_135 : decode cX5_chance 135 = .ok (.bipush 100, 2) := by decide +kernel
theorem dX5_chance_137 : decode cX5_chance 137 = .ok (.if_icmp .le 8, 3) := by decide +kernel
theorem dX5_chance_140 : decode cX5_chance 140 = .ok (.bipush 100, 2) := by decide +kernel
theorem dX5_chance_142 : decode cX5_chance 142 = .ok (.goto 5, 3) := by decide +kernel
theorem dX5_chance_145 : decode cX5_chance 145 = .ok (.iload 5, 2) := by decide +kernel
theorem dX5_chance_147 : decode cX5_chance 147 = .ok (.ireturn, 1) := by decide +kernel
theorem dX5_worthOfPlace_0 : decode cX5_worthOfPlace 0 = .ok (.aload_n 1, 1) := by decide +kernel
theorem dX5_worthOfPlace_1 : decode cX5_worthOfPlace 1 = .ok (.iload_n 2, 1) := by decide +kernel
theorem dX5_worthOfPlace_2 : decode cX5_worthOfPlace 2 = .ok (.invokevirtual 71, 3) := by decide +kernel
theorem dX5_worthOfPlace_5 : decode cX5_worthOfPlace 5 = .ok (.istore_n 3, 1) := by decide +kernel
theorem dX5_worthOfPlace_6 : decode cX5_worthOfPlace 6 = .ok (.aload_n 0, 1) := by decide +kernel
theorem dX5_worthOfPlace_7 : decode cX5_worthOfPlace 7 = .ok (.getfield 30, 3) := by decide +kernel
theorem dX5_worthOfPlace_10 : decode cX5_worthOfPlace 10 = .ok (.iconst (-1), 1) := by decide +kernel
theorem dX5_worthOfPlace_11 : decode cX5_worthOfPlace 11 = .ok (.if_icmp .ne 20, 3) := by decide +kernel
theorem dX5_worthOfPlace_14 : decode cX5_worthOfPlace 14 = .ok (.iload_n 3, 1) := by decide +kernel
theorem dX5_worthOfPlace_15 : decode cX5_worthOfPlace 15 = .ok (.ifCond .eq 8, 3) := by decide +kernel
theorem dX5_worthOfPlace_18 : decode cX5_worthOfPlace 18 = .ok (.iload_n 3, 1) := by decide +kernel
theorem dX5_worthOfPlace_19 : decode cX5_worthOfPlace 19 = .ok (.iconst 3, 1) := by decide +kernel
theorem dX5_worthOfPlace_20 : decode cX5_worthOfPlace 20 = .ok (.if_icmp .le 7, 3) := by decide +kernel
theorem dX5_worthOfPlace_23 : decode cX5_worthOfPlace 23 = .ok (.iconst 0, 1) := by decide +kernel
theorem dX5_worthOfPlace_24 : decode cX5_worthOfPlace 24 = .ok (.goto 6, 3) := by decide +kernel
theorem dX5_worthOfPlace_27 : decode cX5_worthOfPlace 27 = .ok (.iconst 4, 1) := by decide +kernel
theorem dX5_worthOfPlace_28 : decode cX5_worthOfPlace 28 = .ok (.iload_n 3, 1) := by decide +kernel
theorem dX5_worthOfPlace_29 : decode cX5_worthOfPlace 29 = .ok (.isub, 1) := by decide +kernel
theorem dX5_worthOfPlace_30 : decode cX5_worthOfPlace 30 = .ok (.ireturn, 1) := by decide +kernel
theorem dX5_worthOfPlace_31 : decode cX5_worthOfPlace 31 = .ok (.aload_n 0, 1) := by decide +kernel
theorem dX5_worthOfPlace_32 : decode cX5_worthOfPlace 32 = .ok (.getfield 20, 3) := by decide +kernel
theorem dX5_worthOfPlace_35 : decode cX5_worthOfPlace 35 = .ok (.iconst 0, 1) := by decide +kernel
theorem dX5_worthOfPlace_36 : decode cX5_worthOfPlace 36 = .ok (.invokestatic 76, 3) := by decide +kernel
theorem dX5_worthOfPlace_39 : decode cX5_worthOfPlace 39 = .ok (.aload_n 0, 1) := by decide +kernel
theorem dX5_worthOfPlace_40 : decode cX5_worthOfPlace 40 = .ok (.getfield 20, 3) := by decide +kernel
theorem dX5_worthOfPlace_43 : decode cX5_worthOfPlace 43 = .ok (.iconst 5, 1) := by decide +kernel
theorem dX5_worthOfPlace_44 : decode cX5_worthOfPlace 44 = .ok (.iload_n 3, 1) := by decide +kernel
theorem dX5_worthOfPlace_45 : decode cX5_worthOfPlace 45 = .ok (.iastore, 1) := by decide +kernel
theorem dX5_worthOfPlace_46 : decode cX5_worthOfPlace 46 = .ok (.aload_n 0, 1) := by decide +kernel
theorem dX5_worthOfPlace_47 : decode cX5_worthOfPlace 47 = .ok (.getfield 20, 3) := by decide +kernel
theorem dX5_worthOfPlace_50 : decode cX5_worthOfPlace 50 = .ok (.bipush 6, 2) := by decide +kernel
theorem dX5_worthOfPlace_52 : decode cX5_worthOfPlace 52 = .ok (.aload_n 1, 1) := by decide +kernel
theorem dX5_worthOfPlace_53 : decode cX5_worthOfPlace 53 = .ok (.iload_n 2, 1) := by decide +kernel
theorem dX5_worthOfPlace_54 : decode cX5_worthOfPlace 54 = .ok (.invokevirtual 82, 3) := by decide +kernel
theorem dX5_worthOfPlace_57 : decode cX5_worthOfPlace 57 = .ok (.iastore, 1) := by decide +kernel
theorem dX5_worthOfPlace_58 : decode cX5_worthOfPlace 58 = .ok (.aload_n 0, 1) := by decide +kernel
theorem dX5_worthOfPlace_59 : decode cX5_worthOfPlace 59 = .ok (.getfield 20, 3) := by decide +kernel
theorem dX5_worthOfPlace_62 : decode cX5_worthOfPlace 62 = .ok (.bipush 7, 2) := by decide +kernel
theorem dX5_worthOfPlace_64 : decode cX5_worthOfPlace 64 = .ok (.aload_n 0, 1) := by decide +kernel
theorem dX5_worthOfPlace_65 : decode cX5_worthOfPlace 65 = .ok (.getfield 33, 3) := by decide +kernel
theorem dX5_worthOfPlace_68 : decode cX5_worthOfPlace 68 = .ok (.iconst 2, 1) := by decide +kernel
theorem dX5_worthOfPlace_69 : decode cX5_worthOfPlace 69 = .ok (.iload_n 2, 1) := by decide +kernel
theorem dX5_worthOfPlace_70 : decode cX5_worthOfPlace 70 = .ok (.invokevirtual 57, 3) := by decide +kernel
theorem dX5_worthOfPlace_73 : decode cX5_worthOfPlace 73 = .ok (.iastore, 1) := by decide +kernel
theorem dX5_worthOfPlace_74 : decode cX5_worthOfPlace 74 = .ok (.aload_n 0, 1) := by decide +kernel
theorem dX5_worthOfPlace_75 : decode cX5_worthOfPlace 75 = .ok (.aload_n 0, 1) := by decide +kernel
theorem dX5_worthOfPlace_76 : decode cX5_worthOfPlace 76 = .ok (.getfield 30, 3) := by decide +kernel
theorem dX5_worthOfPlace_79 : decode cX5_worthOfPlace 79 = .ok (.invokevirtual 67, 3) := by decide +kernel
theorem dX5_worthOfPlace_82 : decode cX5_worthOfPlace 82 = .ok (.ireturn, 1) := by decide +kernel
theorem dX5_worth_0 : decode cX5_worth 0 = .ok (.iconst 0, 1) := by decide +kernel
theorem dX5_worth_1 : decode cX5_worth 1 = .ok (.istore_n 2, 1) := by decide +kernel
theorem dX5_worth_2 : decode cX5_worth 2 = .ok (.iconst 0, 1) := by decide +kernel
theorem dX5_worth_3 : decode cX5_worth 3 = .ok (.istore_n 3, 1) := by decide +kernel
theorem dX5_worth_4 : decode cX5_worth 4 = .ok (.iconst 0, 1) := by decide +kernel
theorem dX5_worth_5 : decode cX5_worth 5 = .ok (.istore 4, 2) := by decide +kernel
theorem dX5_worth_7 : decode cX5_worth 7 = .ok (.iload 4, 2) := by decide +kernel
theorem dX5_worth_9 : decode cX5_worth 9 = .ok (.aload_n 0, 1) := by decide +kernel
theorem dX5_worth_10 : decode cX5_worth 10 = .ok (.getfield 16, 3) := by decide +kernel
theorem dX5_worth_13 : decode cX5_worth 13 = .ok (.iload_n 1, 1) := by decide +kernel
theorem dX5_worth_14 : decode cX5_worth 14 = .ok (.iaload, 1) := by decide +kernel
theorem dX5_worth_15 : decode cX5_worth 15 = .ok (.if_icmp .ge 217, 3) := by decide +kernel
theorem dX5_worth_18 : decode cX5_worth 18 = .ok (.aload_n 0, 1) := by decide +kernel
theorem dX5_worth_19 : decode cX5_worth 19 = .ok (.getfield 11, 3) := by decide +kernel
theorem dX5_worth_22 : decode cX5_worth 22 = .ok (.iload_n 1, 1) := by decide +kernel
theorem dX5_worth_23 : decode cX5_worth 23 = .ok (.aaload, 1) := by decide +kernel
theorem dX5_worth_24 : decode cX5_worth 24 = .ok (.iload 4, 2) := by decide +kernel
theorem dX5_worth_26 : decode cX5_worth 26 = .ok (.iaload, 1) := by decide +kernel
theorem dX5_worth_27 : decode cX5_worth 27 = .ok (.istore 5, 2) := by decide +kernel
theorem dX5_worth_29 : decode cX5_worth 29 = .ok (.iload_n 3, 1) := by decide +kernel
theorem dX5_worth_30 : decode cX5_worth 30 = .ok (.ifCond .eq 19, 3) := by decide +kernel
theorem dX5_worth_33 : decode cX5_worth 33 = .ok (.iload 5, 2) := by decide +kernel
theorem dX5_worth_35 : decode cX5_worth 35 = .ok (.bipush (-59), 2) := by decide +kernel
theorem dX5_worth_37 : decode cX5_worth 37 = .ok (.if_icmp .eq 7, 3) := by decide +kernel
theorem dX5_worth_40 : decode cX5_worth 40 = .ok (.iconst 1, 1) := by decide +kernel
theorem dX5_worth_41 : decode cX5_worth 41 = .ok (.goto 4, 3) := by decide +kernel
theorem dX5_worth_44 : decode cX5_worth 44 = .ok (.iconst 0, 1) := by decide +kernel
theorem dX5_worth_45 : decode cX5_worth 45 = .ok (.istore_n 3, 1) := by decide +kernel
theorem dX5_worth_46 : decode cX5_worth 46 = .ok (.goto 180, 3) := by decide +kernel
theorem dX5_worth_49 : decode cX5_worth 49 = .ok (.iload 5, 2) := by decide +kernel
theorem dX5_worth_51 : decode cX5_worth 51 = .ok (.ifCond .lt 48, 3) := by decide +kernel
theorem dX5_worth_54 : decode cX5_worth 54 = .ok (.iload_n 2, 1) := by decide +kernel
theorem dX5_worth_55 : decode cX5_worth 55 = .ok (.bipush 64, 2) := by decide +kernel
theorem dX5_worth_57 : decode cX5_worth 57 = .ok (.if_icmp .ge 169, 3) := by decide +kernel
theorem dX5_worth_60 : decode cX5_worth 60 = .ok (.aload_n 0, 1) := by decide +kernel
theorem dX5_worth_61 : decode cX5_worth 61 = .ok (.getfield 23, 3) := by decide +kernel
theorem dX5_worth_64 : decode cX5_worth 64 = .ok (.iload_n 2, 1) := by decide +kernel
theorem dX5_worth_65 : decode cX5_worth 65 = .ok (.iload 5, 2) := by decide +kernel
theorem dX5_worth_67 : decode cX5_worth 67 = .ok (.sipush 10000, 3) := by decide +kernel
theorem dX5_worth_70 : decode cX5_worth 70 = .ok (.if_icmp .ge 8, 3) := by decide +kernel
theorem dX5_worth_73 : decode cX5_worth 73 = .ok (.iload 5, 2) := by decide +kernel
theorem dX5_worth_75 : decode cX5_worth 75 = .ok (.goto 17, 3) := by decide +kernel
theorem dX5_worth_78 : decode cX5_worth 78 = .ok (.aload_n 0, 1) := by decide +kernel
theorem dX5_worth_79 : decode cX5_worth 79 = .ok (.getfield 20, 3) := by decide +kernel
theorem dX5_worth_82 : decode cX5_worth 82 = .ok (.iload 5, 2) := by decide +kernel
theorem dX5_worth_84 : decode cX5_worth 84 = .ok (.sipush 10000, 3) := by decide +kernel
theorem dX5_worth_87 : decode cX5_worth 87 = .ok (.isub, 1) := by decide +kernel
theorem dX5_worth_88 : decode cX5_worth 88 = .ok (.bipush 7, 2) := by decide +kernel
theorem dX5_worth_90 : decode cX5_worth 90 = .ok (.iand, 1) := by decide +kernel
theorem dX5_worth_91 : decode cX5_worth 91 = .ok (.iaload, 1) := by decide +kernel
theorem dX5_worth_92 : decode cX5_worth 92 = .ok (.iastore, 1) := by decide +kernel
theorem dX5_worth_93 : decode cX5_worth 93 = .ok (.iinc 2 1, 3) := by decide +kernel
theorem dX5_worth_96 : decode cX5_worth 96 = .ok (.goto 130, 3) := by decide +kernel
theorem dX5_worth_99 : decode cX5_worth 99 = .ok (.iload 5, 2) := by decide +kernel
theorem dX5_worth_101 : decode cX5_worth 101 = .ok (.bipush (-59), 2) := by decide +kernel
theorem dX5_worth_103 : decode cX5_worth 103 = .ok (.if_icmp .ne 20, 3) := by decide +kernel
theorem dX5_worth_106 : decode cX5_worth 106 = .ok (.iload_n 2, 1) := by decide +kernel
theorem dX5_worth_107 : decode cX5_worth 107 = .ok (.ifCond .le 14, 3) := by decide +kernel
theorem dX5_worth_110 : decode cX5_worth 110 = .ok (.aload_n 0, 1) := by decide +kernel
theorem dX5_worth_111 : decode cX5_worth 111 = .ok (.getfield 23, 3) := by decide +kernel
theorem dX5_worth_114 : decode cX5_worth 114 = .ok (.iload_n 2, 1) := by decide +kernel
theorem dX5_worth_115 : decode cX5_worth 115 = .ok (.iconst 1, 1) := by decide +kernel
theorem dX5_worth_116 : decode cX5_worth 116 = .ok (.isub, 1) := by decide +kernel
theorem dX5_worth_117 : decode cX5_worth 117 = .ok (.iaload, 1) := by decide +kernel
theorem dX5_worth_118 : decode cX5_worth 118 = .ok (.goto 4, 3) := by decide +kernel
theorem dX5_worth_121 : decode cX5_worth 121 = .ok (.iconst 0, 1) := by decide +kernel
theorem dX5_worth_122 : decode cX5_worth 122 = .ok (.ireturn, 1) := by decide +kernel
theorem dX5_worth_123 : decode cX5_worth 123 = .ok (.iload 5, 2) := by decide +kernel
theorem dX5_worth_125 : decode cX5_worth 125 = .ok (.bipush (-63), 2) := by decide +kernel
theorem dX5_worth_127 : decode cX5_worth 127 = .ok (.if_icmp .ne 33, 3) := by decide +kernel
theorem dX5_worth_130 : decode cX5_worth 130 = .ok (.iload_n 2, 1) := by decide +kernel
theorem dX5_worth_131 : decode cX5_worth 131 = .ok (.ifCond .le 9, 3) := by decide +kernel
theorem dX5_worth_134 : decode cX5_worth 134 = .ok (.iload_n 2, 1) := by decide +kernel
theorem dX5_worth_135 : decode cX5_worth 135 = .ok (.iconst 1, 1) := by decide +kernel
theorem dX5_worth_136 : decode cX5_worth 136 = .ok (.isub, 1) := by decide +kernel
theorem dX5_worth_137 : decode cX5_worth 137 = .ok (.goto 4, 3) := by decide +kernel
theorem dX5_worth_140 : decode cX5_worth 140 = .ok (.iconst 0, 1) := by decide +kernel
theorem dX5_worth_141 : decode cX5_worth 141 = .ok (.istore_n 2, 1) := by decide +kernel
theorem dX5_worth_142 : decode cX5_worth 142 = .ok (.aload_n 0, 1) := by decide +kernel
theorem dX5_worth_143 : decode cX5_worth 143 = .ok (.getfield 23, 3) := by decide +kernel
theorem dX5_worth_146 : decode cX5_worth 146 = .ok (.iload_n 2, 1) := by decide +kernel
theorem dX5_worth_147 : decode cX5_worth 147 = .ok (.iaload, 1) := by decide +kernel
theorem dX5_worth_148 : decode cX5_worth 148 = .ok (.ifCond .ne 7, 3) := by decide +kernel
theorem dX5_worth_151 : decode cX5_worth 151 = .ok (.iconst 1, 1) := by decide +kernel
theorem dX5_worth_152 : decode cX5_worth 152 = .ok (.goto 4, 3) := by decide +kernel
theorem dX5_worth_155 : decode cX5_worth 155 = .ok (.iconst 0, 1) := by decide +kernel
theorem dX5_worth_156 : decode cX5_worth 156 = .ok (.istore_n 3, 1) := by decide +kernel
theorem dX5_worth_157 : decode cX5_worth 157 = .ok (.goto 69, 3) := by decide +kernel
theorem dX5_worth_160 : decode cX5_worth 160 = .ok (.iload 5, 2) := by decide +kernel
theorem dX5_worth_162 : decode cX5_worth 162 = .ok (.bipush (-33), 2) := by decide +kernel
theorem dX5_worth_164 : decode cX5_worth 164 = .ok (.if_icmp .ne 26, 3) := by decide +kernel
theorem dX5_worth_167 : decode cX5_worth 167 = .ok (.aload_n 0, 1) := by decide +kernel
theorem dX5_worth_168 : decode cX5_worth 168 = .ok (.getfield 23, 3) := by decide +kernel
theorem dX5_worth_171 : decode cX5_worth 171 = .ok (.iload_n 2, 1) := by decide +kernel
theorem dX5_worth_172 : decode cX5_worth 172 = .ok (.ifCond .le 9, 3) := by decide +kernel
theorem dX5_worth_175 : decode cX5_worth 175 = .ok (.iload_n 2, 1) := by decide +kernel
theorem dX5_worth_176 : decode cX5_worth 176 = .ok (.iconst 1, 1) := by decide +kernel
theorem dX5_worth_177 : decode cX5_worth 177 = .ok (.isub, 1) := by decide +kernel
theorem dX5_worth_178 : decode cX5_worth 178 = .ok (.goto 4, 3) := by decide +kernel
theorem dX5_worth_181 : decode cX5_worth 181 = .ok (.iconst 0, 1) := by decide +kernel
theorem dX5_worth_182 : decode cX5_worth 182 = .ok (.dup2, 1) := by decide +kernel
theorem dX5_worth_183 : decode cX5_worth 183 = .ok (.iaload, 1) := by decide +kernel
theorem dX5_worth_184 : decode cX5_worth 184 = .ok (.iconst 1, 1) := by decide +kernel
theorem dX5_worth_185 : decode cX5_worth 185 = .ok (.ixor, 1) := by decide +kernel
theorem dX5_worth_186 : decode cX5_worth 186 = .ok (.iastore, 1) := by decide +kernel
theorem dX5_worth_187 : decode cX5_worth 187 = .ok (.goto 39, 3) := by decide +kernel
theorem dX5_worth_190 : decode cX5_worth 190 = .ok (.iload_n 2, 1) := by decide +kernel
theorem dX5_worth_191 : decode cX5_worth 191 = .ok (.iconst 1, 1) := by decide +kernel
theorem dX5_worth_192 : decode cX5_worth 192 = .ok (.if_icmp .le 34, 3) := by decide +kernel
theorem dX5_worth_195 : decode cX5_worth 195 = .ok (.iinc 2 (-1), 3) := by decide +kernel
theorem dX5_worth_198 : decode cX5_worth 198 = .ok (.aload_n 0, 1) := by decide +kernel
theorem dX5_worth_199 : decode cX5_worth 199 = .ok (.getfield 23, 3) := by decide +kernel
theorem dX5_worth_202 : decode cX5_worth 202 = .ok (.iload_n 2, 1) := by decide +kernel
theorem dX5_worth_203 : decode cX5_worth 203 = .ok (.iconst 1, 1) := by decide +kernel
theorem dX5_worth_204 : decode cX5_worth 204 = .ok (.isub, 1) := by decide +kernel
theorem dX5_worth_205 : decode cX5_worth 205 = .ok (.iload 5, 2) := by decide +kernel
theorem dX5_worth_207 : decode cX5_worth 207 = .ok (.ineg, 1) := by decide +kernel
theorem dX5_worth_208 : decode cX5_worth 208 = .ok (.aload_n 0, 1) := by decide +kernel
theorem dX5_worth_209 : decode cX5_worth 209 = .ok (.getfield 23, 3) := by decide +kernel
theorem dX5_worth_212 : decode cX5_worth 212 = .ok (.iload_n 2, 1) := by decide +kernel
theorem dX5_worth_213 : decode cX5_worth 213 = .ok (.iconst 1, 1) := by decide +kernel
theorem dX5_worth_214 : decode cX5_worth 214 = .ok (.isub, 1) := by decide +kernel
theorem dX5_worth_215 : decode cX5_worth 215 = .ok (.iaload, 1) := by decide +kernel
theorem dX5_worth_216 : decode cX5_worth 216 = .ok (.aload_n 0, 1) := by decide +kernel
theorem dX5_worth_217 : decode cX5_worth 217 = .ok (.getfield 23, 3) := by decide +kernel
theorem dX5_worth_220 : decode cX5_worth 220 = .ok (.iload_n 2, 1) := by decide +kernel
theorem dX5_worth_221 : decode cX5_worth 221 = .ok (.iaload, 1) := by decide +kernel
theorem dX5_worth_222 : decode cX5_worth 222 = .ok (.invokestatic 85, 3) := by decide +kernel
theorem dX5_worth_225 : decode cX5_worth 225 = .ok (.iastore, 1) := by decide +kernel
theorem dX5_worth_226 : decode cX5_worth 226 = .ok (.iinc 4 1, 3) := by decide +kernel
theorem dX5_worth_229 : decode cX5_worth 229 = .ok (.goto (-222), 3) := by decide +kernel
theorem dX5_worth_232 : decode cX5_worth 232 = .ok (.iconst 0, 1) := by decide +kernel
theorem dX5_worth_233 : decode cX5_worth 233 = .ok (.ireturn, 1) := by decide +kernel
theorem dX5_joined_0 : decode cX5_joined 0 = .ok (.iload_n 0, 1) := by decide +kernel
theorem dX5_joined_1 : decode cX5_joined 1 = .ok (.tableswitch 191 38 62 #[187, 191, 191, 191, 133, 115, 191, 124, 191, 142, 191, 191, 191, 191, 191, 191, 191, 191, 191, 191, 191, 191, 165, 154, 176], 115) := by decide +kernel
theorem dX5_joined_116 : decode cX5_joined 116 = .ok (.iload_n 1, 1) := by decide +kernel
theorem dX5_joined_117 : decode cX5_joined 117 = .ok (.i2l, 1) := by decide +kernel
theorem dX5_joined_118 : decode cX5_joined 118 = .ok (.iload_n 2, 1) := by decide +kernel
theorem dX5_joined_119 : decode cX5_joined 119 = .ok (.i2l, 1) := by decide +kernel
theorem dX5_joined_120 : decode cX5_joined 120 = .ok (.ladd, 1) := by decide +kernel
theorem dX5_joined_121 : decode cX5_joined 121 = .ok (.invokestatic 89, 3) := by decide +kernel
theorem dX5_joined_124 : decode cX5_joined 124 = .ok (.ireturn, 1) := by decide +kernel
theorem dX5_joined_125 : decode cX5_joined 125 = .ok (.iload_n 1, 1) := by decide +kernel
theorem dX5_joined_126 : decode cX5_joined 126 = .ok (.i2l, 1) := by decide +kernel
theorem dX5_joined_127 : decode cX5_joined 127 = .ok (.iload_n 2, 1) := by decide +kernel
theorem dX5_joined_128 : decode cX5_joined 128 = .ok (.i2l, 1) := by decide +kernel
theorem dX5_joined_129 : decode cX5_joined 129 = .ok (.lsub, 1) := by decide +kernel
theorem dX5_joined_130 : decode cX5_joined 130 = .ok (.invokestatic 89, 3) := by decide +kernel
theorem dX5_joined_133 : decode cX5_joined 133 = .ok (.ireturn, 1) := by decide +kernel
theorem dX5_joined_134 : decode cX5_joined 134 = .ok (.iload_n 1, 1) := by decide +kernel
theorem dX5_joined_135 : decode cX5_joined 135 = .ok (.i2l, 1) := by decide +kernel
theorem dX5_joined_136 : decode cX5_joined 136 = .ok (.iload_n 2, 1) := by decide +kernel
theorem dX5_joined_137 : decode cX5_joined 137 = .ok (.i2l, 1) := by decide +kernel
theorem dX5_joined_138 : decode cX5_joined 138 = .ok (.lmul, 1) := by decide +kernel
theorem dX5_joined_139 : decode cX5_joined 139 = .ok (.invokestatic 89, 3) := by decide +kernel
theorem dX5_joined_142 : decode cX5_joined 142 = .ok (.ireturn, 1) := by decide +kernel
theorem dX5_joined_143 : decode cX5_joined 143 = .ok (.iload_n 2, 1) := by decide +kernel
theorem dX5_joined_144 : decode cX5_joined 144 = .ok (.ifCond .ne 7, 3) := by decide +kernel
theorem dX5_joined_147 : decode cX5_joined 147 = .ok (.iconst 0, 1) := by decide +kernel
theorem dX5_joined_148 : decode cX5_joined 148 = .ok (.goto 6, 3) := by decide +kernel
theorem dX5_joined_151 : decode cX5_joined 151 = .ok (.iload_n 1, 1) := by decide +kernel
theorem dX5_joined_152 : decode cX5_joined 152 = .ok (.iload_n 2, 1) := by decide +kernel
theorem dX5_joined_153 : decode cX5_joined 153 = .ok (.idiv, 1) := by decide +kernel
theorem dX5_joined_154 : decode cX5_joined 154 = .ok (.ireturn, 1) := by decide +kernel
theorem dX5_joined_155 : decode cX5_joined 155 = .ok (.iload_n 1, 1) := by decide +kernel
theorem dX5_joined_156 : decode cX5_joined 156 = .ok (.iload_n 2, 1) := by decide +kernel
theorem dX5_joined_157 : decode cX5_joined 157 = .ok (.if_icmp .ne 7, 3) := by decide +kernel
theorem dX5_joined_160 : decode cX5_joined 160 = .ok (.iconst 1, 1) := by decide +kernel
theorem dX5_joined_161 : decode cX5_joined 161 = .ok (.goto 4, 3) := by decide +kernel
theorem dX5_joined_164 : decode cX5_joined 164 = .ok (.iconst 0, 1) := by decide +kernel
theorem dX5_joined_165 : decode cX5_joined 165 = .ok (.ireturn, 1) := by decide +kernel
theorem dX5_joined_166 : decode cX5_joined 166 = .ok (.iload_n 1, 1) := by decide +kernel
theorem dX5_joined_167 : decode cX5_joined 167 = .ok (.iload_n 2, 1) := by decide +kernel
theorem dX5_joined_168 : decode cX5_joined 168 = .ok (.if_icmp .ge 7, 3) := by decide +kernel
theorem dX5_joined_171 : decode cX5_joined 171 = .ok (.iconst 1, 1) := by decide +kernel
theorem dX5_joined_172 : decode cX5_joined 172 = .ok (.goto 4, 3) := by decide +kernel
theorem dX5_joined_175 : decode cX5_joined 175 = .ok (.iconst 0, 1) := by decide +kernel
theorem dX5_joined_176 : decode cX5_joined 176 = .ok (.ireturn, 1) := by decide +kernel
theorem dX5_joined_177 : decode cX5_joined 177 = .ok (.iload_n 1, 1) := by decide +kernel
theorem dX5_joined_178 : decode cX5_joined 178 = .ok (.iload_n 2, 1) := by decide +kernel
theorem dX5_joined_179 : decode cX5_joined 179 = .ok (.if_icmp .le 7, 3) := by decide +kernel
theorem dX5_joined_182 : decode cX5_joined 182 = .ok (.iconst 1, 1) := by decide +kernel
theorem dX5_joined_183 : decode cX5_joined 183 = .ok (.goto 4, 3) := by decide +kernel
theorem dX5_joined_186 : decode cX5_joined 186 = .ok (.iconst 0, 1) := by decide +kernel
theorem dX5_joined_187 : decode cX5_joined 187 = .ok (.ireturn, 1) := by decide +kernel
theorem dX5_joined_188 : decode cX5_joined 188 = .ok (.iload_n 1, 1) := by decide +kernel
theorem dX5_joined_189 : decode cX5_joined 189 = .ok (.iload_n 2, 1) := by decide +kernel
theorem dX5_joined_190 : decode cX5_joined 190 = .ok (.iand, 1) := by decide +kernel
theorem dX5_joined_191 : decode cX5_joined 191 = .ok (.ireturn, 1) := by decide +kernel
theorem dX5_joined_192 : decode cX5_joined 192 = .ok (.iload_n 1, 1) := by decide +kernel
theorem dX5_joined_193 : decode cX5_joined 193 = .ok (.iload_n 2, 1) := by decide +kernel
theorem dX5_joined_194 : decode cX5_joined 194 = .ok (.ior, 1) := by decide +kernel
theorem dX5_joined_195 : decode cX5_joined 195 = .ok (.ireturn, 1) := by decide +kernel
theorem dX5_held_0 : decode cX5_held 0 = .ok (.lload_n 0, 1) := by decide +kernel
theorem dX5_held_1 : decode cX5_held 1 = .ok (.ldc2_w 93, 3) := by decide +kernel
theorem dX5_held_4 : decode cX5_held 4 = .ok (.lcmp, 1) := by decide +kernel
theorem dX5_held_5 : decode cX5_held 5 = .ok (.ifCond .le 8, 3) := by decide +kernel
theorem dX5_held_8 : decode cX5_held 8 = .ok (.ldc 95, 2) := by decide +kernel
theorem dX5_held_10 : decode cX5_held 10 = .ok (.goto 18, 3) := by decide +kernel
theorem dX5_held_13 : decode cX5_held 13 = .ok (.lload_n 0, 1) := by decide +kernel
theorem dX5_held_14 : decode cX5_held 14 = .ok (.ldc2_w 96, 3) := by decide +kernel
theorem dX5_held_17 : decode cX5_held 17 = .ok (.lcmp, 1) := by decide +kernel
theorem dX5_held_18 : decode cX5_held 18 = .ok (.ifCond .ge 8, 3) := by decide +kernel
theorem dX5_held_21 : decode cX5_held 21 = .ok (.ldc 98, 2) := by decide +kernel
theorem dX5_held_23 : decode cX5_held 23 = .ok (.goto 5, 3) := by decide +kernel
theorem dX5_held_26 : decode cX5_held 26 = .ok (.lload_n 0, 1) := by decide +kernel
theorem dX5_held_27 : decode cX5_held 27 = .ok (.l2i, 1) := by decide +kernel
theorem dX5_held_28 : decode cX5_held 28 = .ok (.ireturn, 1) := by decide +kernel
theorem dX6_init_0 : decode cX6_init 0 = .ok (.aload_n 0, 1) := by decide +kernel
theorem dX6_init_1 : decode cX6_init 1 = .ok (.invokespecial 3, 3) := by decide +kernel
theorem dX6_init_4 : decode cX6_init 4 = .ok (.aload_n 0, 1) := by decide +kernel
theorem dX6_init_5 : decode cX6_init 5 = .ok (.bipush 36, 2) := by decide +kernel
theorem dX6_init_7 : decode cX6_init 7 = .ok (.newarray .int, 2) := by decide +kernel
theorem dX6_init_9 : decode cX6_init 9 = .ok (.putfield 9, 3) := by decide +kernel
theorem dX6_init_12 : decode cX6_init 12 = .ok (.aload_n 0, 1) := by decide +kernel
theorem dX6_init_13 : decode cX6_init 13 = .ok (.bipush 36, 2) := by decide +kernel
theorem dX6_init_15 : decode cX6_init 15 = .ok (.newarray .int, 2) := by decide +kernel
theorem dX6_init_17 : decode cX6_init 17 = .ok (.putfield 15, 3) := by decide +kernel
theorem dX6_init_20 : decode cX6_init 20 = .ok (.aload_n 0, 1) := by decide +kernel
theorem dX6_init_21 : decode cX6_init 21 = .ok (.bipush 36, 2) := by decide +kernel
theorem dX6_init_23 : decode cX6_init 23 = .ok (.newarray .int, 2) := by decide +kernel
theorem dX6_init_25 : decode cX6_init 25 = .ok (.putfield 18, 3) := by decide +kernel
theorem dX6_init_28 : decode cX6_init 28 = .ok (.aload_n 0, 1) := by decide +kernel
theorem dX6_init_29 : decode cX6_init 29 = .ok (.bipush 36, 2) := by decide +kernel
theorem dX6_init_31 : decode cX6_init 31 = .ok (.newarray .int, 2) := by decide +kernel
theorem dX6_init_33 : decode cX6_init 33 = .ok (.putfield 21, 3) := by decide +kernel
theorem dX6_init_36 : decode cX6_init 36 = .ok (.aload_n 0, 1) := by decide +kernel
theorem dX6_init_37 : decode cX6_init 37 = .ok (.bipush 36, 2) := by decide +kernel
theorem dX6_init_39 : decode cX6_init 39 = .ok (.newarray .int, 2) := by decide +kernel
theorem dX6_init_41 : decode cX6_init 41 = .ok (.putfield 24, 3) := by decide +kernel
theorem dX6_init_44 : decode cX6_init 44 = .ok (.return_, 1) := by decide +kernel
theorem dX6_isGood_0 : decode cX6_isGood 0 = .ok (.iload_n 0, 1) := by decide +kernel
theorem dX6_isGood_1 : decode cX6_isGood 1 = .ok (.bipush 7, 2) := by decide +kernel
theorem dX6_isGood_3 : decode cX6_isGood 3 = .ok (.iand, 1) := by decide +kernel
theorem dX6_isGood_4 : decode cX6_isGood 4 = .ok (.invokestatic 27, 3) := by decide +kernel
theorem dX6_isGood_7 : decode cX6_isGood 7 = .ok (.iconst 2, 1) := by decide +kernel
theorem dX6_isGood_8 : decode cX6_isGood 8 = .ok (.if_icmp .lt 7, 3) := by decide +kernel
theorem dX6_isGood_11 : decode cX6_isGood 11 = .ok (.iconst 1, 1) := by decide +kernel
theorem dX6_isGood_12 : decode cX6_isGood 12 = .ok (.goto 4, 3) := by decide +kernel
theorem dX6_isGood_15 : decode cX6_isGood 15 = .ok (.iconst 0, 1) := by decide +kernel
theorem dX6_isGood_16 : decode cX6_isGood 16 = .ok (.ireturn, 1) := by decide +kernel
theorem dX6_add_0 : decode cX6_add 0 = .ok (.aload_n 0, 1) := by decide +kernel
theorem dX6_add_1 : decode cX6_add 1 = .ok (.getfield 33, 3) := by decide +kernel
theorem dX6_add_4 : decode cX6_add 4 = .ok (.bipush 36, 2) := by decide +kernel
theorem dX6_add_6 : decode cX6_add 6 = .ok (.if_icmp .ge 65, 3) := by decide +kernel
theorem dX6_add_9 : decode cX6_add 9 = .ok (.aload_n 0, 1) := by decide +kernel
theorem dX6_add_10 : decode cX6_add 10 = .ok (.getfield 9, 3) := by decide +kernel
theorem dX6_add_13 : decode cX6_add 13 = .ok (.aload_n 0, 1) := by decide +kernel
theorem dX6_add_14 : decode cX6_add 14 = .ok (.getfield 33, 3) := by decide +kernel
theorem dX6_add_17 : decode cX6_add 17 = .ok (.iload_n 1, 1) := by decide +kernel
theorem dX6_add_18 : decode cX6_add 18 = .ok (.iastore, 1) := by decide +kernel
theorem dX6_add_19 : decode cX6_add 19 = .ok (.aload_n 0, 1) := by decide +kernel
theorem dX6_add_20 : decode cX6_add 20 = .ok (.getfield 15, 3) := by decide +kernel
theorem dX6_add_23 : decode cX6_add 23 = .ok (.aload_n 0, 1) := by decide +kernel
theorem dX6_add_24 : decode cX6_add 24 = .ok (.getfield 33, 3) := by decide +kernel
theorem dX6_add_27 : decode cX6_add 27 = .ok (.iload_n 2, 1) := by decide +kernel
theorem dX6_add_28 : decode cX6_add 28 = .ok (.iastore, 1) := by decide +kernel
theorem dX6_add_29 : decode cX6_add 29 = .ok (.aload_n 0, 1) := by decide +kernel
theorem dX6_add_30 : decode cX6_add 30 = .ok (.getfield 18, 3) := by decide +kernel
theorem dX6_add_33 : decode cX6_add 33 = .ok (.aload_n 0, 1) := by decide +kernel
theorem dX6_add_34 : decode cX6_add 34 = .ok (.getfield 33, 3) := by decide +kernel
theorem dX6_add_37 : decode cX6_add 37 = .ok (.iload_n 3, 1) := by decide +kernel
theorem dX6_add_38 : decode cX6_add 38 = .ok (.iastore, 1) := by decide +kernel
theorem dX6_add_39 : decode cX6_add 39 = .ok (.aload_n 0, 1) := by decide +kernel
theorem dX6_add_40 : decode cX6_add 40 = .ok (.getfield 21, 3) := by decide +kernel
theorem dX6_add_43 : decode cX6_add 43 = .ok (.aload_n 0, 1) := by decide +kernel
theorem dX6_add_44 : decode cX6_add 44 = .ok (.getfield 33, 3) := by decide +kernel
theorem dX6_add_47 : decode cX6_add 47 = .ok (.iload 5, 2) := by decide +kernel
theorem dX6_add_49 : decode cX6_add 49 = .ok (.iastore, 1) := by decide +kernel
theorem dX6_add_50 : decode cX6_add 50 = .ok (.aload_n 0, 1) := by decide +kernel
theorem dX6_add_51 : decode cX6_add 51 = .ok (.getfield 24, 3) := by decide +kernel
theorem dX6_add_54 : decode cX6_add 54 = .ok (.aload_n 0, 1) := by decide +kernel
theorem dX6_add_55 : decode cX6_add 55 = .ok (.getfield 33, 3) := by decide +kernel
theorem dX6_add_58 : decode cX6_add 58 = .ok (.iload 4, 2) := by decide +kernel
theorem dX6_add_60 : decode cX6_add 60 = .ok (.iastore, 1) := by decide +kernel
theorem dX6_add_61 : decode cX6_add 61 = .ok (.aload_n 0, 1) := by decide +kernel
theorem dX6_add_62 : decode cX6_add 62 = .ok (.dup, 1) := by decide +kernel
theorem dX6_add_63 : decode cX6_add 63 = .ok (.getfield 33, 3) := by decide +kernel
theorem dX6_add_66 : decode cX6_add 66 = .ok (.iconst 1, 1) := by decide +kernel
theorem dX6_add_67 : decode cX6_add 67 = .ok (.iadd, 1) := by decide +kernel
theorem dX6_add_68 : decode cX6_add 68 = .ok (.putfield 33, 3) := by decide +kernel
theorem dX6_add_71 : decode cX6_add 71 = .ok (.return_, 1) := by decide +kernel
theorem dX6_become_0 : decode cX6_become 0 = .ok (.aload_n 0, 1) := by decide +kernel
theorem dX6_become_1 : decode cX6_become 1 = .ok (.aload_n 1, 1) := by decide +kernel
theorem dX6_become_2 : decode cX6_become 2 = .ok (.getfield 33, 3) := by decide +kernel
theorem dX6_become_5 : decode cX6_become 5 = .ok (.putfield 33, 3) := by decide +kernel
theorem dX6_become_8 : decode cX6_become 8 = .ok (.aload_n 1, 1) := by decide +kernel
theorem dX6_become_9 : decode cX6_become 9 = .ok (.getfield 9, 3) := by decide +kernel
theorem dX6_become_12 : decode cX6_become 12 = .ok (.iconst 0, 1) := by decide +kernel
theorem dX6_become_13 : decode cX6_become 13 = .ok (.aload_n 0, 1) := by decide +kernel
theorem dX6_become_14 : decode cX6_become 14 = .ok (.getfield 9, 3) := by decide +kernel
theorem dX6_become_17 : decode cX6_become 17 = .ok (.iconst 0, 1) := by decide +kernel
theorem dX6_become_18 : decode cX6_become 18 = .ok (.bipush 36, 2) := by decide +kernel
theorem dX6_become_20 : decode cX6_become 20 = .ok (.invokestatic 37, 3) := by decide +kernel
theorem dX6_become_23 : decode cX6_become 23 = .ok (.aload_n 1, 1) := by decide +kernel
theorem dX6_become_24 : decode cX6_become 24 = .ok (.getfield 15, 3) := by decide +kernel
theorem dX6_become_27 : decode cX6_become 27 = .ok (.iconst 0, 1) := by decide +kernel
theorem dX6_become_28 : decode cX6_become 28 = .ok (.aload_n 0, 1) := by decide +kernel
theorem dX6_become_29 : decode cX6_become 29 = .ok (.getfield 15, 3) := by decide +kernel
theorem dX6_become_32 : decode cX6_become 32 = .ok (.iconst 0, 1) := by decide +kernel
theorem dX6_become_33 : decode cX6_become 33 = .ok (.bipush 36, 2) := by decide +kernel
theorem dX6_become_35 : decode cX6_become 35 = .ok (.invokestatic 37, 3) := by decide +kernel
theorem dX6_become_38 : decode cX6_become 38 = .ok (.aload_n 1, 1) := by decide +kernel
theorem dX6_become_39 : decode cX6_become 39 = .ok (.getfield 18, 3) := by decide +kernel
theorem dX6_become_42 : decode cX6_become 42 = .ok (.iconst 0, 1) := by decide +kernel
theorem dX6_become_43 : decode cX6_become 43 = .ok (.aload_n 0, 1) := by decide +kernel
theorem dX6_become_44 : decode cX6_become 44 = .ok (.getfield 18, 3) := by decide +kernel
theorem dX6_become_47 : decode cX6_become 47 = .ok (.iconst 0, 1) := by decide +kernel
theorem dX6_become_48 : decode cX6_become 48 = .ok (.bipush 36, 2) := by decide +kernel
theorem dX6_become_50 : decode cX6_become 50 = .ok (.invokestatic 37, 3) := by decide +kernel
theorem dX6_become_53 : decode cX6_become 53 = .ok (.aload_n 1, 1) := by decide +kernel
theorem dX6_become_54 : decode cX6_become 54 = .ok (.getfield 21, 3) := by decide +kernel
theorem dX6_become_57 : decode cX6_become 57 = .ok (.iconst 0, 1) := by decide +kernel
theorem dX6_become_58 : decode cX6_become 58 = .ok (.aload_n 0, 1) := by decide +kernel
theorem dX6_become_59 : decode cX6_become 59 = .ok (.getfield 21, 3) := by decide +kernel
theorem dX6_become_62 : decode cX6_become 62 = .ok (.iconst 0, 1) := by decide +kernel
theorem dX6_become_63 : decode cX6_become 63 = .ok (.bipush 36, 2) := by decide +kernel
theorem dX6_become_65 : decode cX6_become 65 = .ok (.invokestatic 37, 3) := by decide +kernel
theorem dX6_become_68 : decode cX6_become 68 = .ok (.aload_n 1, 1) := by decide +kernel
theorem dX6_become_69 : decode cX6_become 69 = .ok (.getfield 24, 3) := by decide +kernel
theorem dX6_become_72 : decode cX6_become 72 = .ok (.iconst 0, 1) := by decide +kernel
theorem dX6_become_73 : decode cX6_become 73 = .ok (.aload_n 0, 1) := by decide +kernel
theorem dX6_become_74 : decode cX6_become 74 = .ok (.getfield 24, 3) := by decide +kernel
theorem dX6_become_77 : decode cX6_become 77 = .ok (.iconst 0, 1) := by decide +kernel
theorem dX6_become_78 : decode cX6_become 78 = .ok (.bipush 36, 2) := by decide +kernel
theorem dX6_become_80 : decode cX6_become 80 = .ok (.invokestatic 37, 3) := by decide +kernel
theorem dX6_become_83 : decode cX6_become 83 = .ok (.return_, 1) := by decide +kernel
theorem dX6_isOf_0 : decode cX6_isOf 0 = .ok (.aload_n 0, 1) := by decide +kernel
theorem dX6_isOf_1 : decode cX6_isOf 1 = .ok (.getfield 9, 3) := by decide +kernel
theorem dX6_isOf_4 : decode cX6_isOf 4 = .ok (.iload_n 1, 1) := by decide +kernel
theorem dX6_isOf_5 : decode cX6_isOf 5 = .ok (.iaload, 1) := by decide +kernel
theorem dX6_isOf_6 : decode cX6_isOf 6 = .ok (.iload_n 2, 1) := by decide +kernel
theorem dX6_isOf_7 : decode cX6_isOf 7 = .ok (.if_icmp .ne 17, 3) := by decide +kernel
theorem dX6_isOf_10 : decode cX6_isOf 10 = .ok (.aload_n 0, 1) := by decide +kernel
theorem dX6_isOf_11 : decode cX6_isOf 11 = .ok (.getfield 24, 3) := by decide +kernel
theorem dX6_isOf_14 : decode cX6_isOf 14 = .ok (.iload_n 1, 1) := by decide +kernel
theorem dX6_isOf_15 : decode cX6_isOf 15 = .ok (.iaload, 1) := by decide +kernel
theorem dX6_isOf_16 : decode cX6_isOf 16 = .ok (.iload_n 3, 1) := by decide +kernel
theorem dX6_isOf_17 : decode cX6_isOf 17 = .ok (.if_icmp .ne 7, 3) := by decide +kernel
theorem dX6_isOf_20 : decode cX6_isOf 20 = .ok (.iconst 1, 1) := by decide +kernel
theorem dX6_isOf_21 : decode cX6_isOf 21 = .ok (.goto 4, 3) := by decide +kernel
theorem dX6_isOf_24 : decode cX6_isOf 24 = .ok (.iconst 0, 1) := by decide +kernel
theorem dX6_isOf_25 : decode cX6_isOf 25 = .ok (.ireturn, 1) := by decide +kernel
theorem dX6_goodTries_0 : decode cX6_goodTries 0 = .ok (.iconst 0, 1) := by decide +kernel
theorem dX6_goodTries_1 : decode cX6_goodTries 1 = .ok (.istore_n 3, 1) := by decide +kernel
theorem dX6_goodTries_2 : decode cX6_goodTries 2 = .ok (.iconst 0, 1) := by decide +kernel
theorem dX6_goodTries_3 : decode cX6_goodTries 3 = .ok (.istore 4, 2) := by decide +kernel
theorem dX6_goodTries_5 : decode cX6_goodTries 5 = .ok (.iconst 0, 1) := by decide +kernel
theorem dX6_goodTries_6 : decode cX6_goodTries 6 = .ok (.istore 5, 2) := by decide +kernel
theorem dX6_goodTries_8 : decode cX6_goodTries 8 = .ok (.iload 5, 2) := by decide +kernel
theorem dX6_goodTries_10 : decode cX6_goodTries 10 = .ok (.aload_n 0, 1) := by decide +kernel
theorem dX6_goodTries_11 : decode cX6_goodTries 11 = .ok (.getfield 33, 3) := by decide +kernel
theorem dX6_goodTries_14 : decode cX6_goodTries 14 = .ok (.if_icmp .ge 47, 3) := by decide +kernel
theorem dX6_goodTries_17 : decode cX6_goodTries 17 = .ok (.aload_n 0, 1) := by decide +kernel
theorem dX6_goodTries_18 : decode cX6_goodTries 18 = .ok (.iload 5, 2) := by decide +kernel
theorem dX6_goodTries_20 : decode cX6_goodTries 20 = .ok (.iload_n 1, 1) := by decide +kernel
theorem dX6_goodTries_21 : decode cX6_goodTries 21 = .ok (.iload_n 2, 1) := by decide +kernel
theorem dX6_goodTries_22 : decode cX6_goodTries 22 = .ok (.invokevirtual 43, 3) := by decide +kernel
theorem dX6_goodTries_25 : decode cX6_goodTries 25 = .ok (.ifCond .eq 30, 3) := by decide +kernel
theorem dX6_goodTries_28 : decode cX6_goodTries 28 = .ok (.iload_n 3, 1) := by decide +kernel
theorem dX6_goodTries_29 : decode cX6_goodTries 29 = .ok (.aload_n 0, 1) := by decide +kernel
theorem dX6_goodTries_30 : decode cX6_goodTries 30 = .ok (.getfield 18, 3) := by decide +kernel
theorem dX6_goodTries_33 : decode cX6_goodTries 33 = .ok (.iload 5, 2) := by decide +kernel
theorem dX6_goodTries_35 : decode cX6_goodTries 35 = .ok (.iaload, 1) := by decide +kernel
theorem dX6_goodTries_36 : decode cX6_goodTries 36 = .ok (.invokestatic 47, 3) := by decide +kernel
theorem dX6_goodTries_39 : decode cX6_goodTries 39 = .ok (.ifCond .eq 10, 3) := by decide +kernel
theorem dX6_goodTries_42 : decode cX6_goodTries 42 = .ok (.iconst 1, 1) := by decide +kernel
theorem dX6_goodTries_43 : decode cX6_goodTries 43 = .ok (.iload 4, 2) := by decide +kernel
theorem dX6_goodTries_45 : decode cX6_goodTries 45 = .ok (.ishl, 1) := by decide +kernel
theorem dX6_goodTries_46 : decode cX6_goodTries 46 = .ok (.goto 4, 3) := by decide +kernel
theorem dX6_goodTries_49 : decode cX6_goodTries 49 = .ok (.iconst 0, 1) := by decide +kernel
theorem dX6_goodTries_50 : decode cX6_goodTries 50 = .ok (.ior, 1) := by decide +kernel
theorem dX6_goodTries_51 : decode cX6_goodTries 51 = .ok (.istore_n 3, 1) := by decide +kernel
theorem dX6_goodTries_52 : decode cX6_goodTries 52 = .ok (.iinc 4 1, 3) := by decide +kernel
theorem dX6_goodTries_55 : decode cX6_goodTries 55 = .ok (.iinc 5 1, 3) := by decide +kernel
theorem dX6_goodTries_58 : decode cX6_goodTries 58 = .ok (.goto (-50), 3) := by decide +kernel
theorem dX6_goodTries_61 : decode cX6_goodTries 61 = .ok (.iload_n 3, 1) := by decide +kernel
theorem dX6_goodTries_62 : decode cX6_goodTries 62 = .ok (.ireturn, 1) := by decide +kernel
theorem dX6_goodKilos_0 : decode cX6_goodKilos 0 = .ok (.iconst 0, 1) := by decide +kernel
theorem dX6_goodKilos_1 : decode cX6_goodKilos 1 = .ok (.istore_n 3, 1) := by decide +kernel
theorem dX6_goodKilos_2 : decode cX6_goodKilos 2 = .ok (.iconst 0, 1) := by decide +kernel
theorem dX6_goodKilos_3 : decode cX6_goodKilos 3 = .ok (.istore 4, 2) := by decide +kernel
theorem dX6_goodKilos_5 : decode cX6_goodKilos 5 = .ok (.iload 4, 2) := by decide +kernel
theorem dX6_goodKilos_7 : decode cX6_goodKilos 7 = .ok (.aload_n 0, 1) := by decide +kernel
theorem dX6_goodKilos_8 : decode cX6_goodKilos 8 = .ok (.getfield 33, 3) := by decide +kernel
theorem dX6_goodKilos_11 : decode cX6_goodKilos 11 = .ok (.if_icmp .ge 47, 3) := by decide +kernel
theorem dX6_goodKilos_14 : decode cX6_goodKilos 14 = .ok (.iload_n 3, 1) := by decide +kernel
theorem dX6_goodKilos_15 : decode cX6_goodKilos 15 = .ok (.aload_n 0, 1) := by decide +kernel
theorem dX6_goodKilos_16 : decode cX6_goodKilos 16 = .ok (.iload 4, 2) := by decide +kernel
theorem dX6_goodKilos_18 : decode cX6_goodKilos 18 = .ok (.iload_n 1, 1) := by decide +kernel
theorem dX6_goodKilos_19 : decode cX6_goodKilos 19 = .ok (.iload_n 2, 1) := by decide +kernel
theorem dX6_goodKilos_20 : decode cX6_goodKilos 20 = .ok (.invokevirtual 43, 3) := by decide +kernel
theorem dX6_goodKilos_23 : decode cX6_goodKilos 23 = .ok (.ifCond .eq 26, 3) := by decide +kernel
theorem dX6_goodKilos_26 : decode cX6_goodKilos 26 = .ok (.aload_n 0, 1) := by decide +kernel
theorem dX6_goodKilos_27 : decode cX6_goodKilos 27 = .ok (.getfield 18, 3) := by decide +kernel
theorem dX6_goodKilos_30 : decode cX6_goodKilos 30 = .ok (.iload 4, 2) := by decide +kernel
theorem dX6_goodKilos_32 : decode cX6_goodKilos 32 = .ok (.iaload, 1) := by decide +kernel
theorem dX6_goodKilos_33 : decode cX6_goodKilos 33 = .ok (.invokestatic 47, 3) := by decide +kernel
theorem dX6_goodKilos_36 : decode cX6_goodKilos 36 = .ok (.ifCond .eq 13, 3) := by decide +kernel
theorem dX6_goodKilos_39 : decode cX6_goodKilos 39 = .ok (.aload_n 0, 1) := by decide +kernel
theorem dX6_goodKilos_40 : decode cX6_goodKilos 40 = .ok (.getfield 15, 3) := by decide +kernel
theorem dX6_goodKilos_43 : decode cX6_goodKilos 43 = .ok (.iload 4, 2) := by decide +kernel
theorem dX6_goodKilos_45 : decode cX6_goodKilos 45 = .ok (.iaload, 1) := by decide +kernel
theorem dX6_goodKilos_46 : decode cX6_goodKilos 46 = .ok (.goto 4, 3) := by decide +kernel
theorem dX6_goodKilos_49 : decode cX6_goodKilos 49 = .ok (.iconst 0, 1) := by decide +kernel
theorem dX6_goodKilos_50 : decode cX6_goodKilos 50 = .ok (.iadd, 1) := by decide +kernel
theorem dX6_goodKilos_51 : decode cX6_goodKilos 51 = .ok (.istore_n 3, 1) := by decide +kernel
theorem dX6_goodKilos_52 : decode cX6_goodKilos 52 = .ok (.iinc 4 1, 3) := by decide +kernel
theorem dX6_goodKilos_55 : decode cX6_goodKilos 55 = .ok (.goto (-50), 3) := by decide +kernel
theorem dX6_goodKilos_58 : decode cX6_goodKilos 58 = .ok (.iload_n 3, 1) := by decide +kernel
theorem dX6_goodKilos_59 : decode cX6_goodKilos 59 = .ok (.ireturn, 1) := by decide +kernel
theorem dX6_heaviestOf_0 : decode cX6_heaviestOf 0 = .ok (.iconst 0, 1) := by decide +kernel
theorem dX6_heaviestOf_1 : decode cX6_heaviestOf 1 = .ok (.istore_n 3, 1) := by decide +kernel
theorem dX6_heaviestOf_2 : decode cX6_heaviestOf 2 = .ok (.iconst 0, 1) := by decide +kernel
theorem dX6_heaviestOf_3 : decode cX6_heaviestOf 3 = .ok (.istore 4, 2) := by decide +kernel
theorem dX6_heaviestOf_5 : decode cX6_heaviestOf 5 = .ok (.iload 4, 2) := by decide +kernel
theorem dX6_heaviestOf_7 : decode cX6_heaviestOf 7 = .ok (.aload_n 0, 1) := by decide +kernel
theorem dX6_heaviestOf_8 : decode cX6_heaviestOf 8 = .ok (.getfield 33, 3) := by decide +kernel
theorem dX6_heaviestOf_11 : decode cX6_heaviestOf 11 = .ok (.if_icmp .ge 45, 3) := by decide +kernel
theorem dX6_heaviestOf_14 : decode cX6_heaviestOf 14 = .ok (.aload_n 0, 1) := by decide +kernel
theorem dX6_heaviestOf_15 : decode cX6_heaviestOf 15 = .ok (.iload 4, 2) := by decide +kernel
theorem dX6_heaviestOf_17 : decode cX6_heaviestOf 17 = .ok (.iload_n 1, 1) := by decide +kernel
theorem dX6_heaviestOf_18 : decode cX6_heaviestOf 18 = .ok (.iload_n 2, 1) := by decide +kernel
theorem dX6_heaviestOf_19 : decode cX6_heaviestOf 19 = .ok (.invokevirtual 43, 3) := by decide +kernel
theorem dX6_heaviestOf_22 : decode cX6_heaviestOf 22 = .ok (.ifCond .eq 28, 3) := by decide +kernel
theorem dX6_heaviestOf_25 : decode cX6_heaviestOf 25 = .ok (.aload_n 0, 1) := by decide +kernel
theorem dX6_heaviestOf_26 : decode cX6_heaviestOf 26 = .ok (.getfield 18, 3) := by decide +kernel
theorem dX6_heaviestOf_29 : decode cX6_heaviestOf 29 = .ok (.iload 4, 2) := by decide +kernel
theorem dX6_heaviestOf_31 : decode cX6_heaviestOf 31 = .ok (.iaload, 1) := by decide +kernel
theorem dX6_heaviestOf_32 : decode cX6_heaviestOf 32 = .ok (.invokestatic 47, 3) := by decide +kernel
theorem dX6_heaviestOf_35 : decode cX6_heaviestOf 35 = .ok (.ifCond .eq 15, 3) := by decide +kernel
theorem dX6_heaviestOf_38 : decode cX6_heaviestOf 38 = .ok (.iload_n 3, 1) := by decide +kernel
theorem dX6_heaviestOf_39 : decode cX6_heaviestOf 39 = .ok (.aload_n 0, 1) := by decide +kernel
theorem dX6_heaviestOf_40 : decode cX6_heaviestOf 40 = .ok (.getfield 15, 3) := by decide +kernel
theorem dX6_heaviestOf_43 : decode cX6_heaviestOf 43 = .ok (.iload 4, 2) := by decide +kernel
theorem dX6_heaviestOf_45 : decode cX6_heaviestOf 45 = .ok (.iaload, 1) := by decide +kernel
theorem dX6_heaviestOf_46 : decode cX6_heaviestOf 46 = .ok (.invokestatic 51, 3) := by decide +kernel
theorem dX6_heaviestOf_49 : decode cX6_heaviestOf 49 = .ok (.istore_n 3, 1) := by decide +kernel
theorem dX6_heaviestOf_50 : decode cX6_heaviestOf 50 = .ok (.iinc 4 1, 3) := by decide +kernel
theorem dX6_heaviestOf_53 : decode cX6_heaviestOf 53 = .ok (.goto (-48), 3) := by decide +kernel
theorem dX6_heaviestOf_56 : decode cX6_heaviestOf 56 = .ok (.iload_n 3, 1) := by decide +kernel
theorem dX6_heaviestOf_57 : decode cX6_heaviestOf 57 = .ok (.ireturn, 1) := by decide +kernel
theorem dX6_lightestMissed_0 : decode cX6_lightestMissed 0 = .ok (.sipush 1000, 3) := by decide +kernel
theorem dX6_lightestMissed_3 : decode cX6_lightestMissed 3 = .ok (.istore_n 3, 1) := by decide +kernel
theorem dX6_lightestMissed_4 : decode cX6_lightestMissed 4 = .ok (.iconst 0, 1) := by decide +kernel
theorem dX6_lightestMissed_5 : decode cX6_lightestMissed 5 = .ok (.istore 4, 2) := by decide +kernel
theorem dX6_lightestMissed_7 : decode cX6_lightestMissed 7 = .ok (.iload 4, 2) := by decide +kernel
theorem dX6_lightestMissed_9 : decode cX6_lightestMissed 9 = .ok (.aload_n 0, 1) := by decide +kernel
theorem dX6_lightestMissed_10 : decode cX6_lightestMissed 10 = .ok (.getfield 33, 3) := by decide +kernel
theorem dX6_lightestMissed_13 : decode cX6_lightestMissed 13 = .ok (.if_icmp .ge 45, 3) := by decide +kernel
theorem dX6_lightestMissed_16 : decode cX6_lightestMissed 16 = .ok (.aload_n 0, 1) := by decide +kernel
theorem dX6_lightestMissed_17 : decode cX6_lightestMissed 17 = .ok (.iload 4, 2) := by decide +kernel
theorem dX6_lightestMissed_19 : decode cX6_lightestMissed 19 = .ok (.iload_n 1, 1) := by decide +kernel
theorem dX6_lightestMissed_20 : decode cX6_lightestMissed 20 = .ok (.iload_n 2, 1) := by decide +kernel
theorem dX6_lightestMissed_21 : decode cX6_lightestMissed 21 = .ok (.invokevirtual 43, 3) := by decide +kernel
theorem dX6_lightestMissed_24 : decode cX6_lightestMissed 24 = .ok (.ifCond .eq 28, 3) := by decide +kernel
theorem dX6_lightestMissed_27 : decode cX6_lightestMissed 27 = .ok (.aload_n 0, 1) := by decide +kernel
theorem dX6_lightestMissed_28 : decode cX6_lightestMissed 28 = .ok (.getfield 18, 3) := by decide +kernel
theorem dX6_lightestMissed_31 : decode cX6_lightestMissed 31 = .ok (.iload 4, 2) := by decide +kernel
theorem dX6_lightestMissed_33 : decode cX6_lightestMissed 33 = .ok (.iaload, 1) := by decide +kernel
theorem dX6_lightestMissed_34 : decode cX6_lightestMissed 34 = .ok (.invokestatic 47, 3) := by decide +kernel
theorem dX6_lightestMissed_37 : decode cX6_lightestMissed 37 = .ok (.ifCond .ne 15, 3) := by decide +kernel
theorem dX6_lightestMissed_40 : decode cX6_lightestMissed 40 = .ok (.iload_n 3, 1) := by decide +kernel
theorem dX6_lightestMissed_41 : decode cX6_lightestMissed 41 = .ok (.aload_n 0, 1) := by decide +kernel
theorem dX6_lightestMissed_42 : decode cX6_lightestMissed 42 = .ok (.getfield 15, 3) := by decide +kernel
theorem dX6_lightestMissed_45 : decode cX6_lightestMissed 45 = .ok (.iload 4, 2) := by decide +kernel
theorem dX6_lightestMissed_47 : decode cX6_lightestMissed 47 = .ok (.iaload, 1) := by decide +kernel
theorem dX6_lightestMissed_48 : decode cX6_lightestMissed 48 = .ok (.invokestatic 57, 3) := by decide +kernel
theorem dX6_lightestMissed_51 : decode cX6_lightestMissed 51 = .ok (.istore_n 3, 1) := by decide +kernel
theorem dX6_lightestMissed_52 : decode cX6_lightestMissed 52 = .ok (.iinc 4 1, 3) := by decide +kernel
theorem dX6_lightestMissed_55 : decode cX6_lightestMissed 55 = .ok (.goto (-48), 3) := by decide +kernel
theorem dX6_lightestMissed_58 : decode cX6_lightestMissed 58 = .ok (.iload_n 3, 1) := by decide +kernel
theorem dX6_lightestMissed_59 : decode cX6_lightestMissed 59 = .ok (.ireturn, 1) := by decide +kernel
theorem dX6_heaviestAt_0 : decode cX6_heaviestAt 0 = .ok (.iconst (-1), 1) := by decide +kernel
theorem dX6_heaviestAt_1 : decode cX6_heaviestAt 1 = .ok (.istore_n 2, 1) := by decide +kernel
theorem dX6_heaviestAt_2 : decode cX6_heaviestAt 2 = .ok (.iconst 0, 1) := by decide +kernel
theorem dX6_heaviestAt_3 : decode cX6_heaviestAt 3 = .ok (.istore_n 3, 1) := by decide +kernel
theorem dX6_heaviestAt_4 : decode cX6_heaviestAt 4 = .ok (.iload_n 3, 1) := by decide +kernel
theorem dX6_heaviestAt_5 : decode cX6_heaviestAt 5 = .ok (.aload_n 0, 1) := by decide +kernel
theorem dX6_heaviestAt_6 : decode cX6_heaviestAt 6 = .ok (.getfield 33, 3) := by decide +kernel
theorem dX6_heaviestAt_9 : decode cX6_heaviestAt 9 = .ok (.if_icmp .ge 53, 3) := by decide +kernel
theorem dX6_heaviestAt_12 : decode cX6_heaviestAt 12 = .ok (.aload_n 0, 1) := by decide +kernel
theorem dX6_heaviestAt_13 : decode cX6_heaviestAt 13 = .ok (.getfield 24, 3) := by decide +kernel
theorem dX6_heaviestAt_16 : decode cX6_heaviestAt 16 = .ok (.iload_n 3, 1) := by decide +kernel
theorem dX6_heaviestAt_17 : decode cX6_heaviestAt 17 = .ok (.iaload, 1) := by decide +kernel
theorem dX6_heaviestAt_18 : decode cX6_heaviestAt 18 = .ok (.iload_n 1, 1) := by decide +kernel
theorem dX6_heaviestAt_19 : decode cX6_heaviestAt 19 = .ok (.if_icmp .ne 37, 3) := by decide +kernel
theorem dX6_heaviestAt_22 : decode cX6_heaviestAt 22 = .ok (.aload_n 0, 1) := by decide +kernel
theorem dX6_heaviestAt_23 : decode cX6_heaviestAt 23 = .ok (.getfield 18, 3) := by decide +kernel
theorem dX6_heaviestAt_26 : decode cX6_heaviestAt 26 = .ok (.iload_n 3, 1) := by decide +kernel
theorem dX6_heaviestAt_27 : decode cX6_heaviestAt 27 = .ok (.iaload, 1) := by decide +kernel
theorem dX6_heaviestAt_28 : decode cX6_heaviestAt 28 = .ok (.invokestatic 47, 3) := by decide +kernel
theorem dX6_heaviestAt_31 : decode cX6_heaviestAt 31 = .ok (.ifCond .eq 25, 3) := by decide +kernel
theorem dX6_heaviestAt_34 : decode cX6_heaviestAt 34 = .ok (.iload_n 2, 1) := by decide +kernel
theorem dX6_heaviestAt_35 : decode cX6_heaviestAt 35 = .ok (.iconst (-1), 1) := by decide +kernel
theorem dX6_heaviestAt_36 : decode cX6_heaviestAt 36 = .ok (.if_icmp .eq 18, 3) := by decide +kernel
theorem dX6_heaviestAt_39 : decode cX6_heaviestAt 39 = .ok (.aload_n 0, 1) := by decide +kernel
theorem dX6_heaviestAt_40 : decode cX6_heaviestAt 40 = .ok (.getfield 15, 3) := by decide +kernel
theorem dX6_heaviestAt_43 : decode cX6_heaviestAt 43 = .ok (.iload_n 3, 1) := by decide +kernel
theorem dX6_heaviestAt_44 : decode cX6_heaviestAt 44 = .ok (.iaload, 1) := by decide +kernel
theorem dX6_heaviestAt_45 : decode cX6_heaviestAt 45 = .ok (.aload_n 0, 1) := by decide +kernel
theorem dX6_heaviestAt_46 : decode cX6_heaviestAt 46 = .ok (.getfield 15, 3) := by decide +kernel
theorem dX6_heaviestAt_49 : decode cX6_heaviestAt 49 = .ok (.iload_n 2, 1) := by decide +kernel
theorem dX6_heaviestAt_50 : decode cX6_heaviestAt 50 = .ok (.iaload, 1) := by decide +kernel
theorem dX6_heaviestAt_51 : decode cX6_heaviestAt 51 = .ok (.if_icmp .le 5, 3) := by decide +kernel
theorem dX6_heaviestAt_54 : decode cX6_heaviestAt 54 = .ok (.iload_n 3, 1) := by decide +kernel
theorem dX6_heaviestAt_55 : decode cX6_heaviestAt 55 = .ok (.istore_n 2, 1) := by decide +kernel
theorem dX6_heaviestAt_56 : decode cX6_heaviestAt 56 = .ok (.iinc 3 1, 3) := by decide +kernel
theorem dX6_heaviestAt_59 : decode cX6_heaviestAt 59 = .ok (.goto (-55), 3) := by decide +kernel
theorem dX6_heaviestAt_62 : decode cX6_heaviestAt 62 = .ok (.iload_n 2, 1) := by decide +kernel
theorem dX6_heaviestAt_63 : decode cX6_heaviestAt 63 = .ok (.ireturn, 1) := by decide +kernel
theorem dX6_longestRest_0 : decode cX6_longestRest 0 = .ok (.iconst (-1), 1) := by decide +kernel
theorem dX6_longestRest_1 : decode cX6_longestRest 1 = .ok (.istore_n 3, 1) := by decide +kernel
theorem dX6_longestRest_2 : decode cX6_longestRest 2 = .ok (.iconst (-1), 1) := by decide +kernel
theorem dX6_longestRest_3 : decode cX6_longestRest 3 = .ok (.istore 4, 2) := by decide +kernel
theorem dX6_longestRest_5 : decode cX6_longestRest 5 = .ok (.iconst 0, 1) := by decide +kernel
theorem dX6_longestRest_6 : decode cX6_longestRest 6 = .ok (.istore 5, 2) := by decide +kernel
theorem dX6_longestRest_8 : decode cX6_longestRest 8 = .ok (.iload 5, 2) := by decide +kernel
theorem dX6_longestRest_10 : decode cX6_longestRest 10 = .ok (.aload_n 0, 1) := by decide +kernel
theorem dX6_longestRest_11 : decode cX6_longestRest 11 = .ok (.getfield 33, 3) := by decide +kernel
theorem dX6_longestRest_14 : decode cX6_longestRest 14 = .ok (.if_icmp .ge 54, 3) := by decide +kernel
theorem dX6_longestRest_17 : decode cX6_longestRest 17 = .ok (.aload_n 0, 1) := by decide +kernel
theorem dX6_longestRest_18 : decode cX6_longestRest 18 = .ok (.iload 5, 2) := by decide +kernel
theorem dX6_longestRest_20 : decode cX6_longestRest 20 = .ok (.iload_n 1, 1) := by decide +kernel
theorem dX6_longestRest_21 : decode cX6_longestRest 21 = .ok (.iload_n 2, 1) := by decide +kernel
theorem dX6_longestRest_22 : decode cX6_longestRest 22 = .ok (.invokevirtual 43, 3) := by decide +kernel
theorem dX6_longestRest_25 : decode cX6_longestRest 25 = .ok (.ifCond .eq 37, 3) := by decide +kernel
theorem dX6_longestRest_28 : decode cX6_longestRest 28 = .ok (.iload 4, 2) := by decide +kernel
theorem dX6_longestRest_30 : decode cX6_longestRest 30 = .ok (.iconst (-1), 1) := by decide +kernel
theorem dX6_longestRest_31 : decode cX6_longestRest 31 = .ok (.if_icmp .ne 7, 3) := by decide +kernel
theorem dX6_longestRest_34 : decode cX6_longestRest 34 = .ok (.iconst (-1), 1) := by decide +kernel
theorem dX6_longestRest_35 : decode cX6_longestRest 35 = .ok (.goto 17, 3) := by decide +kernel
theorem dX6_longestRest_38 : decode cX6_longestRest 38 = .ok (.iload_n 3, 1) := by decide +kernel
theorem dX6_longestRest_39 : decode cX6_longestRest 39 = .ok (.aload_n 0, 1) := by decide +kernel
theorem dX6_longestRest_40 : decode cX6_longestRest 40 = .ok (.getfield 21, 3) := by decide +kernel
theorem dX6_longestRest_43 : decode cX6_longestRest 43 = .ok (.iload 5, 2) := by decide +kernel
theorem dX6_longestRest_45 : decode cX6_longestRest 45 = .ok (.iaload, 1) := by decide +kernel
theorem dX6_longestRest_46 : decode cX6_longestRest 46 = .ok (.iload 4, 2) := by decide +kernel
theorem dX6_longestRest_48 : decode cX6_longestRest 48 = .ok (.isub, 1) := by decide +kernel
theorem dX6_longestRest_49 : decode cX6_longestRest 49 = .ok (.invokestatic 51, 3) := by decide +kernel
theorem dX6_longestRest_52 : decode cX6_longestRest 52 = .ok (.istore_n 3, 1) := by decide +kernel
theorem dX6_longestRest_53 : decode cX6_longestRest 53 = .ok (.aload_n 0, 1) := by decide +kernel
theorem dX6_longestRest_54 : decode cX6_longestRest 54 = .ok (.getfield 21, 3) := by decide +kernel
theorem dX6_longestRest_57 : decode cX6_longestRest 57 = .ok (.iload 5, 2) := by decide +kernel
theorem dX6_longestRest_59 : decode cX6_longestRest 59 = .ok (.iaload, 1) := by decide +kernel
theorem dX6_longestRest_60 : decode cX6_longestRest 60 = .ok (.istore 4, 2) := by decide +kernel
theorem dX6_longestRest_62 : decode cX6_longestRest 62 = .ok (.iinc 5 1, 3) := by decide +kernel
theorem dX6_longestRest_65 : decode cX6_longestRest 65 = .ok (.goto (-57), 3) := by decide +kernel
theorem dX6_longestRest_68 : decode cX6_longestRest 68 = .ok (.iload_n 3, 1) := by decide +kernel
theorem dX6_longestRest_69 : decode cX6_longestRest 69 = .ok (.ireturn, 1) := by decide +kernel
theorem dX6_whites_0 : decode cX6_whites 0 = .ok (.iconst 0, 1) := by decide +kernel
theorem dX6_whites_1 : decode cX6_whites 1 = .ok (.istore_n 2, 1) := by decide +kernel
theorem dX6_whites_2 : decode cX6_whites 2 = .ok (.iconst 0, 1) := by decide +kernel
theorem dX6_whites_3 : decode cX6_whites 3 = .ok (.istore_n 3, 1) := by decide +kernel
theorem dX6_whites_4 : decode cX6_whites 4 = .ok (.iload_n 3, 1) := by decide +kernel
theorem dX6_whites_5 : decode cX6_whites 5 = .ok (.aload_n 0, 1) := by decide +kernel
theorem dX6_whites_6 : decode cX6_whites 6 = .ok (.getfield 33, 3) := by decide +kernel
theorem dX6_whites_9 : decode cX6_whites 9 = .ok (.if_icmp .ge 22, 3) := by decide +kernel
theorem dX6_whites_12 : decode cX6_whites 12 = .ok (.iload_n 2, 1) := by decide +kernel
theorem dX6_whites_13 : decode cX6_whites 13 = .ok (.aload_n 0, 1) := by decide +kernel
theorem dX6_whites_14 : decode cX6_whites 14 = .ok (.getfield 18, 3) := by decide +kernel
theorem dX6_whites_17 : decode cX6_whites 17 = .ok (.iload_n 3, 1) := by decide +kernel
theorem dX6_whites_18 : decode cX6_whites 18 = .ok (.iaload, 1) := by decide +kernel
theorem dX6_whites_19 : decode cX6_whites 19 = .ok (.iload_n 1, 1) := by decide +kernel
theorem dX6_whites_20 : decode cX6_whites 20 = .ok (.ishr, 1) := by decide +kernel
theorem dX6_whites_21 : decode cX6_whites 21 = .ok (.iconst 1, 1) := by decide +kernel
theorem dX6_whites_22 : decode cX6_whites 22 = .ok (.iand, 1) := by decide +kernel
theorem dX6_whites_23 : decode cX6_whites 23 = .ok (.iadd, 1) := by decide +kernel
theorem dX6_whites_24 : decode cX6_whites 24 = .ok (.istore_n 2, 1) := by decide +kernel
theorem dX6_whites_25 : decode cX6_whites 25 = .ok (.iinc 3 1, 3) := by decide +kernel
theorem dX6_whites_28 : decode cX6_whites 28 = .ok (.goto (-24), 3) := by decide +kernel
theorem dX6_whites_31 : decode cX6_whites 31 = .ok (.iload_n 2, 1) := by decide +kernel
theorem dX6_whites_32 : decode cX6_whites 32 = .ok (.ireturn, 1) := by decide +kernel
theorem dX6_lonely_0 : decode cX6_lonely 0 = .ok (.iconst 0, 1) := by decide +kernel
theorem dX6_lonely_1 : decode cX6_lonely 1 = .ok (.istore_n 2, 1) := by decide +kernel
theorem dX6_lonely_2 : decode cX6_lonely 2 = .ok (.iconst 0, 1) := by decide +kernel
theorem dX6_lonely_3 : decode cX6_lonely 3 = .ok (.istore_n 3, 1) := by decide +kernel
theorem dX6_lonely_4 : decode cX6_lonely 4 = .ok (.iload_n 3, 1) := by decide +kernel
theorem dX6_lonely_5 : decode cX6_lonely 5 = .ok (.aload_n 0, 1) := by decide +kernel
theorem dX6_lonely_6 : decode cX6_lonely 6 = .ok (.getfield 33, 3) := by decide +kernel
theorem dX6_lonely_9 : decode cX6_lonely 9 = .ok (.if_icmp .ge 44, 3) := by decide +kernel
theorem dX6_lonely_12 : decode cX6_lonely 12 = .ok (.iload_n 2, 1) := by decide +kernel
theorem dX6_lonely_13 : decode cX6_lonely 13 = .ok (.aload_n 0, 1) := by decide +kernel
theorem dX6_lonely_14 : decode cX6_lonely 14 = .ok (.getfield 18, 3) := by decide +kernel
theorem dX6_lonely_17 : decode cX6_lonely 17 = .ok (.iload_n 3, 1) := by decide +kernel
theorem dX6_lonely_18 : decode cX6_lonely 18 = .ok (.iaload, 1) := by decide +kernel
theorem dX6_lonely_19 : decode cX6_lonely 19 = .ok (.iconst 1, 1) := by decide +kernel
theorem dX6_lonely_20 : decode cX6_lonely 20 = .ok (.iload_n 1, 1) := by decide +kernel
theorem dX6_lonely_21 : decode cX6_lonely 21 = .ok (.ishl, 1) := by decide +kernel
theorem dX6_lonely_22 : decode cX6_lonely 22 = .ok (.if_icmp .eq 18, 3) := by decide +kernel
theorem dX6_lonely_25 : decode cX6_lonely 25 = .ok (.aload_n 0, 1) := by decide +kernel
theorem dX6_lonely_26 : decode cX6_lonely 26 = .ok (.getfield 18, 3) := by decide +kernel
theorem dX6_lonely_29 : decode cX6_lonely 29 = .ok (.iload_n 3, 1) := by decide +kernel
theorem dX6_lonely_30 : decode cX6_lonely 30 = .ok (.iaload, 1) := by decide +kernel
theorem dX6_lonely_31 : decode cX6_lonely 31 = .ok (.bipush 7, 2) := by decide +kernel
theorem dX6_lonely_33 : decode cX6_lonely 33 = .ok (.iconst 1, 1) := by decide +kernel
theorem dX6_lonely_34 : decode cX6_lonely 34 = .ok (.iload_n 1, 1) := by decide +kernel
theorem dX6_lonely_35 : decode cX6_lonely 35 = .ok (.ishl, 1) := by decide +kernel
theorem dX6_lonely_36 : decode cX6_lonely 36 = .ok (.isub, 1) := by decide +kernel
theorem dX6_lonely_37 : decode cX6_lonely 37 = .ok (.if_icmp .ne 7, 3) := by decide +kernel
theorem dX6_lonely_40 : decode cX6_lonely 40 = .ok (.iconst 1, 1) := by decide +kernel
theorem dX6_lonely_41 : decode cX6_lonely 41 = .ok (.goto 4, 3) := by decide +kernel
theorem dX6_lonely_44 : decode cX6_lonely 44 = .ok (.iconst 0, 1) := by decide +kernel
theorem dX6_lonely_45 : decode cX6_lonely 45 = .ok (.iadd, 1) := by decide +kernel
theorem dX6_lonely_46 : decode cX6_lonely 46 = .ok (.istore_n 2, 1) := by decide +kernel
theorem dX6_lonely_47 : decode cX6_lonely 47 = .ok (.iinc 3 1, 3) := by decide +kernel
theorem dX6_lonely_50 : decode cX6_lonely 50 = .ok (.goto (-46), 3) := by decide +kernel
theorem dX6_lonely_53 : decode cX6_lonely 53 = .ok (.iload_n 2, 1) := by decide +kernel
theorem dX6_lonely_54 : decode cX6_lonely 54 = .ok (.ireturn, 1) := by decide +kernel
theorem dX7_init_0 : decode cX7_init 0 = .ok (.aload_n 0, 1) := by decide +kernel
theorem dX7_init_1 : decode cX7_init 1 = .ok (.invokespecial 1, 3) := by decide +kernel
theorem dX7_init_4 : decode cX7_init 4 = .ok (.aload_n 0, 1) := by decide +kernel
theorem dX7_init_5 : decode cX7_init 5 = .ok (.aload_n 1, 1) := by decide +kernel
theorem dX7_init_6 : decode cX7_init 6 = .ok (.putfield 7, 3) := by decide +kernel
theorem dX7_init_9 : decode cX7_init 9 = .ok (.return_, 1) := by decide +kernel
theorem dX7_take_0 : decode cX7_take 0 = .ok (.aload_n 0, 1) := by decide +kernel
theorem dX7_take_1 : decode cX7_take 1 = .ok (.iload_n 2, 1) := by decide +kernel
theorem dX7_take_2 : decode cX7_take 2 = .ok (.putfield 13, 3) := by decide +kernel
theorem dX7_take_5 : decode cX7_take 5 = .ok (.aload_n 0, 1) := by decide +kernel
theorem dX7_take_6 : decode cX7_take 6 = .ok (.aload_n 0, 1) := by decide +kernel
theorem dX7_take_7 : decode cX7_take 7 = .ok (.getfield 7, 3) := by decide +kernel
theorem dX7_take_10 : decode cX7_take 10 = .ok (.aload_n 1, 1) := by decide +kernel
theorem dX7_take_11 : decode cX7_take 11 = .ok (.invokevirtual 17, 3) := by decide +kernel
theorem dX7_take_14 : decode cX7_take 14 = .ok (.ifCond .ne 7, 3) := by decide +kernel
theorem dX7_take_17 : decode cX7_take 17 = .ok (.iconst 0, 1) := by decide +kernel
theorem dX7_take_18 : decode cX7_take 18 = .ok (.goto 4, 3) := by decide +kernel
theorem dX7_take_21 : decode cX7_take 21 = .ok (.iconst 1, 1) := by decide +kernel
theorem dX7_take_22 : decode cX7_take 22 = .ok (.iload_n 2, 1) := by decide +kernel
theorem dX7_take_23 : decode cX7_take 23 = .ok (.invokevirtual 25, 3) := by decide +kernel
theorem dX7_take_26 : decode cX7_take 26 = .ok (.putfield 29, 3) := by decide +kernel
theorem dX7_take_29 : decode cX7_take 29 = .ok (.aload_n 0, 1) := by decide +kernel
theorem dX7_take_30 : decode cX7_take 30 = .ok (.aload_n 1, 1) := by decide +kernel
theorem dX7_take_31 : decode cX7_take 31 = .ok (.bipush 29, 2) := by decide +kernel
theorem dX7_take_33 : decode cX7_take 33 = .ok (.iload_n 2, 1) := by decide +kernel
theorem dX7_take_34 : decode cX7_take 34 = .ok (.invokevirtual 32, 3) := by decide +kernel
theorem dX7_take_37 : decode cX7_take 37 = .ok (.putfield 33, 3) := by decide +kernel
theorem dX7_take_40 : decode cX7_take 40 = .ok (.aload_n 0, 1) := by decide +kernel
theorem dX7_take_41 : decode cX7_take 41 = .ok (.aload_n 1, 1) := by decide +kernel
theorem dX7_take_42 : decode cX7_take 42 = .ok (.bipush 35, 2) := by decide +kernel
theorem dX7_take_44 : decode cX7_take 44 = .ok (.iload_n 2, 1) := by decide +kernel
theorem dX7_take_45 : decode cX7_take 45 = .ok (.invokevirtual 32, 3) := by decide +kernel
theorem dX7_take_48 : decode cX7_take 48 = .ok (.putfield 36, 3) := by decide +kernel
theorem dX7_take_51 : decode cX7_take 51 = .ok (.aload_n 0, 1) := by decide +kernel
theorem dX7_take_52 : decode cX7_take 52 = .ok (.aload_n 1, 1) := by decide +kernel
theorem dX7_take_53 : decode cX7_take 53 = .ok (.bipush 11, 2) := by decide +kernel
theorem dX7_take_55 : decode cX7_take 55 = .ok (.iload_n 2, 1) := by decide +kernel
theorem dX7_take_56 : decode cX7_take 56 = .ok (.invokevirtual 32, 3) := by decide +kernel
theorem dX7_take_59 : decode cX7_take 59 = .ok (.putfield 39, 3) := by decide +kernel
theorem dX7_take_62 : decode cX7_take 62 = .ok (.aload_n 0, 1) := by decide +kernel
theorem dX7_take_63 : decode cX7_take 63 = .ok (.aload_n 1, 1) := by decide +kernel
theorem dX7_take_64 : decode cX7_take 64 = .ok (.iload_n 2, 1) := by decide +kernel
theorem dX7_take_65 : decode cX7_take 65 = .ok (.invokevirtual 42, 3) := by decide +kernel
theorem dX7_take_68 : decode cX7_take 68 = .ok (.putfield 46, 3) := by decide +kernel
theorem dX7_take_71 : decode cX7_take 71 = .ok (.return_, 1) := by decide +kernel
theorem dX7_warmUp_0 : decode cX7_warmUp 0 = .ok (.aload_n 0, 1) := by decide +kernel
theorem dX7_warmUp_1 : decode cX7_warmUp 1 = .ok (.bipush 9, 2) := by decide +kernel
theorem dX7_warmUp_3 : decode cX7_warmUp 3 = .ok (.aload_n 0, 1) := by decide +kernel
theorem dX7_warmUp_4 : decode cX7_warmUp 4 = .ok (.getfield 33, 3) := by decide +kernel
theorem dX7_warmUp_7 : decode cX7_warmUp 7 = .ok (.iconst 1, 1) := by decide +kernel
theorem dX7_warmUp_8 : decode cX7_warmUp 8 = .ok (.iadd, 1) := by decide +kernel
theorem dX7_warmUp_9 : decode cX7_warmUp 9 = .ok (.invokestatic 48, 3) := by decide +kernel
theorem dX7_warmUp_12 : decode cX7_warmUp 12 = .ok (.putfield 33, 3) := by decide +kernel
theorem dX7_warmUp_15 : decode cX7_warmUp 15 = .ok (.aload_n 0, 1) := by decide +kernel
theorem dX7_warmUp_16 : decode cX7_warmUp 16 = .ok (.iconst 0, 1) := by decide +kernel
theorem dX7_warmUp_17 : decode cX7_warmUp 17 = .ok (.putfield 46, 3) := by decide +kernel
theorem dX7_warmUp_20 : decode cX7_warmUp 20 = .ok (.return_, 1) := by decide +kernel
theorem dX7_afterLift_0 : decode cX7_afterLift 0 = .ok (.aload_n 0, 1) := by decide +kernel
theorem dX7_afterLift_1 : decode cX7_afterLift 1 = .ok (.dup, 1) := by decide +kernel
theorem dX7_afterLift_2 : decode cX7_afterLift 2 = .ok (.getfield 36, 3) := by decide +kernel
theorem dX7_afterLift_5 : decode cX7_afterLift 5 = .ok (.iconst 1, 1) := by decide +kernel
theorem dX7_afterLift_6 : decode cX7_afterLift 6 = .ok (.iadd, 1) := by decide +kernel
theorem dX7_afterLift_7 : decode cX7_afterLift 7 = .ok (.putfield 36, 3) := by decide +kernel
theorem dX7_afterLift_10 : decode cX7_afterLift 10 = .ok (.aload_n 0, 1) := by decide +kernel
theorem dX7_afterLift_11 : decode cX7_afterLift 11 = .ok (.dup, 1) := by decide +kernel
theorem dX7_afterLift_12 : decode cX7_afterLift 12 = .ok (.getfield 39, 3) := by decide +kernel
theorem dX7_afterLift_15 : decode cX7_afterLift 15 = .ok (.iconst 1, 1) := by decide +kernel
theorem dX7_afterLift_16 : decode cX7_afterLift 16 = .ok (.iadd, 1) := by decide +kernel
theorem dX7_afterLift_17 : decode cX7_afterLift 17 = .ok (.putfield 39, 3) := by decide +kernel
theorem dX7_afterLift_20 : decode cX7_afterLift 20 = .ok (.aload_n 0, 1) := by decide +kernel
theorem dX7_afterLift_21 : decode cX7_afterLift 21 = .ok (.iconst 0, 1) := by decide +kernel
theorem dX7_afterLift_22 : decode cX7_afterLift 22 = .ok (.putfield 46, 3) := by decide +kernel
theorem dX7_afterLift_25 : decode cX7_afterLift 25 = .ok (.return_, 1) := by decide +kernel
theorem dX7_strength_0 : decode cX7_strength 0 = .ok (.aload_n 0, 1) := by decide +kernel
theorem dX7_strength_1 : decode cX7_strength 1 = .ok (.getfield 29, 3) := by decide +kernel
theorem dX7_strength_4 : decode cX7_strength 4 = .ok (.iconst 5, 1) := by decide +kernel
theorem dX7_strength_5 : decode cX7_strength 5 = .ok (.aload_n 0, 1) := by decide +kernel
theorem dX7_strength_6 : decode cX7_strength 6 = .ok (.getfield 33, 3) := by decide +kernel
theorem dX7_strength_9 : decode cX7_strength 9 = .ok (.invokestatic 48, 3) := by decide +kernel
theorem dX7_strength_12 : decode cX7_strength 12 = .ok (.iadd, 1) := by decide +kernel
theorem dX7_strength_13 : decode cX7_strength 13 = .ok (.aload_n 0, 1) := by decide +kernel
theorem dX7_strength_14 : decode cX7_strength 14 = .ok (.getfield 7, 3) := by decide +kernel
theorem dX7_strength_17 : decode cX7_strength 17 = .ok (.iconst 4, 1) := by decide +kernel
theorem dX7_strength_18 : decode cX7_strength 18 = .ok (.aload_n 0, 1) := by decide +kernel
theorem dX7_strength_19 : decode cX7_strength 19 = .ok (.getfield 13, 3) := by decide +kernel
theorem dX7_strength_22 : decode cX7_strength 22 = .ok (.invokevirtual 25, 3) := by decide +kernel
theorem dX7_strength_25 : decode cX7_strength 25 = .ok (.aload_n 0, 1) := by decide +kernel
theorem dX7_strength_26 : decode cX7_strength 26 = .ok (.getfield 36, 3) := by decide +kernel
theorem dX7_strength_29 : decode cX7_strength 29 = .ok (.imul, 1) := by decide +kernel
theorem dX7_strength_30 : decode cX7_strength 30 = .ok (.isub, 1) := by decide +kernel
theorem dX7_strength_31 : decode cX7_strength 31 = .ok (.aload_n 0, 1) := by decide +kernel
theorem dX7_strength_32 : decode cX7_strength 32 = .ok (.getfield 7, 3) := by decide +kernel
theorem dX7_strength_35 : decode cX7_strength 35 = .ok (.iconst 5, 1) := by decide +kernel
theorem dX7_strength_36 : decode cX7_strength 36 = .ok (.aload_n 0, 1) := by decide +kernel
theorem dX7_strength_37 : decode cX7_strength 37 = .ok (.getfield 13, 3) := by decide +kernel
theorem dX7_strength_40 : decode cX7_strength 40 = .ok (.invokevirtual 25, 3) := by decide +kernel
theorem dX7_strength_43 : decode cX7_strength 43 = .ok (.iconst 0, 1) := by decide +kernel
theorem dX7_strength_44 : decode cX7_strength 44 = .ok (.aload_n 0, 1) := by decide +kernel
theorem dX7_strength_45 : decode cX7_strength 45 = .ok (.getfield 46, 3) := by decide +kernel
theorem dX7_strength_48 : decode cX7_strength 48 = .ok (.iconst 2, 1) := by decide +kernel
theorem dX7_strength_49 : decode cX7_strength 49 = .ok (.isub, 1) := by decide +kernel
theorem dX7_strength_50 : decode cX7_strength 50 = .ok (.invokestatic 53, 3) := by decide +kernel
theorem dX7_strength_53 : decode cX7_strength 53 = .ok (.imul, 1) := by decide +kernel
theorem dX7_strength_54 : decode cX7_strength 54 = .ok (.isub, 1) := by decide +kernel
theorem dX7_strength_55 : decode cX7_strength 55 = .ok (.ireturn, 1) := by decide +kernel
theorem dX8_init_0 : decode cX8_init 0 = .ok (.aload_n 0, 1) := by decide +kernel
