theorem dX12_mostOf_41 : decode cX12_mostOf 41 = .ok (.if_icmp .ne 7, 3) := by decide +kernel
theorem dX12_mostOf_44 : decode cX12_mostOf 44 = .ok (.iconst 3, 1) := by decide +kernel
theorem dX12_mostOf_45 : decode cX12_mostOf 45 = .ok (.goto 13, 3) := by decide +kernel
theorem dX12_mostOf_48 : decode cX12_mostOf 48 = .ok (.iload_n 1, 1) := by decide +kernel
theorem dX12_mostOf_49 : decode cX12_mostOf 49 = .ok (.iconst 2, 1) := by decide +kernel
theorem dX12_mostOf_50 : decode cX12_mostOf 50 = .ok (.if_icmp .ne 7, 3) := by decide +kernel
theorem dX12_mostOf_53 : decode cX12_mostOf 53 = .ok (.iconst 5, 1) := by decide +kernel
theorem dX12_mostOf_54 : decode cX12_mostOf 54 = .ok (.goto 4, 3) := by decide +kernel
theorem dX12_mostOf_57 : decode cX12_mostOf 57 = .ok (.iconst 1, 1) := by decide +kernel
theorem dX12_mostOf_58 : decode cX12_mostOf 58 = .ok (.ireturn, 1) := by decide +kernel
theorem dX12_leastOf_0 : decode cX12_leastOf 0 = .ok (.iload_n 0, 1) := by decide +kernel
theorem dX12_leastOf_1 : decode cX12_leastOf 1 = .ok (.bipush 108, 2) := by decide +kernel
theorem dX12_leastOf_3 : decode cX12_leastOf 3 = .ok (.if_icmp .ne 25, 3) := by decide +kernel
theorem dX12_leastOf_6 : decode cX12_leastOf 6 = .ok (.iload_n 1, 1) := by decide +kernel
theorem dX12_leastOf_7 : decode cX12_leastOf 7 = .ok (.iconst 2, 1) := by decide +kernel
theorem dX12_leastOf_8 : decode cX12_leastOf 8 = .ok (.if_icmp .eq 14, 3) := by decide +kernel
theorem dX12_leastOf_11 : decode cX12_leastOf 11 = .ok (.iload_n 1, 1) := by decide +kernel
theorem dX12_leastOf_12 : decode cX12_leastOf 12 = .ok (.iconst 3, 1) := by decide +kernel
theorem dX12_leastOf_13 : decode cX12_leastOf 13 = .ok (.if_icmp .eq 9, 3) := by decide +kernel
theorem dX12_leastOf_16 : decode cX12_leastOf 16 = .ok (.iload_n 1, 1) := by decide +kernel
theorem dX12_leastOf_17 : decode cX12_leastOf 17 = .ok (.bipush 6, 2) := by decide +kernel
theorem dX12_leastOf_19 : decode cX12_leastOf 19 = .ok (.if_icmp .le 7, 3) := by decide +kernel
theorem dX12_leastOf_22 : decode cX12_leastOf 22 = .ok (.iconst 1, 1) := by decide +kernel
theorem dX12_leastOf_23 : decode cX12_leastOf 23 = .ok (.goto 4, 3) := by decide +kernel
theorem dX12_leastOf_26 : decode cX12_leastOf 26 = .ok (.iconst 0, 1) := by decide +kernel
theorem dX12_leastOf_27 : decode cX12_leastOf 27 = .ok (.ireturn, 1) := by decide +kernel
theorem dX12_leastOf_28 : decode cX12_leastOf 28 = .ok (.iload_n 1, 1) := by decide +kernel
theorem dX12_leastOf_29 : decode cX12_leastOf 29 = .ok (.iconst 1, 1) := by decide +kernel
theorem dX12_leastOf_30 : decode cX12_leastOf 30 = .ok (.if_icmp .eq 8, 3) := by decide +kernel
theorem dX12_leastOf_33 : decode cX12_leastOf 33 = .ok (.iload_n 1, 1) := by decide +kernel
theorem dX12_leastOf_34 : decode cX12_leastOf 34 = .ok (.iconst 2, 1) := by decide +kernel
theorem dX12_leastOf_35 : decode cX12_leastOf 35 = .ok (.if_icmp .ne 7, 3) := by decide +kernel
theorem dX12_leastOf_38 : decode cX12_leastOf 38 = .ok (.iconst 1, 1) := by decide +kernel
theorem dX12_leastOf_39 : decode cX12_leastOf 39 = .ok (.goto 4, 3) := by decide +kernel
theorem dX12_leastOf_42 : decode cX12_leastOf 42 = .ok (.iconst 0, 1) := by decide +kernel
theorem dX12_leastOf_43 : decode cX12_leastOf 43 = .ok (.ireturn, 1) := by decide +kernel
theorem dX12_usual_0 : decode cX12_usual 0 = .ok (.iload_n 0, 1) := by decide +kernel
theorem dX12_usual_1 : decode cX12_usual 1 = .ok (.bipush 114, 2) := by decide +kernel
theorem dX12_usual_3 : decode cX12_usual 3 = .ok (.if_icmp .ne 31, 3) := by decide +kernel
theorem dX12_usual_6 : decode cX12_usual 6 = .ok (.iload_n 1, 1) := by decide +kernel
theorem dX12_usual_7 : decode cX12_usual 7 = .ok (.ifCond .ne 7, 3) := by decide +kernel
theorem dX12_usual_10 : decode cX12_usual 10 = .ok (.iconst 2, 1) := by decide +kernel
theorem dX12_usual_11 : decode cX12_usual 11 = .ok (.goto 22, 3) := by decide +kernel
theorem dX12_usual_14 : decode cX12_usual 14 = .ok (.iload_n 1, 1) := by decide +kernel
theorem dX12_usual_15 : decode cX12_usual 15 = .ok (.iconst 1, 1) := by decide +kernel
theorem dX12_usual_16 : decode cX12_usual 16 = .ok (.if_icmp .ne 7, 3) := by decide +kernel
theorem dX12_usual_19 : decode cX12_usual 19 = .ok (.iconst 3, 1) := by decide +kernel
theorem dX12_usual_20 : decode cX12_usual 20 = .ok (.goto 13, 3) := by decide +kernel
theorem dX12_usual_23 : decode cX12_usual 23 = .ok (.iload_n 1, 1) := by decide +kernel
theorem dX12_usual_24 : decode cX12_usual 24 = .ok (.iconst 2, 1) := by decide +kernel
theorem dX12_usual_25 : decode cX12_usual 25 = .ok (.if_icmp .ne 7, 3) := by decide +kernel
theorem dX12_usual_28 : decode cX12_usual 28 = .ok (.iconst 1, 1) := by decide +kernel
theorem dX12_usual_29 : decode cX12_usual 29 = .ok (.goto 4, 3) := by decide +kernel
theorem dX12_usual_32 : decode cX12_usual 32 = .ok (.iconst 0, 1) := by decide +kernel
theorem dX12_usual_33 : decode cX12_usual 33 = .ok (.ireturn, 1) := by decide +kernel
theorem dX12_usual_34 : decode cX12_usual 34 = .ok (.iload_n 1, 1) := by decide +kernel
theorem dX12_usual_35 : decode cX12_usual 35 = .ok (.tableswitch 66 0 9 #[53, 56, 56, 59, 66, 66, 59, 61, 53, 64], 53) := by decide +kernel
theorem dX12_usual_88 : decode cX12_usual 88 = .ok (.bipush 50, 2) := by decide +kernel
theorem dX12_usual_90 : decode cX12_usual 90 = .ok (.ireturn, 1) := by decide +kernel
theorem dX12_usual_91 : decode cX12_usual 91 = .ok (.bipush 60, 2) := by decide +kernel
theorem dX12_usual_93 : decode cX12_usual 93 = .ok (.ireturn, 1) := by decide +kernel
theorem dX12_usual_94 : decode cX12_usual 94 = .ok (.iconst 3, 1) := by decide +kernel
theorem dX12_usual_95 : decode cX12_usual 95 = .ok (.ireturn, 1) := by decide +kernel
theorem dX12_usual_96 : decode cX12_usual 96 = .ok (.bipush 40, 2) := by decide +kernel
theorem dX12_usual_98 : decode cX12_usual 98 = .ok (.ireturn, 1) := by decide +kernel
theorem dX12_usual_99 : decode cX12_usual 99 = .ok (.iconst 2, 1) := by decide +kernel
theorem dX12_usual_100 : decode cX12_usual 100 = .ok (.ireturn, 1) := by decide +kernel
theorem dX12_usual_101 : decode cX12_usual 101 = .ok (.iconst 1, 1) := by decide +kernel
theorem dX12_usual_102 : decode cX12_usual 102 = .ok (.ireturn, 1) := by decide +kernel
theorem dX12_readItems_0 : decode cX12_readItems 0 = .ok (.iconst 0, 1) := by decide +kernel
theorem dX12_readItems_1 : decode cX12_readItems 1 = .ok (.istore 5, 2) := by decide +kernel
theorem dX12_readItems_3 : decode cX12_readItems 3 = .ok (.iload 5, 2) := by decide +kernel
theorem dX12_readItems_5 : decode cX12_readItems 5 = .ok (.aload 4, 2) := by decide +kernel
theorem dX12_readItems_7 : decode cX12_readItems 7 = .ok (.invokevirtual 106, 3) := by decide +kernel
theorem dX12_readItems_10 : decode cX12_readItems 10 = .ok (.if_icmp .ge 21, 3) := by decide +kernel
theorem dX12_readItems_13 : decode cX12_readItems 13 = .ok (.aload_n 2, 1) := by decide +kernel
theorem dX12_readItems_14 : decode cX12_readItems 14 = .ok (.iload_n 3, 1) := by decide +kernel
theorem dX12_readItems_15 : decode cX12_readItems 15 = .ok (.iload 5, 2) := by decide +kernel
theorem dX12_readItems_17 : decode cX12_readItems 17 = .ok (.iadd, 1) := by decide +kernel
theorem dX12_readItems_18 : decode cX12_readItems 18 = .ok (.iload_n 1, 1) := by decide +kernel
theorem dX12_readItems_19 : decode cX12_readItems 19 = .ok (.iload 5, 2) := by decide +kernel
theorem dX12_readItems_21 : decode cX12_readItems 21 = .ok (.invokestatic 228, 3) := by decide +kernel
theorem dX12_readItems_24 : decode cX12_readItems 24 = .ok (.iastore, 1) := by decide +kernel
theorem dX12_readItems_25 : decode cX12_readItems 25 = .ok (.iinc 5 1, 3) := by decide +kernel
theorem dX12_readItems_28 : decode cX12_readItems 28 = .ok (.goto (-25), 3) := by decide +kernel
theorem dX12_readItems_31 : decode cX12_readItems 31 = .ok (.iconst 0, 1) := by decide +kernel
theorem dX12_readItems_32 : decode cX12_readItems 32 = .ok (.istore 5, 2) := by decide +kernel
theorem dX12_readItems_34 : decode cX12_readItems 34 = .ok (.aload 4, 2) := by decide +kernel
theorem dX12_readItems_36 : decode cX12_readItems 36 = .ok (.aload_n 0, 1) := by decide +kernel
theorem dX12_readItems_37 : decode cX12_readItems 37 = .ok (.invokevirtual 145, 3) := by decide +kernel
theorem dX12_readItems_40 : decode cX12_readItems 40 = .ok (.invokestatic 232, 3) := by decide +kernel
theorem dX12_readItems_43 : decode cX12_readItems 43 = .ok (.istore 6, 2) := by decide +kernel
theorem dX12_readItems_45 : decode cX12_readItems 45 = .ok (.iload 6, 2) := by decide +kernel
theorem dX12_readItems_47 : decode cX12_readItems 47 = .ok (.iconst (-1), 1) := by decide +kernel
theorem dX12_readItems_48 : decode cX12_readItems 48 = .ok (.if_icmp .eq 79, 3) := by decide +kernel
theorem dX12_readItems_51 : decode cX12_readItems 51 = .ok (.aload_n 0, 1) := by decide +kernel
theorem dX12_readItems_52 : decode cX12_readItems 52 = .ok (.getfield 135, 3) := by decide +kernel
theorem dX12_readItems_55 : decode cX12_readItems 55 = .ok (.iconst (-1), 1) := by decide +kernel
theorem dX12_readItems_56 : decode cX12_readItems 56 = .ok (.if_icmp .ne 71, 3) := by decide +kernel
theorem dX12_readItems_59 : decode cX12_readItems 59 = .ok (.iload 5, 2) := by decide +kernel
theorem dX12_readItems_61 : decode cX12_readItems 61 = .ok (.iload 6, 2) := by decide +kernel
theorem dX12_readItems_63 : decode cX12_readItems 63 = .ok (.invokestatic 236, 3) := by decide +kernel
theorem dX12_readItems_66 : decode cX12_readItems 66 = .ok (.ifCond .eq 9, 3) := by decide +kernel
theorem dX12_readItems_69 : decode cX12_readItems 69 = .ok (.aload_n 0, 1) := by decide +kernel
theorem dX12_readItems_70 : decode cX12_readItems 70 = .ok (.invokevirtual 141, 3) := by decide +kernel
theorem dX12_readItems_73 : decode cX12_readItems 73 = .ok (.pop, 1) := by decide +kernel
theorem dX12_readItems_74 : decode cX12_readItems 74 = .ok (.return_, 1) := by decide +kernel
theorem dX12_readItems_75 : decode cX12_readItems 75 = .ok (.iload 5, 2) := by decide +kernel
theorem dX12_readItems_77 : decode cX12_readItems 77 = .ok (.iconst 1, 1) := by decide +kernel
theorem dX12_readItems_78 : decode cX12_readItems 78 = .ok (.iload 6, 2) := by decide +kernel
theorem dX12_readItems_80 : decode cX12_readItems 80 = .ok (.ishl, 1) := by decide +kernel
theorem dX12_readItems_81 : decode cX12_readItems 81 = .ok (.ior, 1) := by decide +kernel
theorem dX12_readItems_82 : decode cX12_readItems 82 = .ok (.istore 5, 2) := by decide +kernel
theorem dX12_readItems_84 : decode cX12_readItems 84 = .ok (.aload_n 0, 1) := by decide +kernel
theorem dX12_readItems_85 : decode cX12_readItems 85 = .ok (.aload_n 2, 1) := by decide +kernel
theorem dX12_readItems_86 : decode cX12_readItems 86 = .ok (.iload_n 3, 1) := by decide +kernel
theorem dX12_readItems_87 : decode cX12_readItems 87 = .ok (.iload 6, 2) := by decide +kernel
theorem dX12_readItems_89 : decode cX12_readItems 89 = .ok (.iadd, 1) := by decide +kernel
theorem dX12_readItems_90 : decode cX12_readItems 90 = .ok (.iload_n 1, 1) := by decide +kernel
theorem dX12_readItems_91 : decode cX12_readItems 91 = .ok (.iload 6, 2) := by decide +kernel
theorem dX12_readItems_93 : decode cX12_readItems 93 = .ok (.invokestatic 240, 3) := by decide +kernel
theorem dX12_readItems_96 : decode cX12_readItems 96 = .ok (.iload_n 1, 1) := by decide +kernel
theorem dX12_readItems_97 : decode cX12_readItems 97 = .ok (.iload 6, 2) := by decide +kernel
theorem dX12_readItems_99 : decode cX12_readItems 99 = .ok (.invokestatic 243, 3) := by decide +kernel
theorem dX12_readItems_102 : decode cX12_readItems 102 = .ok (.invokevirtual 246, 3) := by decide +kernel
theorem dX12_readItems_105 : decode cX12_readItems 105 = .ok (.aload_n 0, 1) := by decide +kernel
theorem dX12_readItems_106 : decode cX12_readItems 106 = .ok (.getfield 135, 3) := by decide +kernel
theorem dX12_readItems_109 : decode cX12_readItems 109 = .ok (.iconst (-1), 1) := by decide +kernel
theorem dX12_readItems_110 : decode cX12_readItems 110 = .ok (.if_icmp .ne (-65), 3) := by decide +kernel
theorem dX12_readItems_113 : decode cX12_readItems 113 = .ok (.aload 4, 2) := by decide +kernel
theorem dX12_readItems_115 : decode cX12_readItems 115 = .ok (.aload_n 0, 1) := by decide +kernel
theorem dX12_readItems_116 : decode cX12_readItems 116 = .ok (.invokevirtual 145, 3) := by decide +kernel
theorem dX12_readItems_119 : decode cX12_readItems 119 = .ok (.invokestatic 232, 3) := by decide +kernel
theorem dX12_readItems_122 : decode cX12_readItems 122 = .ok (.istore 6, 2) := by decide +kernel
theorem dX12_readItems_124 : decode cX12_readItems 124 = .ok (.goto (-79), 3) := by decide +kernel
theorem dX12_readItems_127 : decode cX12_readItems 127 = .ok (.return_, 1) := by decide +kernel
theorem dX12_readClause_0 : decode cX12_readClause 0 = .ok (.aload_n 0, 1) := by decide +kernel
theorem dX12_readClause_1 : decode cX12_readClause 1 = .ok (.invokevirtual 145, 3) := by decide +kernel
theorem dX12_readClause_4 : decode cX12_readClause 4 = .ok (.istore_n 1, 1) := by decide +kernel
theorem dX12_readClause_5 : decode cX12_readClause 5 = .ok (.iload_n 1, 1) := by decide +kernel
theorem dX12_readClause_6 : decode cX12_readClause 6 = .ok (.bipush 108, 2) := by decide +kernel
theorem dX12_readClause_8 : decode cX12_readClause 8 = .ok (.if_icmp .ne 12, 3) := by decide +kernel
theorem dX12_readClause_11 : decode cX12_readClause 11 = .ok (.aload_n 0, 1) := by decide +kernel
theorem dX12_readClause_12 : decode cX12_readClause 12 = .ok (.getfield 250, 3) := by decide +kernel
theorem dX12_readClause_15 : decode cX12_readClause 15 = .ok (.bipush 6, 2) := by decide +kernel
theorem dX12_readClause_17 : decode cX12_readClause 17 = .ok (.if_icmp .lt 16, 3) := by decide +kernel
theorem dX12_readClause_20 : decode cX12_readClause 20 = .ok (.iload_n 1, 1) := by decide +kernel
theorem dX12_readClause_21 : decode cX12_readClause 21 = .ok (.bipush 114, 2) := by decide +kernel
theorem dX12_readClause_23 : decode cX12_readClause 23 = .ok (.if_icmp .ne 14, 3) := by decide +kernel
theorem dX12_readClause_26 : decode cX12_readClause 26 = .ok (.aload_n 0, 1) := by decide +kernel
theorem dX12_readClause_27 : decode cX12_readClause 27 = .ok (.getfield 253, 3) := by decide +kernel
theorem dX12_readClause_30 : decode cX12_readClause 30 = .ok (.ifCond .ne 7, 3) := by decide +kernel
theorem dX12_readClause_33 : decode cX12_readClause 33 = .ok (.iconst 1, 1) := by decide +kernel
theorem dX12_readClause_34 : decode cX12_readClause 34 = .ok (.goto 4, 3) := by decide +kernel
theorem dX12_readClause_37 : decode cX12_readClause 37 = .ok (.iconst 0, 1) := by decide +kernel
theorem dX12_readClause_38 : decode cX12_readClause 38 = .ok (.istore_n 2, 1) := by decide +kernel
theorem dX12_readClause_39 : decode cX12_readClause 39 = .ok (.iload_n 2, 1) := by decide +kernel
theorem dX12_readClause_40 : decode cX12_readClause 40 = .ok (.ifCond .ne 9, 3) := by decide +kernel
theorem dX12_readClause_43 : decode cX12_readClause 43 = .ok (.aload_n 0, 1) := by decide +kernel
theorem dX12_readClause_44 : decode cX12_readClause 44 = .ok (.invokevirtual 141, 3) := by decide +kernel
theorem dX12_readClause_47 : decode cX12_readClause 47 = .ok (.pop, 1) := by decide +kernel
theorem dX12_readClause_48 : decode cX12_readClause 48 = .ok (.return_, 1) := by decide +kernel
theorem dX12_readClause_49 : decode cX12_readClause 49 = .ok (.aload_n 0, 1) := by decide +kernel
theorem dX12_readClause_50 : decode cX12_readClause 50 = .ok (.dup, 1) := by decide +kernel
theorem dX12_readClause_51 : decode cX12_readClause 51 = .ok (.getfield 126, 3) := by decide +kernel
theorem dX12_readClause_54 : decode cX12_readClause 54 = .ok (.iconst 1, 1) := by decide +kernel
theorem dX12_readClause_55 : decode cX12_readClause 55 = .ok (.iadd, 1) := by decide +kernel
theorem dX12_readClause_56 : decode cX12_readClause 56 = .ok (.putfield 126, 3) := by decide +kernel
theorem dX12_readClause_59 : decode cX12_readClause 59 = .ok (.iload_n 1, 1) := by decide +kernel
theorem dX12_readClause_60 : decode cX12_readClause 60 = .ok (.bipush 108, 2) := by decide +kernel
theorem dX12_readClause_62 : decode cX12_readClause 62 = .ok (.if_icmp .ne 37, 3) := by decide +kernel
theorem dX12_readClause_65 : decode cX12_readClause 65 = .ok (.aload_n 0, 1) := by decide +kernel
theorem dX12_readClause_66 : decode cX12_readClause 66 = .ok (.dup, 1) := by decide +kernel
theorem dX12_readClause_67 : decode cX12_readClause 67 = .ok (.getfield 250, 3) := by decide +kernel
theorem dX12_readClause_70 : decode cX12_readClause 70 = .ok (.iconst 1, 1) := by decide +kernel
theorem dX12_readClause_71 : decode cX12_readClause 71 = .ok (.iadd, 1) := by decide +kernel
theorem dX12_readClause_72 : decode cX12_readClause 72 = .ok (.putfield 250, 3) := by decide +kernel
theorem dX12_readClause_75 : decode cX12_readClause 75 = .ok (.aload_n 0, 1) := by decide +kernel
theorem dX12_readClause_76 : decode cX12_readClause 76 = .ok (.iload_n 1, 1) := by decide +kernel
theorem dX12_readClause_77 : decode cX12_readClause 77 = .ok (.aload_n 0, 1) := by decide +kernel
theorem dX12_readClause_78 : decode cX12_readClause 78 = .ok (.getfield 40, 3) := by decide +kernel
theorem dX12_readClause_81 : decode cX12_readClause 81 = .ok (.bipush 10, 2) := by decide +kernel
theorem dX12_readClause_83 : decode cX12_readClause 83 = .ok (.aload_n 0, 1) := by decide +kernel
theorem dX12_readClause_84 : decode cX12_readClause 84 = .ok (.getfield 250, 3) := by decide +kernel
theorem dX12_readClause_87 : decode cX12_readClause 87 = .ok (.iconst 1, 1) := by decide +kernel
theorem dX12_readClause_88 : decode cX12_readClause 88 = .ok (.isub, 1) := by decide +kernel
theorem dX12_readClause_89 : decode cX12_readClause 89 = .ok (.imul, 1) := by decide +kernel
theorem dX12_readClause_90 : decode cX12_readClause 90 = .ok (.ldc_w 256, 3) := by decide +kernel
theorem dX12_readClause_93 : decode cX12_readClause 93 = .ok (.invokevirtual 258, 3) := by decide +kernel
theorem dX12_readClause_96 : decode cX12_readClause 96 = .ok (.goto 21, 3) := by decide +kernel
theorem dX12_readClause_99 : decode cX12_readClause 99 = .ok (.aload_n 0, 1) := by decide +kernel
theorem dX12_readClause_100 : decode cX12_readClause 100 = .ok (.iconst 1, 1) := by decide +kernel
theorem dX12_readClause_101 : decode cX12_readClause 101 = .ok (.putfield 253, 3) := by decide +kernel
theorem dX12_readClause_104 : decode cX12_readClause 104 = .ok (.aload_n 0, 1) := by decide +kernel
theorem dX12_readClause_105 : decode cX12_readClause 105 = .ok (.iload_n 1, 1) := by decide +kernel
theorem dX12_readClause_106 : decode cX12_readClause 106 = .ok (.aload_n 0, 1) := by decide +kernel
theorem dX12_readClause_107 : decode cX12_readClause 107 = .ok (.getfield 46, 3) := by decide +kernel
theorem dX12_readClause_110 : decode cX12_readClause 110 = .ok (.iconst 0, 1) := by decide +kernel
theorem dX12_readClause_111 : decode cX12_readClause 111 = .ok (.ldc_w 262, 3) := by decide +kernel
theorem dX12_readClause_114 : decode cX12_readClause 114 = .ok (.invokevirtual 258, 3) := by decide +kernel
theorem dX12_readClause_117 : decode cX12_readClause 117 = .ok (.return_, 1) := by decide +kernel
theorem dX12_readHall_0 : decode cX12_readHall 0 = .ok (.aload_n 0, 1) := by decide +kernel
theorem dX12_readHall_1 : decode cX12_readHall 1 = .ok (.aload_n 0, 1) := by decide +kernel
theorem dX12_readHall_2 : decode cX12_readHall 2 = .ok (.getfield 9, 3) := by decide +kernel
theorem dX12_readHall_5 : decode cX12_readHall 5 = .ok (.iconst 0, 1) := by decide +kernel
theorem dX12_readHall_6 : decode cX12_readHall 6 = .ok (.aload_n 0, 1) := by decide +kernel
theorem dX12_readHall_7 : decode cX12_readHall 7 = .ok (.getfield 116, 3) := by decide +kernel
theorem dX12_readHall_10 : decode cX12_readHall 10 = .ok (.invokevirtual 214, 3) := by decide +kernel
theorem dX12_readHall_13 : decode cX12_readHall 13 = .ok (.aload_n 0, 1) := by decide +kernel
theorem dX12_readHall_14 : decode cX12_readHall 14 = .ok (.iconst 0, 1) := by decide +kernel
theorem dX12_readHall_15 : decode cX12_readHall 15 = .ok (.putfield 250, 3) := by decide +kernel
theorem dX12_readHall_18 : decode cX12_readHall 18 = .ok (.aload_n 0, 1) := by decide +kernel
theorem dX12_readHall_19 : decode cX12_readHall 19 = .ok (.iconst 0, 1) := by decide +kernel
theorem dX12_readHall_20 : decode cX12_readHall 20 = .ok (.putfield 253, 3) := by decide +kernel
theorem dX12_readHall_23 : decode cX12_readHall 23 = .ok (.iconst 0, 1) := by decide +kernel
theorem dX12_readHall_24 : decode cX12_readHall 24 = .ok (.istore_n 1, 1) := by decide +kernel
theorem dX12_readHall_25 : decode cX12_readHall 25 = .ok (.iload_n 1, 1) := by decide +kernel
theorem dX12_readHall_26 : decode cX12_readHall 26 = .ok (.iconst 4, 1) := by decide +kernel
theorem dX12_readHall_27 : decode cX12_readHall 27 = .ok (.if_icmp .ge 21, 3) := by decide +kernel
theorem dX12_readHall_30 : decode cX12_readHall 30 = .ok (.aload_n 0, 1) := by decide +kernel
theorem dX12_readHall_31 : decode cX12_readHall 31 = .ok (.getfield 46, 3) := by decide +kernel
theorem dX12_readHall_34 : decode cX12_readHall 34 = .ok (.iload_n 1, 1) := by decide +kernel
theorem dX12_readHall_35 : decode cX12_readHall 35 = .ok (.bipush 114, 2) := by decide +kernel
theorem dX12_readHall_37 : decode cX12_readHall 37 = .ok (.iload_n 1, 1) := by decide +kernel
theorem dX12_readHall_38 : decode cX12_readHall 38 = .ok (.invokestatic 228, 3) := by decide +kernel
theorem dX12_readHall_41 : decode cX12_readHall 41 = .ok (.iastore, 1) := by decide +kernel
theorem dX12_readHall_42 : decode cX12_readHall 42 = .ok (.iinc 1 1, 3) := by decide +kernel
theorem dX12_readHall_45 : decode cX12_readHall 45 = .ok (.goto (-20), 3) := by decide +kernel
theorem dX12_readHall_48 : decode cX12_readHall 48 = .ok (.iconst 1, 1) := by decide +kernel
theorem dX12_readHall_49 : decode cX12_readHall 49 = .ok (.istore_n 1, 1) := by decide +kernel
theorem dX12_readHall_50 : decode cX12_readHall 50 = .ok (.iload_n 1, 1) := by decide +kernel
theorem dX12_readHall_51 : decode cX12_readHall 51 = .ok (.ifCond .eq 55, 3) := by decide +kernel
theorem dX12_readHall_54 : decode cX12_readHall 54 = .ok (.aload_n 0, 1) := by decide +kernel
theorem dX12_readHall_55 : decode cX12_readHall 55 = .ok (.getfield 135, 3) := by decide +kernel
theorem dX12_readHall_58 : decode cX12_readHall 58 = .ok (.iconst (-1), 1) := by decide +kernel
theorem dX12_readHall_59 : decode cX12_readHall 59 = .ok (.if_icmp .ne 47, 3) := by decide +kernel
theorem dX12_readHall_62 : decode cX12_readHall 62 = .ok (.aload_n 0, 1) := by decide +kernel
theorem dX12_readHall_63 : decode cX12_readHall 63 = .ok (.invokevirtual 264, 3) := by decide +kernel
theorem dX12_readHall_66 : decode cX12_readHall 66 = .ok (.aload_n 0, 1) := by decide +kernel
theorem dX12_readHall_67 : decode cX12_readHall 67 = .ok (.getfield 135, 3) := by decide +kernel
theorem dX12_readHall_70 : decode cX12_readHall 70 = .ok (.iconst (-1), 1) := by decide +kernel
theorem dX12_readHall_71 : decode cX12_readHall 71 = .ok (.if_icmp .ne 16, 3) := by decide +kernel
theorem dX12_readHall_74 : decode cX12_readHall 74 = .ok (.aload_n 0, 1) := by decide +kernel
theorem dX12_readHall_75 : decode cX12_readHall 75 = .ok (.invokevirtual 145, 3) := by decide +kernel
theorem dX12_readHall_78 : decode cX12_readHall 78 = .ok (.bipush 59, 2) := by decide +kernel
theorem dX12_readHall_80 : decode cX12_readHall 80 = .ok (.if_icmp .ne 7, 3) := by decide +kernel
theorem dX12_readHall_83 : decode cX12_readHall 83 = .ok (.iconst 1, 1) := by decide +kernel
theorem dX12_readHall_84 : decode cX12_readHall 84 = .ok (.goto 4, 3) := by decide +kernel
theorem dX12_readHall_87 : decode cX12_readHall 87 = .ok (.iconst 0, 1) := by decide +kernel
theorem dX12_readHall_88 : decode cX12_readHall 88 = .ok (.istore_n 1, 1) := by decide +kernel
theorem dX12_readHall_89 : decode cX12_readHall 89 = .ok (.iload_n 1, 1) := by decide +kernel
theorem dX12_readHall_90 : decode cX12_readHall 90 = .ok (.ifCond .eq (-40), 3) := by decide +kernel
theorem dX12_readHall_93 : decode cX12_readHall 93 = .ok (.aload_n 0, 1) := by decide +kernel
theorem dX12_readHall_94 : decode cX12_readHall 94 = .ok (.dup, 1) := by decide +kernel
theorem dX12_readHall_95 : decode cX12_readHall 95 = .ok (.getfield 126, 3) := by decide +kernel
theorem dX12_readHall_98 : decode cX12_readHall 98 = .ok (.iconst 1, 1) := by decide +kernel
theorem dX12_readHall_99 : decode cX12_readHall 99 = .ok (.iadd, 1) := by decide +kernel
theorem dX12_readHall_100 : decode cX12_readHall 100 = .ok (.putfield 126, 3) := by decide +kernel
theorem dX12_readHall_103 : decode cX12_readHall 103 = .ok (.goto (-53), 3) := by decide +kernel
theorem dX12_readHall_106 : decode cX12_readHall 106 = .ok (.aload_n 0, 1) := by decide +kernel
theorem dX12_readHall_107 : decode cX12_readHall 107 = .ok (.getfield 135, 3) := by decide +kernel
theorem dX12_readHall_110 : decode cX12_readHall 110 = .ok (.iconst (-1), 1) := by decide +kernel
theorem dX12_readHall_111 : decode cX12_readHall 111 = .ok (.if_icmp .ne 23, 3) := by decide +kernel
theorem dX12_readHall_114 : decode cX12_readHall 114 = .ok (.aload_n 0, 1) := by decide +kernel
theorem dX12_readHall_115 : decode cX12_readHall 115 = .ok (.invokevirtual 145, 3) := by decide +kernel
theorem dX12_readHall_118 : decode cX12_readHall 118 = .ok (.iconst (-1), 1) := by decide +kernel
theorem dX12_readHall_119 : decode cX12_readHall 119 = .ok (.if_icmp .ne 10, 3) := by decide +kernel
theorem dX12_readHall_122 : decode cX12_readHall 122 = .ok (.aload_n 0, 1) := by decide +kernel
theorem dX12_readHall_123 : decode cX12_readHall 123 = .ok (.getfield 250, 3) := by decide +kernel
theorem dX12_readHall_126 : decode cX12_readHall 126 = .ok (.ifCond .ne 8, 3) := by decide +kernel
theorem dX12_readHall_129 : decode cX12_readHall 129 = .ok (.aload_n 0, 1) := by decide +kernel
theorem dX12_readHall_130 : decode cX12_readHall 130 = .ok (.invokevirtual 141, 3) := by decide +kernel
theorem dX12_readHall_133 : decode cX12_readHall 133 = .ok (.pop, 1) := by decide +kernel
theorem dX12_readHall_134 : decode cX12_readHall 134 = .ok (.return_, 1) := by decide +kernel
theorem dX12_fault_0 : decode cX12_fault 0 = .ok (.aload_n 0, 1) := by decide +kernel
theorem dX12_fault_1 : decode cX12_fault 1 = .ok (.iconst 0, 1) := by decide +kernel
theorem dX12_fault_2 : decode cX12_fault 2 = .ok (.putfield 103, 3) := by decide +kernel
theorem dX12_fault_5 : decode cX12_fault 5 = .ok (.iload_n 1, 1) := by decide +kernel
theorem dX12_fault_6 : decode cX12_fault 6 = .ok (.i2l, 1) := by decide +kernel
theorem dX12_fault_7 : decode cX12_fault 7 = .ok (.lconst 0, 1) := by decide +kernel
theorem dX12_fault_8 : decode cX12_fault 8 = .ok (.lconst 1, 1) := by decide +kernel
theorem dX12_fault_9 : decode cX12_fault 9 = .ok (.invokestatic 224, 3) := by decide +kernel
theorem dX12_fault_12 : decode cX12_fault 12 = .ok (.ifCond .ne 6, 3) := by decide +kernel
theorem dX12_fault_15 : decode cX12_fault 15 = .ok (.bipush (-2), 2) := by decide +kernel
theorem dX12_fault_17 : decode cX12_fault 17 = .ok (.ireturn, 1) := by decide +kernel
theorem dX12_fault_18 : decode cX12_fault 18 = .ok (.iload_n 1, 1) := by decide +kernel
theorem dX12_fault_19 : decode cX12_fault 19 = .ok (.ifCond .ne 10, 3) := by decide +kernel
theorem dX12_fault_22 : decode cX12_fault 22 = .ok (.aload_n 0, 1) := by decide +kernel
theorem dX12_fault_23 : decode cX12_fault 23 = .ok (.invokevirtual 267, 3) := by decide +kernel
theorem dX12_fault_26 : decode cX12_fault 26 = .ok (.goto 16, 3) := by decide +kernel
theorem dX12_fault_29 : decode cX12_fault 29 = .ok (.aload_n 0, 1) := by decide +kernel
theorem dX12_fault_30 : decode cX12_fault 30 = .ok (.aload_n 0, 1) := by decide +kernel
theorem dX12_fault_31 : decode cX12_fault 31 = .ok (.getfield 9, 3) := by decide +kernel
theorem dX12_fault_34 : decode cX12_fault 34 = .ok (.iconst 0, 1) := by decide +kernel
theorem dX12_fault_35 : decode cX12_fault 35 = .ok (.aload_n 0, 1) := by decide +kernel
theorem dX12_fault_36 : decode cX12_fault 36 = .ok (.getfield 116, 3) := by decide +kernel
theorem dX12_fault_39 : decode cX12_fault 39 = .ok (.invokevirtual 270, 3) := by decide +kernel
theorem dX12_fault_42 : decode cX12_fault 42 = .ok (.aload_n 0, 1) := by decide +kernel
theorem dX12_fault_43 : decode cX12_fault 43 = .ok (.getfield 135, 3) := by decide +kernel
theorem dX12_fault_46 : decode cX12_fault 46 = .ok (.ireturn, 1) := by decide +kernel
theorem dX12_text_0 : decode cX12_text 0 = .ok (.aload_n 0, 1) := by decide +kernel
theorem dX12_text_1 : decode cX12_text 1 = .ok (.iconst 0, 1) := by decide +kernel
theorem dX12_text_2 : decode cX12_text 2 = .ok (.putfield 103, 3) := by decide +kernel
theorem dX12_text_5 : decode cX12_text 5 = .ok (.iload_n 1, 1) := by decide +kernel
theorem dX12_text_6 : decode cX12_text 6 = .ok (.i2l, 1) := by decide +kernel
theorem dX12_text_7 : decode cX12_text 7 = .ok (.lconst 0, 1) := by decide +kernel
theorem dX12_text_8 : decode cX12_text 8 = .ok (.lconst 1, 1) := by decide +kernel
theorem dX12_text_9 : decode cX12_text 9 = .ok (.invokestatic 224, 3) := by decide +kernel
theorem dX12_text_12 : decode cX12_text 12 = .ok (.ifCond .eq 26, 3) := by decide +kernel
theorem dX12_text_15 : decode cX12_text 15 = .ok (.iload_n 1, 1) := by decide +kernel
theorem dX12_text_16 : decode cX12_text 16 = .ok (.iconst 1, 1) := by decide +kernel
theorem dX12_text_17 : decode cX12_text 17 = .ok (.if_icmp .ne 12, 3) := by decide +kernel
theorem dX12_text_20 : decode cX12_text 20 = .ok (.aload_n 0, 1) := by decide +kernel
theorem dX12_text_21 : decode cX12_text 21 = .ok (.getfield 273, 3) := by decide +kernel
theorem dX12_text_24 : decode cX12_text 24 = .ok (.bipush 6, 2) := by decide +kernel
theorem dX12_text_26 : decode cX12_text 26 = .ok (.if_icmp .eq 12, 3) := by decide +kernel
theorem dX12_text_29 : decode cX12_text 29 = .ok (.aload_n 0, 1) := by decide +kernel
theorem dX12_text_30 : decode cX12_text 30 = .ok (.iload_n 1, 1) := by decide +kernel
theorem dX12_text_31 : decode cX12_text 31 = .ok (.invokevirtual 276, 3) := by decide +kernel
theorem dX12_text_34 : decode cX12_text 34 = .ok (.iconst (-1), 1) := by decide +kernel
theorem dX12_text_35 : decode cX12_text 35 = .ok (.if_icmp .eq 5, 3) := by decide +kernel
theorem dX12_text_38 : decode cX12_text 38 = .ok (.iconst (-1), 1) := by decide +kernel
theorem dX12_text_39 : decode cX12_text 39 = .ok (.ireturn, 1) := by decide +kernel
theorem dX12_text_40 : decode cX12_text 40 = .ok (.aload_n 0, 1) := by decide +kernel
theorem dX12_text_41 : decode cX12_text 41 = .ok (.getfield 116, 3) := by decide +kernel
theorem dX12_text_44 : decode cX12_text 44 = .ok (.istore_n 2, 1) := by decide +kernel
theorem dX12_text_45 : decode cX12_text 45 = .ok (.aload_n 0, 1) := by decide +kernel
theorem dX12_text_46 : decode cX12_text 46 = .ok (.iconst 0, 1) := by decide +kernel
theorem dX12_text_47 : decode cX12_text 47 = .ok (.putfield 116, 3) := by decide +kernel
theorem dX12_text_50 : decode cX12_text 50 = .ok (.iload_n 1, 1) := by decide +kernel
theorem dX12_text_51 : decode cX12_text 51 = .ok (.iconst 1, 1) := by decide +kernel
theorem dX12_text_52 : decode cX12_text 52 = .ok (.if_icmp .ne 64, 3) := by decide +kernel
theorem dX12_text_55 : decode cX12_text 55 = .ok (.iconst 0, 1) := by decide +kernel
theorem dX12_text_56 : decode cX12_text 56 = .ok (.istore_n 3, 1) := by decide +kernel
theorem dX12_text_57 : decode cX12_text 57 = .ok (.iload_n 3, 1) := by decide +kernel
theorem dX12_text_58 : decode cX12_text 58 = .ok (.iload_n 2, 1) := by decide +kernel
theorem dX12_text_59 : decode cX12_text 59 = .ok (.if_icmp .ge 30, 3) := by decide +kernel
theorem dX12_text_62 : decode cX12_text 62 = .ok (.aload_n 0, 1) := by decide +kernel
theorem dX12_text_63 : decode cX12_text 63 = .ok (.getfield 13, 3) := by decide +kernel
theorem dX12_text_66 : decode cX12_text 66 = .ok (.sipush 240, 3) := by decide +kernel
theorem dX12_text_69 : decode cX12_text 69 = .ok (.aload_n 0, 1) := by decide +kernel
theorem dX12_text_70 : decode cX12_text 70 = .ok (.getfield 273, 3) := by decide +kernel
theorem dX12_text_73 : decode cX12_text 73 = .ok (.imul, 1) := by decide +kernel
theorem dX12_text_74 : decode cX12_text 74 = .ok (.iload_n 3, 1) := by decide +kernel
theorem dX12_text_75 : decode cX12_text 75 = .ok (.iadd, 1) := by decide +kernel
theorem dX12_text_76 : decode cX12_text 76 = .ok (.aload_n 0, 1) := by decide +kernel
theorem dX12_text_77 : decode cX12_text 77 = .ok (.getfield 9, 3) := by decide +kernel
theorem dX12_text_80 : decode cX12_text 80 = .ok (.iload_n 3, 1) := by decide +kernel
theorem dX12_text_81 : decode cX12_text 81 = .ok (.baload, 1) := by decide +kernel
theorem dX12_text_82 : decode cX12_text 82 = .ok (.bastore, 1) := by decide +kernel
theorem dX12_text_83 : decode cX12_text 83 = .ok (.iinc 3 1, 3) := by decide +kernel
theorem dX12_text_86 : decode cX12_text 86 = .ok (.goto (-29), 3) := by decide +kernel
theorem dX12_text_89 : decode cX12_text 89 = .ok (.aload_n 0, 1) := by decide +kernel
theorem dX12_text_90 : decode cX12_text 90 = .ok (.getfield 16, 3) := by decide +kernel
theorem dX12_text_93 : decode cX12_text 93 = .ok (.aload_n 0, 1) := by decide +kernel
theorem dX12_text_94 : decode cX12_text 94 = .ok (.getfield 273, 3) := by decide +kernel
theorem dX12_text_97 : decode cX12_text 97 = .ok (.iload_n 2, 1) := by decide +kernel
theorem dX12_text_98 : decode cX12_text 98 = .ok (.iastore, 1) := by decide +kernel
theorem dX12_text_99 : decode cX12_text 99 = .ok (.aload_n 0, 1) := by decide +kernel
theorem dX12_text_100 : decode cX12_text 100 = .ok (.dup, 1) := by decide +kernel
theorem dX12_text_101 : decode cX12_text 101 = .ok (.getfield 273, 3) := by decide +kernel
theorem dX12_text_104 : decode cX12_text 104 = .ok (.iconst 1, 1) := by decide +kernel
theorem dX12_text_105 : decode cX12_text 105 = .ok (.iadd, 1) := by decide +kernel
theorem dX12_text_106 : decode cX12_text 106 = .ok (.putfield 273, 3) := by decide +kernel
theorem dX12_text_109 : decode cX12_text 109 = .ok (.aload_n 0, 1) := by decide +kernel
theorem dX12_text_110 : decode cX12_text 110 = .ok (.getfield 273, 3) := by decide +kernel
theorem dX12_text_113 : decode cX12_text 113 = .ok (.iconst 1, 1) := by decide +kernel
theorem dX12_text_114 : decode cX12_text 114 = .ok (.isub, 1) := by decide +kernel
theorem dX12_text_115 : decode cX12_text 115 = .ok (.ireturn, 1) := by decide +kernel
theorem dX12_text_116 : decode cX12_text 116 = .ok (.aload_n 0, 1) := by decide +kernel
theorem dX12_text_117 : decode cX12_text 117 = .ok (.aload_n 0, 1) := by decide +kernel
theorem dX12_text_118 : decode cX12_text 118 = .ok (.getfield 250, 3) := by decide +kernel
theorem dX12_text_121 : decode cX12_text 121 = .ok (.putfield 278, 3) := by decide +kernel
theorem dX12_text_124 : decode cX12_text 124 = .ok (.iconst 0, 1) := by decide +kernel
theorem dX12_text_125 : decode cX12_text 125 = .ok (.istore_n 3, 1) := by decide +kernel
theorem dX12_text_126 : decode cX12_text 126 = .ok (.iload_n 3, 1) := by decide +kernel
theorem dX12_text_127 : decode cX12_text 127 = .ok (.bipush 60, 2) := by decide +kernel
theorem dX12_text_129 : decode cX12_text 129 = .ok (.if_icmp .ge 21, 3) := by decide +kernel
theorem dX12_text_132 : decode cX12_text 132 = .ok (.aload_n 0, 1) := by decide +kernel
theorem dX12_text_133 : decode cX12_text 133 = .ok (.getfield 37, 3) := by decide +kernel
theorem dX12_text_136 : decode cX12_text 136 = .ok (.iload_n 3, 1) := by decide +kernel
theorem dX12_text_137 : decode cX12_text 137 = .ok (.aload_n 0, 1) := by decide +kernel
theorem dX12_text_138 : decode cX12_text 138 = .ok (.getfield 40, 3) := by decide +kernel
theorem dX12_text_141 : decode cX12_text 141 = .ok (.iload_n 3, 1) := by decide +kernel
theorem dX12_text_142 : decode cX12_text 142 = .ok (.iaload, 1) := by decide +kernel
theorem dX12_text_143 : decode cX12_text 143 = .ok (.iastore, 1) := by decide +kernel
theorem dX12_text_144 : decode cX12_text 144 = .ok (.iinc 3 1, 3) := by decide +kernel
theorem dX12_text_147 : decode cX12_text 147 = .ok (.goto (-21), 3) := by decide +kernel
theorem dX12_text_150 : decode cX12_text 150 = .ok (.iconst 0, 1) := by decide +kernel
theorem dX12_text_151 : decode cX12_text 151 = .ok (.istore_n 3, 1) := by decide +kernel
theorem dX12_text_152 : decode cX12_text 152 = .ok (.iload_n 3, 1) := by decide +kernel
theorem dX12_text_153 : decode cX12_text 153 = .ok (.iconst 4, 1) := by decide +kernel
theorem dX12_text_154 : decode cX12_text 154 = .ok (.if_icmp .ge 21, 3) := by decide +kernel
theorem dX12_text_157 : decode cX12_text 157 = .ok (.aload_n 0, 1) := by decide +kernel
theorem dX12_text_158 : decode cX12_text 158 = .ok (.getfield 43, 3) := by decide +kernel
theorem dX12_text_161 : decode cX12_text 161 = .ok (.iload_n 3, 1) := by decide +kernel
theorem dX12_text_162 : decode cX12_text 162 = .ok (.aload_n 0, 1) := by decide +kernel
theorem dX12_text_163 : decode cX12_text 163 = .ok (.getfield 46, 3) := by decide +kernel
theorem dX12_text_166 : decode cX12_text 166 = .ok (.iload_n 3, 1) := by decide +kernel
theorem dX12_text_167 : decode cX12_text 167 = .ok (.iaload, 1) := by decide +kernel
theorem dX12_text_168 : decode cX12_text 168 = .ok (.iastore, 1) := by decide +kernel
theorem dX12_text_169 : decode cX12_text 169 = .ok (.iinc 3 1, 3) := by decide +kernel
theorem dX12_text_172 : decode cX12_text 172 = .ok (.goto (-20), 3) := by decide +kernel
theorem dX12_text_175 : decode cX12_text 175 = .ok (.iconst 0, 1) := by decide +kernel
theorem dX12_text_176 : decode cX12_text 176 = .ok (.istore_n 3, 1) := by decide +kernel
theorem dX12_text_177 : decode cX12_text 177 = .ok (.iload_n 3, 1) := by decide +kernel
theorem dX12_text_178 : decode cX12_text 178 = .ok (.sipush 251, 3) := by decide +kernel
theorem dX12_text_181 : decode cX12_text 181 = .ok (.if_icmp .ge 16, 3) := by decide +kernel
theorem dX12_text_184 : decode cX12_text 184 = .ok (.aload_n 0, 1) := by decide +kernel
theorem dX12_text_185 : decode cX12_text 185 = .ok (.getfield 49, 3) := by decide +kernel
theorem dX12_text_188 : decode cX12_text 188 = .ok (.iload_n 3, 1) := by decide +kernel
theorem dX12_text_189 : decode cX12_text 189 = .ok (.iconst 0, 1) := by decide +kernel
theorem dX12_text_190 : decode cX12_text 190 = .ok (.iastore, 1) := by decide +kernel
theorem dX12_text_191 : decode cX12_text 191 = .ok (.iinc 3 1, 3) := by decide +kernel
theorem dX12_text_194 : decode cX12_text 194 = .ok (.goto (-17), 3) := by decide +kernel
theorem dX12_text_197 : decode cX12_text 197 = .ok (.aload_n 0, 1) := by decide +kernel
theorem dX12_text_198 : decode cX12_text 198 = .ok (.getfield 49, 3) := by decide +kernel
theorem dX12_text_201 : decode cX12_text 201 = .ok (.bipush 69, 2) := by decide +kernel
theorem dX12_text_203 : decode cX12_text 203 = .ok (.iconst (-1), 1) := by decide +kernel
theorem dX12_text_204 : decode cX12_text 204 = .ok (.iastore, 1) := by decide +kernel
theorem dX12_text_205 : decode cX12_text 205 = .ok (.iconst 0, 1) := by decide +kernel
theorem dX12_text_206 : decode cX12_text 206 = .ok (.istore_n 3, 1) := by decide +kernel
theorem dX12_text_207 : decode cX12_text 207 = .ok (.iload_n 3, 1) := by decide +kernel
theorem dX12_text_208 : decode cX12_text 208 = .ok (.aload_n 0, 1) := by decide +kernel
theorem dX12_text_209 : decode cX12_text 209 = .ok (.getfield 278, 3) := by decide +kernel
theorem dX12_text_212 : decode cX12_text 212 = .ok (.if_icmp .ge 98, 3) := by decide +kernel
theorem dX12_text_215 : decode cX12_text 215 = .ok (.aload_n 0, 1) := by decide +kernel
theorem dX12_text_216 : decode cX12_text 216 = .ok (.getfield 49, 3) := by decide +kernel
theorem dX12_text_219 : decode cX12_text 219 = .ok (.bipush 11, 2) := by decide +kernel
theorem dX12_text_221 : decode cX12_text 221 = .ok (.iload_n 3, 1) := by decide +kernel
theorem dX12_text_222 : decode cX12_text 222 = .ok (.imul, 1) := by decide +kernel
theorem dX12_text_223 : decode cX12_text 223 = .ok (.iconst 0, 1) := by decide +kernel
theorem dX12_text_224 : decode cX12_text 224 = .ok (.iadd, 1) := by decide +kernel
theorem dX12_text_225 : decode cX12_text 225 = .ok (.aload_n 0, 1) := by decide +kernel
theorem dX12_text_226 : decode cX12_text 226 = .ok (.getfield 37, 3) := by decide +kernel
theorem dX12_text_229 : decode cX12_text 229 = .ok (.bipush 10, 2) := by decide +kernel
theorem dX12_text_231 : decode cX12_text 231 = .ok (.iload_n 3, 1) := by decide +kernel
theorem dX12_text_232 : decode cX12_text 232 = .ok (.imul, 1) := by decide +kernel
theorem dX12_text_233 : decode cX12_text 233 = .ok (.bipush 7, 2) := by decide +kernel
theorem dX12_text_235 : decode cX12_text 235 = .ok (.iadd, 1) := by decide +kernel
theorem dX12_text_236 : decode cX12_text 236 = .ok (.iaload, 1) := by decide +kernel
theorem dX12_text_237 : decode cX12_text 237 = .ok (.iastore, 1) := by decide +kernel
theorem dX12_text_238 : decode cX12_text 238 = .ok (.aload_n 0, 1) := by decide +kernel
theorem dX12_text_239 : decode cX12_text 239 = .ok (.getfield 49, 3) := by decide +kernel
theorem dX12_text_242 : decode cX12_text 242 = .ok (.bipush 11, 2) := by decide +kernel
theorem dX12_text_244 : decode cX12_text 244 = .ok (.iload_n 3, 1) := by decide +kernel
theorem dX12_text_245 : decode cX12_text 245 = .ok (.imul, 1) := by decide +kernel
theorem dX12_text_246 : decode cX12_text 246 = .ok (.iconst 4, 1) := by decide +kernel
theorem dX12_text_247 : decode cX12_text 247 = .ok (.iadd, 1) := by decide +kernel
theorem dX12_text_248 : decode cX12_text 248 = .ok (.iconst 1, 1) := by decide +kernel
theorem dX12_text_249 : decode cX12_text 249 = .ok (.iastore, 1) := by decide +kernel
theorem dX12_text_250 : decode cX12_text 250 = .ok (.aload_n 0, 1) := by decide +kernel
theorem dX12_text_251 : decode cX12_text 251 = .ok (.getfield 49, 3) := by decide +kernel
theorem dX12_text_254 : decode cX12_text 254 = .ok (.bipush 11, 2) := by decide +kernel
theorem dX12_text_256 : decode cX12_text 256 = .ok (.iload_n 3, 1) := by decide +kernel
theorem dX12_text_257 : decode cX12_text 257 = .ok (.imul, 1) := by decide +kernel
theorem dX12_text_258 : decode cX12_text 258 = .ok (.iconst 5, 1) := by decide +kernel
theorem dX12_text_259 : decode cX12_text 259 = .ok (.iadd, 1) := by decide +kernel
theorem dX12_text_260 : decode cX12_text 260 = .ok (.aload_n 0, 1) := by decide +kernel
theorem dX12_text_261 : decode cX12_text 261 = .ok (.getfield 43, 3) := by decide +kernel
theorem dX12_text_264 : decode cX12_text 264 = .ok (.iconst 0, 1) := by decide +kernel
theorem dX12_text_265 : decode cX12_text 265 = .ok (.iaload, 1) := by decide +kernel
theorem dX12_text_266 : decode cX12_text 266 = .ok (.iastore, 1) := by decide +kernel
theorem dX12_text_267 : decode cX12_text 267 = .ok (.aload_n 0, 1) := by decide +kernel
theorem dX12_text_268 : decode cX12_text 268 = .ok (.getfield 49, 3) := by decide +kernel
theorem dX12_text_271 : decode cX12_text 271 = .ok (.bipush 11, 2) := by decide +kernel
theorem dX12_text_273 : decode cX12_text 273 = .ok (.iload_n 3, 1) := by decide +kernel
theorem dX12_text_274 : decode cX12_text 274 = .ok (.imul, 1) := by decide +kernel
theorem dX12_text_275 : decode cX12_text 275 = .ok (.bipush 7, 2) := by decide +kernel
theorem dX12_text_277 : decode cX12_text 277 = .ok (.iadd, 1) := by decide +kernel
theorem dX12_text_278 : decode cX12_text 278 = .ok (.aload_n 0, 1) := by decide +kernel
theorem dX12_text_279 : decode cX12_text 279 = .ok (.getfield 37, 3) := by decide +kernel
theorem dX12_text_282 : decode cX12_text 282 = .ok (.bipush 10, 2) := by decide +kernel
theorem dX12_text_284 : decode cX12_text 284 = .ok (.iload_n 3, 1) := by decide +kernel
theorem dX12_text_285 : decode cX12_text 285 = .ok (.imul, 1) := by decide +kernel
theorem dX12_text_286 : decode cX12_text 286 = .ok (.bipush 6, 2) := by decide +kernel
theorem dX12_text_288 : decode cX12_text 288 = .ok (.iadd, 1) := by decide +kernel
theorem dX12_text_289 : decode cX12_text 289 = .ok (.iaload, 1) := by decide +kernel
theorem dX12_text_290 : decode cX12_text 290 = .ok (.iastore, 1) := by decide +kernel
theorem dX12_text_291 : decode cX12_text 291 = .ok (.aload_n 0, 1) := by decide +kernel
theorem dX12_text_292 : decode cX12_text 292 = .ok (.getfield 49, 3) := by decide +kernel
theorem dX12_text_295 : decode cX12_text 295 = .ok (.bipush 11, 2) := by decide +kernel
theorem dX12_text_297 : decode cX12_text 297 = .ok (.iload_n 3, 1) := by decide +kernel
theorem dX12_text_298 : decode cX12_text 298 = .ok (.imul, 1) := by decide +kernel
theorem dX12_text_299 : decode cX12_text 299 = .ok (.bipush 10, 2) := by decide +kernel
theorem dX12_text_301 : decode cX12_text 301 = .ok (.iadd, 1) := by decide +kernel
theorem dX12_text_302 : decode cX12_text 302 = .ok (.iconst (-1), 1) := by decide +kernel
theorem dX12_text_303 : decode cX12_text 303 = .ok (.iastore, 1) := by decide +kernel
theorem dX12_text_304 : decode cX12_text 304 = .ok (.iinc 3 1, 3) := by decide +kernel
theorem dX12_text_307 : decode cX12_text 307 = .ok (.goto (-100), 3) := by decide +kernel
theorem dX12_text_310 : decode cX12_text 310 = .ok (.aload_n 0, 1) := by decide +kernel
theorem dX12_text_311 : decode cX12_text 311 = .ok (.iconst 0, 1) := by decide +kernel
theorem dX12_text_312 : decode cX12_text 312 = .ok (.putfield 281, 3) := by decide +kernel
theorem dX12_text_315 : decode cX12_text 315 = .ok (.aload_n 0, 1) := by decide +kernel
theorem dX12_text_316 : decode cX12_text 316 = .ok (.iconst 0, 1) := by decide +kernel
theorem dX12_text_317 : decode cX12_text 317 = .ok (.putfield 284, 3) := by decide +kernel
theorem dX12_text_320 : decode cX12_text 320 = .ok (.aload_n 0, 1) := by decide +kernel
theorem dX12_text_321 : decode cX12_text 321 = .ok (.getfield 278, 3) := by decide +kernel
theorem dX12_text_324 : decode cX12_text 324 = .ok (.ireturn, 1) := by decide +kernel
theorem dX12_copy_0 : decode cX12_copy 0 = .ok (.bipush 71, 2) := by decide +kernel
theorem dX12_copy_2 : decode cX12_copy 2 = .ok (.iconst 5, 1) := by decide +kernel
theorem dX12_copy_3 : decode cX12_copy 3 = .ok (.aload_n 0, 1) := by decide +kernel
theorem dX12_copy_4 : decode cX12_copy 4 = .ok (.bipush 70, 2) := by decide +kernel
theorem dX12_copy_6 : decode cX12_copy 6 = .ok (.iaload, 1) := by decide +kernel
theorem dX12_copy_7 : decode cX12_copy 7 = .ok (.imul, 1) := by decide +kernel
theorem dX12_copy_8 : decode cX12_copy 8 = .ok (.iadd, 1) := by decide +kernel
theorem dX12_copy_9 : decode cX12_copy 9 = .ok (.istore_n 2, 1) := by decide +kernel
theorem dX12_copy_10 : decode cX12_copy 10 = .ok (.iconst 0, 1) := by decide +kernel
theorem dX12_copy_11 : decode cX12_copy 11 = .ok (.istore_n 3, 1) := by decide +kernel
theorem dX12_copy_12 : decode cX12_copy 12 = .ok (.iload_n 3, 1) := by decide +kernel
theorem dX12_copy_13 : decode cX12_copy 13 = .ok (.iload_n 2, 1) := by decide +kernel
theorem dX12_copy_14 : decode cX12_copy 14 = .ok (.if_icmp .ge 15, 3) := by decide +kernel
theorem dX12_copy_17 : decode cX12_copy 17 = .ok (.aload_n 1, 1) := by decide +kernel
theorem dX12_copy_18 : decode cX12_copy 18 = .ok (.iload_n 3, 1) := by decide +kernel
theorem dX12_copy_19 : decode cX12_copy 19 = .ok (.aload_n 0, 1) := by decide +kernel
theorem dX12_copy_20 : decode cX12_copy 20 = .ok (.iload_n 3, 1) := by decide +kernel
theorem dX12_copy_21 : decode cX12_copy 21 = .ok (.iaload, 1) := by decide +kernel
theorem dX12_copy_22 : decode cX12_copy 22 = .ok (.iastore, 1) := by decide +kernel
theorem dX12_copy_23 : decode cX12_copy 23 = .ok (.iinc 3 1, 3) := by decide +kernel
theorem dX12_copy_26 : decode cX12_copy 26 = .ok (.goto (-14), 3) := by decide +kernel
theorem dX12_copy_29 : decode cX12_copy 29 = .ok (.return_, 1) := by decide +kernel
theorem dX12_isLifter_0 : decode cX12_isLifter 0 = .ok (.iload_n 1, 1) := by decide +kernel
theorem dX12_isLifter_1 : decode cX12_isLifter 1 = .ok (.ifCond .lt 15, 3) := by decide +kernel
theorem dX12_isLifter_4 : decode cX12_isLifter 4 = .ok (.iload_n 1, 1) := by decide +kernel
theorem dX12_isLifter_5 : decode cX12_isLifter 5 = .ok (.aload_n 0, 1) := by decide +kernel
theorem dX12_isLifter_6 : decode cX12_isLifter 6 = .ok (.getfield 278, 3) := by decide +kernel
theorem dX12_isLifter_9 : decode cX12_isLifter 9 = .ok (.if_icmp .ge 7, 3) := by decide +kernel
theorem dX12_isLifter_12 : decode cX12_isLifter 12 = .ok (.iconst 1, 1) := by decide +kernel
theorem dX12_isLifter_13 : decode cX12_isLifter 13 = .ok (.goto 4, 3) := by decide +kernel
theorem dX12_isLifter_16 : decode cX12_isLifter 16 = .ok (.iconst 0, 1) := by decide +kernel
theorem dX12_isLifter_17 : decode cX12_isLifter 17 = .ok (.ireturn, 1) := by decide +kernel
theorem dX12_isOn_0 : decode cX12_isOn 0 = .ok (.bipush 11, 2) := by decide +kernel
theorem dX12_isOn_2 : decode cX12_isOn 2 = .ok (.iload_n 2, 1) := by decide +kernel
theorem dX12_isOn_3 : decode cX12_isOn 3 = .ok (.imul, 1) := by decide +kernel
theorem dX12_isOn_4 : decode cX12_isOn 4 = .ok (.istore_n 3, 1) := by decide +kernel
theorem dX12_isOn_5 : decode cX12_isOn 5 = .ok (.aload_n 1, 1) := by decide +kernel
theorem dX12_isOn_6 : decode cX12_isOn 6 = .ok (.bipush 66, 2) := by decide +kernel
theorem dX12_isOn_8 : decode cX12_isOn 8 = .ok (.iaload, 1) := by decide +kernel
theorem dX12_isOn_9 : decode cX12_isOn 9 = .ok (.iconst 2, 1) := by decide +kernel
theorem dX12_isOn_10 : decode cX12_isOn 10 = .ok (.if_icmp .ge 40, 3) := by decide +kernel
theorem dX12_isOn_13 : decode cX12_isOn 13 = .ok (.aload_n 1, 1) := by decide +kernel
theorem dX12_isOn_14 : decode cX12_isOn 14 = .ok (.iload_n 3, 1) := by decide +kernel
theorem dX12_isOn_15 : decode cX12_isOn 15 = .ok (.iconst 1, 1) := by decide +kernel
theorem dX12_isOn_16 : decode cX12_isOn 16 = .ok (.iadd, 1) := by decide +kernel
theorem dX12_isOn_17 : decode cX12_isOn 17 = .ok (.iaload, 1) := by decide +kernel
theorem dX12_isOn_18 : decode cX12_isOn 18 = .ok (.aload_n 0, 1) := by decide +kernel
theorem dX12_isOn_19 : decode cX12_isOn 19 = .ok (.getfield 43, 3) := by decide +kernel
theorem dX12_isOn_22 : decode cX12_isOn 22 = .ok (.iconst 1, 1) := by decide +kernel
theorem dX12_isOn_23 : decode cX12_isOn 23 = .ok (.iaload, 1) := by decide +kernel
theorem dX12_isOn_24 : decode cX12_isOn 24 = .ok (.if_icmp .ge 26, 3) := by decide +kernel
theorem dX12_isOn_27 : decode cX12_isOn 27 = .ok (.aload_n 1, 1) := by decide +kernel
theorem dX12_isOn_28 : decode cX12_isOn 28 = .ok (.iload_n 3, 1) := by decide +kernel
theorem dX12_isOn_29 : decode cX12_isOn 29 = .ok (.bipush 6, 2) := by decide +kernel
theorem dX12_isOn_31 : decode cX12_isOn 31 = .ok (.iadd, 1) := by decide +kernel
theorem dX12_isOn_32 : decode cX12_isOn 32 = .ok (.iaload, 1) := by decide +kernel
theorem dX12_isOn_33 : decode cX12_isOn 33 = .ok (.ifCond .ne 17, 3) := by decide +kernel
theorem dX12_isOn_36 : decode cX12_isOn 36 = .ok (.aload_n 1, 1) := by decide +kernel
theorem dX12_isOn_37 : decode cX12_isOn 37 = .ok (.iload_n 3, 1) := by decide +kernel
theorem dX12_isOn_38 : decode cX12_isOn 38 = .ok (.iconst 4, 1) := by decide +kernel
theorem dX12_isOn_39 : decode cX12_isOn 39 = .ok (.iadd, 1) := by decide +kernel
theorem dX12_isOn_40 : decode cX12_isOn 40 = .ok (.iaload, 1) := by decide +kernel
theorem dX12_isOn_41 : decode cX12_isOn 41 = .ok (.bipush 99, 2) := by decide +kernel
theorem dX12_isOn_43 : decode cX12_isOn 43 = .ok (.if_icmp .gt 7, 3) := by decide +kernel
theorem dX12_isOn_46 : decode cX12_isOn 46 = .ok (.iconst 1, 1) := by decide +kernel
theorem dX12_isOn_47 : decode cX12_isOn 47 = .ok (.goto 4, 3) := by decide +kernel
theorem dX12_isOn_50 : decode cX12_isOn 50 = .ok (.iconst 0, 1) := by decide +kernel
theorem dX12_isOn_51 : decode cX12_isOn 51 = .ok (.ireturn, 1) := by decide +kernel
theorem dX12_howMany_0 : decode cX12_howMany 0 = .ok (.iconst 0, 1) := by decide +kernel
theorem dX12_howMany_1 : decode cX12_howMany 1 = .ok (.istore_n 2, 1) := by decide +kernel
theorem dX12_howMany_2 : decode cX12_howMany 2 = .ok (.iconst 0, 1) := by decide +kernel
theorem dX12_howMany_3 : decode cX12_howMany 3 = .ok (.istore_n 3, 1) := by decide +kernel
theorem dX12_howMany_4 : decode cX12_howMany 4 = .ok (.iload_n 3, 1) := by decide +kernel
theorem dX12_howMany_5 : decode cX12_howMany 5 = .ok (.aload_n 0, 1) := by decide +kernel
theorem dX12_howMany_6 : decode cX12_howMany 6 = .ok (.getfield 278, 3) := by decide +kernel
theorem dX12_howMany_9 : decode cX12_howMany 9 = .ok (.if_icmp .ge 26, 3) := by decide +kernel
theorem dX12_howMany_12 : decode cX12_howMany 12 = .ok (.iload_n 2, 1) := by decide +kernel
theorem dX12_howMany_13 : decode cX12_howMany 13 = .ok (.aload_n 0, 1) := by decide +kernel
theorem dX12_howMany_14 : decode cX12_howMany 14 = .ok (.aload_n 1, 1) := by decide +kernel
theorem dX12_howMany_15 : decode cX12_howMany 15 = .ok (.iload_n 3, 1) := by decide +kernel
theorem dX12_howMany_16 : decode cX12_howMany 16 = .ok (.invokevirtual 287, 3) := by decide +kernel
theorem dX12_howMany_19 : decode cX12_howMany 19 = .ok (.ifCond .eq 7, 3) := by decide +kernel
theorem dX12_howMany_22 : decode cX12_howMany 22 = .ok (.iconst 1, 1) := by decide +kernel
theorem dX12_howMany_23 : decode cX12_howMany 23 = .ok (.goto 4, 3) := by decide +kernel
theorem dX12_howMany_26 : decode cX12_howMany 26 = .ok (.iconst 0, 1) := by decide +kernel
theorem dX12_howMany_27 : decode cX12_howMany 27 = .ok (.iadd, 1) := by decide +kernel
theorem dX12_howMany_28 : decode cX12_howMany 28 = .ok (.istore_n 2, 1) := by decide +kernel
theorem dX12_howMany_29 : decode cX12_howMany 29 = .ok (.iinc 3 1, 3) := by decide +kernel
theorem dX12_howMany_32 : decode cX12_howMany 32 = .ok (.goto (-28), 3) := by decide +kernel
theorem dX12_howMany_35 : decode cX12_howMany 35 = .ok (.iload_n 2, 1) := by decide +kernel
theorem dX12_howMany_36 : decode cX12_howMany 36 = .ok (.ireturn, 1) := by decide +kernel
theorem dX12_isAheadOf_0 : decode cX12_isAheadOf 0 = .ok (.aload_n 1, 1) := by decide +kernel
theorem dX12_isAheadOf_1 : decode cX12_isAheadOf 1 = .ok (.bipush 11, 2) := by decide +kernel
theorem dX12_isAheadOf_3 : decode cX12_isAheadOf 3 = .ok (.iload_n 2, 1) := by decide +kernel
theorem dX12_isAheadOf_4 : decode cX12_isAheadOf 4 = .ok (.imul, 1) := by decide +kernel
theorem dX12_isAheadOf_5 : decode cX12_isAheadOf 5 = .ok (.iconst 0, 1) := by decide +kernel
theorem dX12_isAheadOf_6 : decode cX12_isAheadOf 6 = .ok (.iadd, 1) := by decide +kernel
theorem dX12_isAheadOf_7 : decode cX12_isAheadOf 7 = .ok (.iaload, 1) := by decide +kernel
theorem dX12_isAheadOf_8 : decode cX12_isAheadOf 8 = .ok (.aload_n 1, 1) := by decide +kernel
theorem dX12_isAheadOf_9 : decode cX12_isAheadOf 9 = .ok (.bipush 11, 2) := by decide +kernel
theorem dX12_isAheadOf_11 : decode cX12_isAheadOf 11 = .ok (.iload_n 3, 1) := by decide +kernel
theorem dX12_isAheadOf_12 : decode cX12_isAheadOf 12 = .ok (.imul, 1) := by decide +kernel
theorem dX12_isAheadOf_13 : decode cX12_isAheadOf 13 = .ok (.iconst 0, 1) := by decide +kernel
theorem dX12_isAheadOf_14 : decode cX12_isAheadOf 14 = .ok (.iadd, 1) := by decide +kernel
theorem dX12_isAheadOf_15 : decode cX12_isAheadOf 15 = .ok (.iaload, 1) := by decide +kernel
theorem dX12_isAheadOf_16 : decode cX12_isAheadOf 16 = .ok (.isub, 1) := by decide +kernel
theorem dX12_isAheadOf_17 : decode cX12_isAheadOf 17 = .ok (.istore 4, 2) := by decide +kernel
theorem dX12_isAheadOf_19 : decode cX12_isAheadOf 19 = .ok (.iload 4, 2) := by decide +kernel
theorem dX12_isAheadOf_21 : decode cX12_isAheadOf 21 = .ok (.ifCond .ne 22, 3) := by decide +kernel
theorem dX12_isAheadOf_24 : decode cX12_isAheadOf 24 = .ok (.aload_n 1, 1) := by decide +kernel
theorem dX12_isAheadOf_25 : decode cX12_isAheadOf 25 = .ok (.bipush 11, 2) := by decide +kernel
theorem dX12_isAheadOf_27 : decode cX12_isAheadOf 27 = .ok (.iload_n 2, 1) := by decide +kernel
theorem dX12_isAheadOf_28 : decode cX12_isAheadOf 28 = .ok (.imul, 1) := by decide +kernel
theorem dX12_isAheadOf_29 : decode cX12_isAheadOf 29 = .ok (.iconst 1, 1) := by decide +kernel
theorem dX12_isAheadOf_30 : decode cX12_isAheadOf 30 = .ok (.iadd, 1) := by decide +kernel
theorem dX12_isAheadOf_31 : decode cX12_isAheadOf 31 = .ok (.iaload, 1) := by decide +kernel
theorem dX12_isAheadOf_32 : decode cX12_isAheadOf 32 = .ok (.aload_n 1, 1) := by decide +kernel
theorem dX12_isAheadOf_33 : decode cX12_isAheadOf 33 = .ok (.bipush 11, 2) := by decide +kernel
theorem dX12_isAheadOf_35 : decode cX12_isAheadOf 35 = .ok (.iload_n 3, 1) := by decide +kernel
theorem dX12_isAheadOf_36 : decode cX12_isAheadOf 36 = .ok (.imul, 1) := by decide +kernel
theorem dX12_isAheadOf_37 : decode cX12_isAheadOf 37 = .ok (.iconst 1, 1) := by decide +kernel
theorem dX12_isAheadOf_38 : decode cX12_isAheadOf 38 = .ok (.iadd, 1) := by decide +kernel
theorem dX12_isAheadOf_39 : decode cX12_isAheadOf 39 = .ok (.iaload, 1) := by decide +kernel
theorem dX12_isAheadOf_40 : decode cX12_isAheadOf 40 = .ok (.isub, 1) := by decide +kernel
theorem dX12_isAheadOf_41 : decode cX12_isAheadOf 41 = .ok (.istore 4, 2) := by decide +kernel
theorem dX12_isAheadOf_43 : decode cX12_isAheadOf 43 = .ok (.iload 4, 2) := by decide +kernel
theorem dX12_isAheadOf_45 : decode cX12_isAheadOf 45 = .ok (.ifCond .lt 13, 3) := by decide +kernel
theorem dX12_isAheadOf_48 : decode cX12_isAheadOf 48 = .ok (.iload 4, 2) := by decide +kernel
theorem dX12_isAheadOf_50 : decode cX12_isAheadOf 50 = .ok (.ifCond .ne 12, 3) := by decide +kernel
theorem dX12_isAheadOf_53 : decode cX12_isAheadOf 53 = .ok (.iload_n 2, 1) := by decide +kernel
theorem dX12_isAheadOf_54 : decode cX12_isAheadOf 54 = .ok (.iload_n 3, 1) := by decide +kernel
theorem dX12_isAheadOf_55 : decode cX12_isAheadOf 55 = .ok (.if_icmp .ge 7, 3) := by decide +kernel
theorem dX12_isAheadOf_58 : decode cX12_isAheadOf 58 = .ok (.iconst 1, 1) := by decide +kernel
theorem dX12_isAheadOf_59 : decode cX12_isAheadOf 59 = .ok (.goto 4, 3) := by decide +kernel
theorem dX12_isAheadOf_62 : decode cX12_isAheadOf 62 = .ok (.iconst 0, 1) := by decide +kernel
theorem dX12_isAheadOf_63 : decode cX12_isAheadOf 63 = .ok (.ireturn, 1) := by decide +kernel
theorem dX12_nextOf_0 : decode cX12_nextOf 0 = .ok (.iconst (-1), 1) := by decide +kernel
theorem dX12_nextOf_1 : decode cX12_nextOf 1 = .ok (.istore_n 2, 1) := by decide +kernel
theorem dX12_nextOf_2 : decode cX12_nextOf 2 = .ok (.iconst 0, 1) := by decide +kernel
theorem dX12_nextOf_3 : decode cX12_nextOf 3 = .ok (.istore_n 3, 1) := by decide +kernel
theorem dX12_nextOf_4 : decode cX12_nextOf 4 = .ok (.iload_n 3, 1) := by decide +kernel
theorem dX12_nextOf_5 : decode cX12_nextOf 5 = .ok (.aload_n 0, 1) := by decide +kernel
theorem dX12_nextOf_6 : decode cX12_nextOf 6 = .ok (.getfield 278, 3) := by decide +kernel
theorem dX12_nextOf_9 : decode cX12_nextOf 9 = .ok (.if_icmp .ge 35, 3) := by decide +kernel
theorem dX12_nextOf_12 : decode cX12_nextOf 12 = .ok (.aload_n 0, 1) := by decide +kernel
theorem dX12_nextOf_13 : decode cX12_nextOf 13 = .ok (.aload_n 1, 1) := by decide +kernel
theorem dX12_nextOf_14 : decode cX12_nextOf 14 = .ok (.iload_n 3, 1) := by decide +kernel
theorem dX12_nextOf_15 : decode cX12_nextOf 15 = .ok (.invokevirtual 287, 3) := by decide +kernel
theorem dX12_nextOf_18 : decode cX12_nextOf 18 = .ok (.ifCond .eq 20, 3) := by decide +kernel
theorem dX12_nextOf_21 : decode cX12_nextOf 21 = .ok (.iload_n 2, 1) := by decide +kernel
theorem dX12_nextOf_22 : decode cX12_nextOf 22 = .ok (.iconst (-1), 1) := by decide +kernel
theorem dX12_nextOf_23 : decode cX12_nextOf 23 = .ok (.if_icmp .eq 13, 3) := by decide +kernel
theorem dX12_nextOf_26 : decode cX12_nextOf 26 = .ok (.aload_n 0, 1) := by decide +kernel
theorem dX12_nextOf_27 : decode cX12_nextOf 27 = .ok (.aload_n 1, 1) := by decide +kernel
theorem dX12_nextOf_28 : decode cX12_nextOf 28 = .ok (.iload_n 3, 1) := by decide +kernel
theorem dX12_nextOf_29 : decode cX12_nextOf 29 = .ok (.iload_n 2, 1) := by decide +kernel
theorem dX12_nextOf_30 : decode cX12_nextOf 30 = .ok (.invokevirtual 291, 3) := by decide +kernel
theorem dX12_nextOf_33 : decode cX12_nextOf 33 = .ok (.ifCond .eq 5, 3) := by decide +kernel
theorem dX12_nextOf_36 : decode cX12_nextOf 36 = .ok (.iload_n 3, 1) := by decide +kernel
theorem dX12_nextOf_37 : decode cX12_nextOf 37 = .ok (.istore_n 2, 1) := by decide +kernel
theorem dX12_nextOf_38 : decode cX12_nextOf 38 = .ok (.iinc 3 1, 3) := by decide +kernel
theorem dX12_nextOf_41 : decode cX12_nextOf 41 = .ok (.goto (-37), 3) := by decide +kernel
theorem dX12_nextOf_44 : decode cX12_nextOf 44 = .ok (.iload_n 2, 1) := by decide +kernel
theorem dX12_nextOf_45 : decode cX12_nextOf 45 = .ok (.ireturn, 1) := by decide +kernel
theorem dX12_goesOn_0 : decode cX12_goesOn 0 = .ok (.aload_n 1, 1) := by decide +kernel
theorem dX12_goesOn_1 : decode cX12_goesOn 1 = .ok (.bipush 66, 2) := by decide +kernel
theorem dX12_goesOn_3 : decode cX12_goesOn 3 = .ok (.iaload, 1) := by decide +kernel
theorem dX12_goesOn_4 : decode cX12_goesOn 4 = .ok (.iconst 2, 1) := by decide +kernel
theorem dX12_goesOn_5 : decode cX12_goesOn 5 = .ok (.if_icmp .ge 140, 3) := by decide +kernel
theorem dX12_goesOn_8 : decode cX12_goesOn 8 = .ok (.aload_n 0, 1) := by decide +kernel
theorem dX12_goesOn_9 : decode cX12_goesOn 9 = .ok (.aload_n 1, 1) := by decide +kernel
theorem dX12_goesOn_10 : decode cX12_goesOn 10 = .ok (.invokevirtual 295, 3) := by decide +kernel
theorem dX12_goesOn_13 : decode cX12_goesOn 13 = .ok (.ifCond .ne 132, 3) := by decide +kernel
theorem dX12_goesOn_16 : decode cX12_goesOn 16 = .ok (.aload_n 1, 1) := by decide +kernel
theorem dX12_goesOn_17 : decode cX12_goesOn 17 = .ok (.bipush 66, 2) := by decide +kernel
theorem dX12_goesOn_19 : decode cX12_goesOn 19 = .ok (.dup2, 1) := by decide +kernel
theorem dX12_goesOn_20 : decode cX12_goesOn 20 = .ok (.iaload, 1) := by decide +kernel
theorem dX12_goesOn_21 : decode cX12_goesOn 21 = .ok (.iconst 1, 1) := by decide +kernel
theorem dX12_goesOn_22 : decode cX12_goesOn 22 = .ok (.iadd, 1) := by decide +kernel
theorem dX12_goesOn_23 : decode cX12_goesOn 23 = .ok (.iastore, 1) := by decide +kernel
theorem dX12_goesOn_24 : decode cX12_goesOn 24 = .ok (.aload_n 1, 1) := by decide +kernel
theorem dX12_goesOn_25 : decode cX12_goesOn 25 = .ok (.bipush 66, 2) := by decide +kernel
theorem dX12_goesOn_27 : decode cX12_goesOn 27 = .ok (.iaload, 1) := by decide +kernel
theorem dX12_goesOn_28 : decode cX12_goesOn 28 = .ok (.iconst 2, 1) := by decide +kernel
theorem dX12_goesOn_29 : decode cX12_goesOn 29 = .ok (.if_icmp .ne 4, 3) := by decide +kernel
theorem dX12_goesOn_32 : decode cX12_goesOn 32 = .ok (.return_, 1) := by decide +kernel
theorem dX12_goesOn_33 : decode cX12_goesOn 33 = .ok (.aload_n 1, 1) := by decide +kernel
theorem dX12_goesOn_34 : decode cX12_goesOn 34 = .ok (.bipush 67, 2) := by decide +kernel
theorem dX12_goesOn_36 : decode cX12_goesOn 36 = .ok (.iconst 0, 1) := by decide +kernel
theorem dX12_goesOn_37 : decode cX12_goesOn 37 = .ok (.iastore, 1) := by decide +kernel
theorem dX12_goesOn_38 : decode cX12_goesOn 38 = .ok (.aload_n 1, 1) := by decide +kernel
theorem dX12_goesOn_39 : decode cX12_goesOn 39 = .ok (.bipush 69, 2) := by decide +kernel
theorem dX12_goesOn_41 : decode cX12_goesOn 41 = .ok (.iconst (-1), 1) := by decide +kernel
theorem dX12_goesOn_42 : decode cX12_goesOn 42 = .ok (.iastore, 1) := by decide +kernel
theorem dX12_goesOn_43 : decode cX12_goesOn 43 = .ok (.iconst 0, 1) := by decide +kernel
theorem dX12_goesOn_44 : decode cX12_goesOn 44 = .ok (.istore_n 2, 1) := by decide +kernel
theorem dX12_goesOn_45 : decode cX12_goesOn 45 = .ok (.iload_n 2, 1) := by decide +kernel
theorem dX12_goesOn_46 : decode cX12_goesOn 46 = .ok (.aload_n 0, 1) := by decide +kernel
theorem dX12_goesOn_47 : decode cX12_goesOn 47 = .ok (.getfield 278, 3) := by decide +kernel
theorem dX12_goesOn_50 : decode cX12_goesOn 50 = .ok (.if_icmp .ge 92, 3) := by decide +kernel
theorem dX12_goesOn_53 : decode cX12_goesOn 53 = .ok (.bipush 11, 2) := by decide +kernel
theorem dX12_goesOn_55 : decode cX12_goesOn 55 = .ok (.iload_n 2, 1) := by decide +kernel
theorem dX12_goesOn_56 : decode cX12_goesOn 56 = .ok (.imul, 1) := by decide +kernel
theorem dX12_goesOn_57 : decode cX12_goesOn 57 = .ok (.istore_n 3, 1) := by decide +kernel
theorem dX12_goesOn_58 : decode cX12_goesOn 58 = .ok (.aload_n 1, 1) := by decide +kernel
theorem dX12_goesOn_59 : decode cX12_goesOn 59 = .ok (.iload_n 3, 1) := by decide +kernel
theorem dX12_goesOn_60 : decode cX12_goesOn 60 = .ok (.iconst 1, 1) := by decide +kernel
theorem dX12_goesOn_61 : decode cX12_goesOn 61 = .ok (.iadd, 1) := by decide +kernel
theorem dX12_goesOn_62 : decode cX12_goesOn 62 = .ok (.iconst 0, 1) := by decide +kernel
theorem dX12_goesOn_63 : decode cX12_goesOn 63 = .ok (.iastore, 1) := by decide +kernel
theorem dX12_goesOn_64 : decode cX12_goesOn 64 = .ok (.aload_n 1, 1) := by decide +kernel
theorem dX12_goesOn_65 : decode cX12_goesOn 65 = .ok (.iload_n 3, 1) := by decide +kernel
theorem dX12_goesOn_66 : decode cX12_goesOn 66 = .ok (.bipush 8, 2) := by decide +kernel
theorem dX12_goesOn_68 : decode cX12_goesOn 68 = .ok (.iadd, 1) := by decide +kernel
theorem dX12_goesOn_69 : decode cX12_goesOn 69 = .ok (.aload_n 1, 1) := by decide +kernel
theorem dX12_goesOn_70 : decode cX12_goesOn 70 = .ok (.bipush 68, 2) := by decide +kernel
theorem dX12_goesOn_72 : decode cX12_goesOn 72 = .ok (.iaload, 1) := by decide +kernel
theorem dX12_goesOn_73 : decode cX12_goesOn 73 = .ok (.iastore, 1) := by decide +kernel
theorem dX12_goesOn_74 : decode cX12_goesOn 74 = .ok (.aload_n 1, 1) := by decide +kernel
theorem dX12_goesOn_75 : decode cX12_goesOn 75 = .ok (.iload_n 3, 1) := by decide +kernel
theorem dX12_goesOn_76 : decode cX12_goesOn 76 = .ok (.iconst 2, 1) := by decide +kernel
theorem dX12_goesOn_77 : decode cX12_goesOn 77 = .ok (.iadd, 1) := by decide +kernel
theorem dX12_goesOn_78 : decode cX12_goesOn 78 = .ok (.iaload, 1) := by decide +kernel
theorem dX12_goesOn_79 : decode cX12_goesOn 79 = .ok (.ifCond .ne 10, 3) := by decide +kernel
theorem dX12_goesOn_82 : decode cX12_goesOn 82 = .ok (.aload_n 1, 1) := by decide +kernel
theorem dX12_goesOn_83 : decode cX12_goesOn 83 = .ok (.iload_n 3, 1) := by decide +kernel
theorem dX12_goesOn_84 : decode cX12_goesOn 84 = .ok (.bipush 6, 2) := by decide +kernel
theorem dX12_goesOn_86 : decode cX12_goesOn 86 = .ok (.iadd, 1) := by decide +kernel
theorem dX12_goesOn_87 : decode cX12_goesOn 87 = .ok (.iconst 1, 1) := by decide +kernel
theorem dX12_goesOn_88 : decode cX12_goesOn 88 = .ok (.iastore, 1) := by decide +kernel
theorem dX12_goesOn_89 : decode cX12_goesOn 89 = .ok (.aload_n 1, 1) := by decide +kernel
theorem dX12_goesOn_90 : decode cX12_goesOn 90 = .ok (.iload_n 3, 1) := by decide +kernel
theorem dX12_goesOn_91 : decode cX12_goesOn 91 = .ok (.bipush 6, 2) := by decide +kernel
theorem dX12_goesOn_93 : decode cX12_goesOn 93 = .ok (.iadd, 1) := by decide +kernel
theorem dX12_goesOn_94 : decode cX12_goesOn 94 = .ok (.iaload, 1) := by decide +kernel
theorem dX12_goesOn_95 : decode cX12_goesOn 95 = .ok (.iconst 1, 1) := by decide +kernel
theorem dX12_goesOn_96 : decode cX12_goesOn 96 = .ok (.if_icmp .ne 6, 3) := by decide +kernel
theorem dX12_goesOn_99 : decode cX12_goesOn 99 = .ok (.goto 37, 3) := by decide +kernel
theorem dX12_goesOn_102 : decode cX12_goesOn 102 = .ok (.aload_n 1, 1) := by decide +kernel
theorem dX12_goesOn_103 : decode cX12_goesOn 103 = .ok (.iload_n 3, 1) := by decide +kernel
theorem dX12_goesOn_104 : decode cX12_goesOn 104 = .ok (.iconst 0, 1) := by decide +kernel
theorem dX12_goesOn_105 : decode cX12_goesOn 105 = .ok (.iadd, 1) := by decide +kernel
theorem dX12_goesOn_106 : decode cX12_goesOn 106 = .ok (.aload_n 0, 1) := by decide +kernel
theorem dX12_goesOn_107 : decode cX12_goesOn 107 = .ok (.getfield 37, 3) := by decide +kernel
theorem dX12_goesOn_110 : decode cX12_goesOn 110 = .ok (.bipush 10, 2) := by decide +kernel
theorem dX12_goesOn_112 : decode cX12_goesOn 112 = .ok (.iload_n 2, 1) := by decide +kernel
theorem dX12_goesOn_113 : decode cX12_goesOn 113 = .ok (.imul, 1) := by decide +kernel
theorem dX12_goesOn_114 : decode cX12_goesOn 114 = .ok (.bipush 8, 2) := by decide +kernel
theorem dX12_goesOn_116 : decode cX12_goesOn 116 = .ok (.iadd, 1) := by decide +kernel
theorem dX12_goesOn_117 : decode cX12_goesOn 117 = .ok (.iaload, 1) := by decide +kernel
theorem dX12_goesOn_118 : decode cX12_goesOn 118 = .ok (.iastore, 1) := by decide +kernel
theorem dX12_goesOn_119 : decode cX12_goesOn 119 = .ok (.aload_n 1, 1) := by decide +kernel
theorem dX12_goesOn_120 : decode cX12_goesOn 120 = .ok (.iload_n 3, 1) := by decide +kernel
theorem dX12_goesOn_121 : decode cX12_goesOn 121 = .ok (.iconst 4, 1) := by decide +kernel
theorem dX12_goesOn_122 : decode cX12_goesOn 122 = .ok (.iadd, 1) := by decide +kernel
theorem dX12_goesOn_123 : decode cX12_goesOn 123 = .ok (.iconst 1, 1) := by decide +kernel
theorem dX12_goesOn_124 : decode cX12_goesOn 124 = .ok (.iastore, 1) := by decide +kernel
theorem dX12_goesOn_125 : decode cX12_goesOn 125 = .ok (.aload_n 1, 1) := by decide +kernel
theorem dX12_goesOn_126 : decode cX12_goesOn 126 = .ok (.iload_n 3, 1) := by decide +kernel
theorem dX12_goesOn_127 : decode cX12_goesOn 127 = .ok (.iconst 5, 1) := by decide +kernel
theorem dX12_goesOn_128 : decode cX12_goesOn 128 = .ok (.iadd, 1) := by decide +kernel
theorem dX12_goesOn_129 : decode cX12_goesOn 129 = .ok (.aload_n 0, 1) := by decide +kernel
theorem dX12_goesOn_130 : decode cX12_goesOn 130 = .ok (.getfield 43, 3) := by decide +kernel
theorem dX12_goesOn_133 : decode cX12_goesOn 133 = .ok (.iconst 0, 1) := by decide +kernel
theorem dX12_goesOn_134 : decode cX12_goesOn 134 = .ok (.iaload, 1) := by decide +kernel
theorem dX12_goesOn_135 : decode cX12_goesOn 135 = .ok (.iastore, 1) := by decide +kernel
theorem dX12_goesOn_136 : decode cX12_goesOn 136 = .ok (.iinc 2 1, 3) := by decide +kernel
theorem dX12_goesOn_139 : decode cX12_goesOn 139 = .ok (.goto (-94), 3) := by decide +kernel
theorem dX12_goesOn_142 : decode cX12_goesOn 142 = .ok (.goto (-142), 3) := by decide +kernel
theorem dX12_goesOn_145 : decode cX12_goesOn 145 = .ok (.return_, 1) := by decide +kernel
theorem dX12_isGood_0 : decode cX12_isGood 0 = .ok (.iload_n 0, 1) := by decide +kernel
theorem dX12_isGood_1 : decode cX12_isGood 1 = .ok (.invokestatic 299, 3) := by decide +kernel
theorem dX12_isGood_4 : decode cX12_isGood 4 = .ok (.iconst 1, 1) := by decide +kernel
theorem dX12_isGood_5 : decode cX12_isGood 5 = .ok (.if_icmp .le 7, 3) := by decide +kernel
theorem dX12_isGood_8 : decode cX12_isGood 8 = .ok (.iconst 1, 1) := by decide +kernel
theorem dX12_isGood_9 : decode cX12_isGood 9 = .ok (.goto 4, 3) := by decide +kernel
theorem dX12_isGood_12 : decode cX12_isGood 12 = .ok (.iconst 0, 1) := by decide +kernel
theorem dX12_isGood_13 : decode cX12_isGood 13 = .ok (.ireturn, 1) := by decide +kernel
theorem dX12_lifts_0 : decode cX12_lifts 0 = .ok (.bipush 11, 2) := by decide +kernel
theorem dX12_lifts_2 : decode cX12_lifts 2 = .ok (.iload_n 2, 1) := by decide +kernel
theorem dX12_lifts_3 : decode cX12_lifts 3 = .ok (.imul, 1) := by decide +kernel
theorem dX12_lifts_4 : decode cX12_lifts 4 = .ok (.istore 4, 2) := by decide +kernel
theorem dX12_lifts_6 : decode cX12_lifts 6 = .ok (.aload_n 1, 1) := by decide +kernel
theorem dX12_lifts_7 : decode cX12_lifts 7 = .ok (.iload 4, 2) := by decide +kernel
theorem dX12_lifts_9 : decode cX12_lifts 9 = .ok (.iconst 0, 1) := by decide +kernel
theorem dX12_lifts_10 : decode cX12_lifts 10 = .ok (.iadd, 1) := by decide +kernel
theorem dX12_lifts_11 : decode cX12_lifts 11 = .ok (.iaload, 1) := by decide +kernel
theorem dX12_lifts_12 : decode cX12_lifts 12 = .ok (.istore 5, 2) := by decide +kernel
theorem dX12_lifts_14 : decode cX12_lifts 14 = .ok (.aload_n 1, 1) := by decide +kernel
theorem dX12_lifts_15 : decode cX12_lifts 15 = .ok (.bipush 67, 2) := by decide +kernel
theorem dX12_lifts_17 : decode cX12_lifts 17 = .ok (.iload 5, 2) := by decide +kernel
theorem dX12_lifts_19 : decode cX12_lifts 19 = .ok (.iastore, 1) := by decide +kernel
theorem dX12_lifts_20 : decode cX12_lifts 20 = .ok (.aload_n 1, 1) := by decide +kernel
theorem dX12_lifts_21 : decode cX12_lifts 21 = .ok (.bipush 68, 2) := by decide +kernel
theorem dX12_lifts_23 : decode cX12_lifts 23 = .ok (.dup2, 1) := by decide +kernel
theorem dX12_lifts_24 : decode cX12_lifts 24 = .ok (.iaload, 1) := by decide +kernel
theorem dX12_lifts_25 : decode cX12_lifts 25 = .ok (.aload_n 1, 1) := by decide +kernel
theorem dX12_lifts_26 : decode cX12_lifts 26 = .ok (.bipush 69, 2) := by decide +kernel
theorem dX12_lifts_28 : decode cX12_lifts 28 = .ok (.iaload, 1) := by decide +kernel
theorem dX12_lifts_29 : decode cX12_lifts 29 = .ok (.iload_n 2, 1) := by decide +kernel
theorem dX12_lifts_30 : decode cX12_lifts 30 = .ok (.if_icmp .ne 7, 3) := by decide +kernel
theorem dX12_lifts_33 : decode cX12_lifts 33 = .ok (.iconst 2, 1) := by decide +kernel
theorem dX12_lifts_34 : decode cX12_lifts 34 = .ok (.goto 4, 3) := by decide +kernel
theorem dX12_lifts_37 : decode cX12_lifts 37 = .ok (.iconst 1, 1) := by decide +kernel
theorem dX12_lifts_38 : decode cX12_lifts 38 = .ok (.iadd, 1) := by decide +kernel
theorem dX12_lifts_39 : decode cX12_lifts 39 = .ok (.iastore, 1) := by decide +kernel
theorem dX12_lifts_40 : decode cX12_lifts 40 = .ok (.aload_n 1, 1) := by decide +kernel
theorem dX12_lifts_41 : decode cX12_lifts 41 = .ok (.bipush 69, 2) := by decide +kernel
theorem dX12_lifts_43 : decode cX12_lifts 43 = .ok (.iload_n 2, 1) := by decide +kernel
theorem dX12_lifts_44 : decode cX12_lifts 44 = .ok (.iastore, 1) := by decide +kernel
theorem dX12_lifts_45 : decode cX12_lifts 45 = .ok (.bipush 71, 2) := by decide +kernel
theorem dX12_lifts_47 : decode cX12_lifts 47 = .ok (.iconst 5, 1) := by decide +kernel
theorem dX12_lifts_48 : decode cX12_lifts 48 = .ok (.aload_n 1, 1) := by decide +kernel
theorem dX12_lifts_49 : decode cX12_lifts 49 = .ok (.bipush 70, 2) := by decide +kernel
theorem dX12_lifts_51 : decode cX12_lifts 51 = .ok (.iaload, 1) := by decide +kernel
theorem dX12_lifts_52 : decode cX12_lifts 52 = .ok (.imul, 1) := by decide +kernel
theorem dX12_lifts_53 : decode cX12_lifts 53 = .ok (.iadd, 1) := by decide +kernel
theorem dX12_lifts_54 : decode cX12_lifts 54 = .ok (.istore 6, 2) := by decide +kernel
theorem dX12_lifts_56 : decode cX12_lifts 56 = .ok (.aload_n 1, 1) := by decide +kernel
theorem dX12_lifts_57 : decode cX12_lifts 57 = .ok (.iload 6, 2) := by decide +kernel
theorem dX12_lifts_59 : decode cX12_lifts 59 = .ok (.iload_n 2, 1) := by decide +kernel
theorem dX12_lifts_60 : decode cX12_lifts 60 = .ok (.iastore, 1) := by decide +kernel
theorem dX12_lifts_61 : decode cX12_lifts 61 = .ok (.aload_n 1, 1) := by decide +kernel
theorem dX12_lifts_62 : decode cX12_lifts 62 = .ok (.iload 6, 2) := by decide +kernel
theorem dX12_lifts_64 : decode cX12_lifts 64 = .ok (.iconst 1, 1) := by decide +kernel
theorem dX12_lifts_65 : decode cX12_lifts 65 = .ok (.iadd, 1) := by decide +kernel
theorem dX12_lifts_66 : decode cX12_lifts 66 = .ok (.iload 5, 2) := by decide +kernel
theorem dX12_lifts_68 : decode cX12_lifts 68 = .ok (.iastore, 1) := by decide +kernel
theorem dX12_lifts_69 : decode cX12_lifts 69 = .ok (.aload_n 1, 1) := by decide +kernel
theorem dX12_lifts_70 : decode cX12_lifts 70 = .ok (.iload 6, 2) := by decide +kernel
theorem dX12_lifts_72 : decode cX12_lifts 72 = .ok (.iconst 2, 1) := by decide +kernel
theorem dX12_lifts_73 : decode cX12_lifts 73 = .ok (.iadd, 1) := by decide +kernel
theorem dX12_lifts_74 : decode cX12_lifts 74 = .ok (.iload_n 3, 1) := by decide +kernel
theorem dX12_lifts_75 : decode cX12_lifts 75 = .ok (.iastore, 1) := by decide +kernel
theorem dX12_lifts_76 : decode cX12_lifts 76 = .ok (.aload_n 1, 1) := by decide +kernel
theorem dX12_lifts_77 : decode cX12_lifts 77 = .ok (.iload 6, 2) := by decide +kernel
theorem dX12_lifts_79 : decode cX12_lifts 79 = .ok (.iconst 3, 1) := by decide +kernel
theorem dX12_lifts_80 : decode cX12_lifts 80 = .ok (.iadd, 1) := by decide +kernel
theorem dX12_lifts_81 : decode cX12_lifts 81 = .ok (.aload_n 1, 1) := by decide +kernel
theorem dX12_lifts_82 : decode cX12_lifts 82 = .ok (.bipush 68, 2) := by decide +kernel
theorem dX12_lifts_84 : decode cX12_lifts 84 = .ok (.iaload, 1) := by decide +kernel
theorem dX12_lifts_85 : decode cX12_lifts 85 = .ok (.iastore, 1) := by decide +kernel
theorem dX12_lifts_86 : decode cX12_lifts 86 = .ok (.aload_n 1, 1) := by decide +kernel
theorem dX12_lifts_87 : decode cX12_lifts 87 = .ok (.iload 6, 2) := by decide +kernel
theorem dX12_lifts_89 : decode cX12_lifts 89 = .ok (.iconst 4, 1) := by decide +kernel
theorem dX12_lifts_90 : decode cX12_lifts 90 = .ok (.iadd, 1) := by decide +kernel
theorem dX12_lifts_91 : decode cX12_lifts 91 = .ok (.aload_n 1, 1) := by decide +kernel
theorem dX12_lifts_92 : decode cX12_lifts 92 = .ok (.bipush 66, 2) := by decide +kernel
theorem dX12_lifts_94 : decode cX12_lifts 94 = .ok (.iaload, 1) := by decide +kernel
theorem dX12_lifts_95 : decode cX12_lifts 95 = .ok (.iastore, 1) := by decide +kernel
theorem dX12_lifts_96 : decode cX12_lifts 96 = .ok (.iload_n 3, 1) := by decide +kernel
theorem dX12_lifts_97 : decode cX12_lifts 97 = .ok (.invokestatic 304, 3) := by decide +kernel
theorem dX12_lifts_100 : decode cX12_lifts 100 = .ok (.ifCond .eq 88, 3) := by decide +kernel
theorem dX12_lifts_103 : decode cX12_lifts 103 = .ok (.aload_n 1, 1) := by decide +kernel
theorem dX12_lifts_104 : decode cX12_lifts 104 = .ok (.iload 4, 2) := by decide +kernel
theorem dX12_lifts_106 : decode cX12_lifts 106 = .ok (.iconst 2, 1) := by decide +kernel
theorem dX12_lifts_107 : decode cX12_lifts 107 = .ok (.iadd, 1) := by decide +kernel
theorem dX12_lifts_108 : decode cX12_lifts 108 = .ok (.aload_n 1, 1) := by decide +kernel
theorem dX12_lifts_109 : decode cX12_lifts 109 = .ok (.bipush 66, 2) := by decide +kernel
theorem dX12_lifts_111 : decode cX12_lifts 111 = .ok (.iaload, 1) := by decide +kernel
theorem dX12_lifts_112 : decode cX12_lifts 112 = .ok (.iadd, 1) := by decide +kernel
theorem dX12_lifts_113 : decode cX12_lifts 113 = .ok (.iload 5, 2) := by decide +kernel
theorem dX12_lifts_115 : decode cX12_lifts 115 = .ok (.iastore, 1) := by decide +kernel
theorem dX12_lifts_116 : decode cX12_lifts 116 = .ok (.aload_n 1, 1) := by decide +kernel
theorem dX12_lifts_117 : decode cX12_lifts 117 = .ok (.bipush 66, 2) := by decide +kernel
theorem dX12_lifts_119 : decode cX12_lifts 119 = .ok (.iaload, 1) := by decide +kernel
theorem dX12_lifts_120 : decode cX12_lifts 120 = .ok (.iconst 1, 1) := by decide +kernel
theorem dX12_lifts_121 : decode cX12_lifts 121 = .ok (.if_icmp .ne 14, 3) := by decide +kernel
theorem dX12_lifts_124 : decode cX12_lifts 124 = .ok (.aload_n 1, 1) := by decide +kernel
theorem dX12_lifts_125 : decode cX12_lifts 125 = .ok (.iload 4, 2) := by decide +kernel
theorem dX12_lifts_127 : decode cX12_lifts 127 = .ok (.bipush 10, 2) := by decide +kernel
theorem dX12_lifts_129 : decode cX12_lifts 129 = .ok (.iadd, 1) := by decide +kernel
theorem dX12_lifts_130 : decode cX12_lifts 130 = .ok (.aload_n 1, 1) := by decide +kernel
theorem dX12_lifts_131 : decode cX12_lifts 131 = .ok (.bipush 70, 2) := by decide +kernel
theorem dX12_lifts_133 : decode cX12_lifts 133 = .ok (.iaload, 1) := by decide +kernel
theorem dX12_lifts_134 : decode cX12_lifts 134 = .ok (.iastore, 1) := by decide +kernel
theorem dX12_lifts_135 : decode cX12_lifts 135 = .ok (.aload_n 1, 1) := by decide +kernel
theorem dX12_lifts_136 : decode cX12_lifts 136 = .ok (.iload 4, 2) := by decide +kernel
theorem dX12_lifts_138 : decode cX12_lifts 138 = .ok (.iconst 4, 1) := by decide +kernel
theorem dX12_lifts_139 : decode cX12_lifts 139 = .ok (.iadd, 1) := by decide +kernel
theorem dX12_lifts_140 : decode cX12_lifts 140 = .ok (.iload 5, 2) := by decide +kernel
theorem dX12_lifts_142 : decode cX12_lifts 142 = .ok (.aload_n 0, 1) := by decide +kernel
theorem dX12_lifts_143 : decode cX12_lifts 143 = .ok (.getfield 43, 3) := by decide +kernel
theorem dX12_lifts_146 : decode cX12_lifts 146 = .ok (.iconst 2, 1) := by decide +kernel
theorem dX12_lifts_147 : decode cX12_lifts 147 = .ok (.iaload, 1) := by decide +kernel
theorem dX12_lifts_148 : decode cX12_lifts 148 = .ok (.iadd, 1) := by decide +kernel
theorem dX12_lifts_149 : decode cX12_lifts 149 = .ok (.iastore, 1) := by decide +kernel
theorem dX12_lifts_150 : decode cX12_lifts 150 = .ok (.aload_n 1, 1) := by decide +kernel
theorem dX12_lifts_151 : decode cX12_lifts 151 = .ok (.iload 4, 2) := by decide +kernel
theorem dX12_lifts_153 : decode cX12_lifts 153 = .ok (.iconst 0, 1) := by decide +kernel
theorem dX12_lifts_154 : decode cX12_lifts 154 = .ok (.iadd, 1) := by decide +kernel
theorem dX12_lifts_155 : decode cX12_lifts 155 = .ok (.bipush 99, 2) := by decide +kernel
theorem dX12_lifts_157 : decode cX12_lifts 157 = .ok (.iload 5, 2) := by decide +kernel
theorem dX12_lifts_159 : decode cX12_lifts 159 = .ok (.aload_n 0, 1) := by decide +kernel
theorem dX12_lifts_160 : decode cX12_lifts 160 = .ok (.getfield 37, 3) := by decide +kernel
theorem dX12_lifts_163 : decode cX12_lifts 163 = .ok (.bipush 10, 2) := by decide +kernel
theorem dX12_lifts_165 : decode cX12_lifts 165 = .ok (.iload_n 2, 1) := by decide +kernel
theorem dX12_lifts_166 : decode cX12_lifts 166 = .ok (.imul, 1) := by decide +kernel
theorem dX12_lifts_167 : decode cX12_lifts 167 = .ok (.bipush 9, 2) := by decide +kernel
theorem dX12_lifts_169 : decode cX12_lifts 169 = .ok (.iadd, 1) := by decide +kernel
theorem dX12_lifts_170 : decode cX12_lifts 170 = .ok (.iaload, 1) := by decide +kernel
theorem dX12_lifts_171 : decode cX12_lifts 171 = .ok (.aload_n 0, 1) := by decide +kernel
theorem dX12_lifts_172 : decode cX12_lifts 172 = .ok (.getfield 43, 3) := by decide +kernel
theorem dX12_lifts_175 : decode cX12_lifts 175 = .ok (.iconst 2, 1) := by decide +kernel
theorem dX12_lifts_176 : decode cX12_lifts 176 = .ok (.iaload, 1) := by decide +kernel
theorem dX12_lifts_177 : decode cX12_lifts 177 = .ok (.invokestatic 307, 3) := by decide +kernel
theorem dX12_lifts_180 : decode cX12_lifts 180 = .ok (.iadd, 1) := by decide +kernel
theorem dX12_lifts_181 : decode cX12_lifts 181 = .ok (.invokestatic 309, 3) := by decide +kernel
theorem dX12_lifts_184 : decode cX12_lifts 184 = .ok (.iastore, 1) := by decide +kernel
theorem dX12_lifts_185 : decode cX12_lifts 185 = .ok (.goto 11, 3) := by decide +kernel
theorem dX12_lifts_188 : decode cX12_lifts 188 = .ok (.aload_n 1, 1) := by decide +kernel
theorem dX12_lifts_189 : decode cX12_lifts 189 = .ok (.iload 4, 2) := by decide +kernel
theorem dX12_lifts_191 : decode cX12_lifts 191 = .ok (.iconst 4, 1) := by decide +kernel
theorem dX12_lifts_192 : decode cX12_lifts 192 = .ok (.iadd, 1) := by decide +kernel
theorem dX12_lifts_193 : decode cX12_lifts 193 = .ok (.iload 5, 2) := by decide +kernel
theorem dX12_lifts_195 : decode cX12_lifts 195 = .ok (.iastore, 1) := by decide +kernel
theorem dX12_lifts_196 : decode cX12_lifts 196 = .ok (.aload_n 1, 1) := by decide +kernel
theorem dX12_lifts_197 : decode cX12_lifts 197 = .ok (.bipush 70, 2) := by decide +kernel
theorem dX12_lifts_199 : decode cX12_lifts 199 = .ok (.dup2, 1) := by decide +kernel
theorem dX12_lifts_200 : decode cX12_lifts 200 = .ok (.iaload, 1) := by decide +kernel
theorem dX12_lifts_201 : decode cX12_lifts 201 = .ok (.iconst 1, 1) := by decide +kernel
theorem dX12_lifts_202 : decode cX12_lifts 202 = .ok (.iadd, 1) := by decide +kernel
theorem dX12_lifts_203 : decode cX12_lifts 203 = .ok (.iastore, 1) := by decide +kernel
theorem dX12_lifts_204 : decode cX12_lifts 204 = .ok (.aload_n 1, 1) := by decide +kernel
theorem dX12_lifts_205 : decode cX12_lifts 205 = .ok (.iload 4, 2) := by decide +kernel
theorem dX12_lifts_207 : decode cX12_lifts 207 = .ok (.iconst 1, 1) := by decide +kernel
theorem dX12_lifts_208 : decode cX12_lifts 208 = .ok (.iadd, 1) := by decide +kernel
theorem dX12_lifts_209 : decode cX12_lifts 209 = .ok (.dup2, 1) := by decide +kernel
theorem dX12_lifts_210 : decode cX12_lifts 210 = .ok (.iaload, 1) := by decide +kernel
theorem dX12_lifts_211 : decode cX12_lifts 211 = .ok (.iconst 1, 1) := by decide +kernel
theorem dX12_lifts_212 : decode cX12_lifts 212 = .ok (.iadd, 1) := by decide +kernel
theorem dX12_lifts_213 : decode cX12_lifts 213 = .ok (.iastore, 1) := by decide +kernel
theorem dX12_lifts_214 : decode cX12_lifts 214 = .ok (.aload_n 1, 1) := by decide +kernel
theorem dX12_lifts_215 : decode cX12_lifts 215 = .ok (.iload 4, 2) := by decide +kernel
theorem dX12_lifts_217 : decode cX12_lifts 217 = .ok (.bipush 9, 2) := by decide +kernel
theorem dX12_lifts_219 : decode cX12_lifts 219 = .ok (.iadd, 1) := by decide +kernel
theorem dX12_lifts_220 : decode cX12_lifts 220 = .ok (.dup2, 1) := by decide +kernel
theorem dX12_lifts_221 : decode cX12_lifts 221 = .ok (.iaload, 1) := by decide +kernel
theorem dX12_lifts_222 : decode cX12_lifts 222 = .ok (.iconst 1, 1) := by decide +kernel
theorem dX12_lifts_223 : decode cX12_lifts 223 = .ok (.iadd, 1) := by decide +kernel
theorem dX12_lifts_224 : decode cX12_lifts 224 = .ok (.iastore, 1) := by decide +kernel
theorem dX12_lifts_225 : decode cX12_lifts 225 = .ok (.aload_n 1, 1) := by decide +kernel
theorem dX12_lifts_226 : decode cX12_lifts 226 = .ok (.iload 4, 2) := by decide +kernel
theorem dX12_lifts_228 : decode cX12_lifts 228 = .ok (.bipush 8, 2) := by decide +kernel
theorem dX12_lifts_230 : decode cX12_lifts 230 = .ok (.iadd, 1) := by decide +kernel
theorem dX12_lifts_231 : decode cX12_lifts 231 = .ok (.aload_n 1, 1) := by decide +kernel
theorem dX12_lifts_232 : decode cX12_lifts 232 = .ok (.bipush 68, 2) := by decide +kernel
theorem dX12_lifts_234 : decode cX12_lifts 234 = .ok (.iaload, 1) := by decide +kernel
theorem dX12_lifts_235 : decode cX12_lifts 235 = .ok (.iastore, 1) := by decide +kernel
theorem dX12_lifts_236 : decode cX12_lifts 236 = .ok (.aload_n 1, 1) := by decide +kernel
theorem dX12_lifts_237 : decode cX12_lifts 237 = .ok (.iload 4, 2) := by decide +kernel
theorem dX12_lifts_239 : decode cX12_lifts 239 = .ok (.iconst 5, 1) := by decide +kernel
theorem dX12_lifts_240 : decode cX12_lifts 240 = .ok (.iadd, 1) := by decide +kernel
theorem dX12_lifts_241 : decode cX12_lifts 241 = .ok (.aload_n 0, 1) := by decide +kernel
theorem dX12_lifts_242 : decode cX12_lifts 242 = .ok (.getfield 43, 3) := by decide +kernel
theorem dX12_lifts_245 : decode cX12_lifts 245 = .ok (.iconst 0, 1) := by decide +kernel
theorem dX12_lifts_246 : decode cX12_lifts 246 = .ok (.iaload, 1) := by decide +kernel
theorem dX12_lifts_247 : decode cX12_lifts 247 = .ok (.iastore, 1) := by decide +kernel
theorem dX12_lifts_248 : decode cX12_lifts 248 = .ok (.aload_n 0, 1) := by decide +kernel
theorem dX12_lifts_249 : decode cX12_lifts 249 = .ok (.aload_n 1, 1) := by decide +kernel
theorem dX12_lifts_250 : decode cX12_lifts 250 = .ok (.invokevirtual 311, 3) := by decide +kernel
theorem dX12_lifts_253 : decode cX12_lifts 253 = .ok (.return_, 1) := by decide +kernel
theorem dX12_canOf_0 : decode cX12_canOf 0 = .ok (.aload_n 0, 1) := by decide +kernel
theorem dX12_canOf_1 : decode cX12_canOf 1 = .ok (.getfield 37, 3) := by decide +kernel
theorem dX12_canOf_4 : decode cX12_canOf 4 = .ok (.bipush 10, 2) := by decide +kernel
theorem dX12_canOf_6 : decode cX12_canOf 6 = .ok (.iload_n 2, 1) := by decide +kernel
theorem dX12_canOf_7 : decode cX12_canOf 7 = .ok (.imul, 1) := by decide +kernel
theorem dX12_canOf_8 : decode cX12_canOf 8 = .ok (.aload_n 1, 1) := by decide +kernel
theorem dX12_canOf_9 : decode cX12_canOf 9 = .ok (.bipush 66, 2) := by decide +kernel
theorem dX12_canOf_11 : decode cX12_canOf 11 = .ok (.iaload, 1) := by decide +kernel
theorem dX12_canOf_12 : decode cX12_canOf 12 = .ok (.ifCond .ne 7, 3) := by decide +kernel
theorem dX12_canOf_15 : decode cX12_canOf 15 = .ok (.iconst 0, 1) := by decide +kernel
theorem dX12_canOf_16 : decode cX12_canOf 16 = .ok (.goto 4, 3) := by decide +kernel
theorem dX12_canOf_19 : decode cX12_canOf 19 = .ok (.iconst 1, 1) := by decide +kernel
theorem dX12_canOf_20 : decode cX12_canOf 20 = .ok (.iadd, 1) := by decide +kernel
theorem dX12_canOf_21 : decode cX12_canOf 21 = .ok (.iaload, 1) := by decide +kernel
theorem dX12_canOf_22 : decode cX12_canOf 22 = .ok (.ireturn, 1) := by decide +kernel
theorem dX12_nowBy_0 : decode cX12_nowBy 0 = .ok (.iload_n 2, 1) := by decide +kernel
theorem dX12_nowBy_1 : decode cX12_nowBy 1 = .ok (.iconst 5, 1) := by decide +kernel
theorem dX12_nowBy_2 : decode cX12_nowBy 2 = .ok (.iload_n 3, 1) := by decide +kernel
theorem dX12_nowBy_3 : decode cX12_nowBy 3 = .ok (.invokestatic 309, 3) := by decide +kernel
theorem dX12_nowBy_6 : decode cX12_nowBy 6 = .ok (.iadd, 1) := by decide +kernel
theorem dX12_nowBy_7 : decode cX12_nowBy 7 = .ok (.aload_n 0, 1) := by decide +kernel
theorem dX12_nowBy_8 : decode cX12_nowBy 8 = .ok (.getfield 37, 3) := by decide +kernel
theorem dX12_nowBy_11 : decode cX12_nowBy 11 = .ok (.bipush 10, 2) := by decide +kernel
theorem dX12_nowBy_13 : decode cX12_nowBy 13 = .ok (.iload_n 1, 1) := by decide +kernel
theorem dX12_nowBy_14 : decode cX12_nowBy 14 = .ok (.imul, 1) := by decide +kernel
theorem dX12_nowBy_15 : decode cX12_nowBy 15 = .ok (.iconst 4, 1) := by decide +kernel
theorem dX12_nowBy_16 : decode cX12_nowBy 16 = .ok (.iadd, 1) := by decide +kernel
theorem dX12_nowBy_17 : decode cX12_nowBy 17 = .ok (.iaload, 1) := by decide +kernel
theorem dX12_nowBy_18 : decode cX12_nowBy 18 = .ok (.iload 4, 2) := by decide +kernel
theorem dX12_nowBy_20 : decode cX12_nowBy 20 = .ok (.imul, 1) := by decide +kernel
theorem dX12_nowBy_21 : decode cX12_nowBy 21 = .ok (.isub, 1) := by decide +kernel
theorem dX12_nowBy_22 : decode cX12_nowBy 22 = .ok (.aload_n 0, 1) := by decide +kernel
theorem dX12_nowBy_23 : decode cX12_nowBy 23 = .ok (.getfield 37, 3) := by decide +kernel
theorem dX12_nowBy_26 : decode cX12_nowBy 26 = .ok (.bipush 10, 2) := by decide +kernel
theorem dX12_nowBy_28 : decode cX12_nowBy 28 = .ok (.iload_n 1, 1) := by decide +kernel
theorem dX12_nowBy_29 : decode cX12_nowBy 29 = .ok (.imul, 1) := by decide +kernel
theorem dX12_nowBy_30 : decode cX12_nowBy 30 = .ok (.iconst 5, 1) := by decide +kernel
theorem dX12_nowBy_31 : decode cX12_nowBy 31 = .ok (.iadd, 1) := by decide +kernel
theorem dX12_nowBy_32 : decode cX12_nowBy 32 = .ok (.iaload, 1) := by decide +kernel
theorem dX12_nowBy_33 : decode cX12_nowBy 33 = .ok (.iconst 0, 1) := by decide +kernel
theorem dX12_nowBy_34 : decode cX12_nowBy 34 = .ok (.iload 5, 2) := by decide +kernel
theorem dX12_nowBy_36 : decode cX12_nowBy 36 = .ok (.iconst 2, 1) := by decide +kernel
theorem dX12_nowBy_37 : decode cX12_nowBy 37 = .ok (.isub, 1) := by decide +kernel
theorem dX12_nowBy_38 : decode cX12_nowBy 38 = .ok (.invokestatic 307, 3) := by decide +kernel
theorem dX12_nowBy_41 : decode cX12_nowBy 41 = .ok (.imul, 1) := by decide +kernel
theorem dX12_nowBy_42 : decode cX12_nowBy 42 = .ok (.isub, 1) := by decide +kernel
theorem dX12_nowBy_43 : decode cX12_nowBy 43 = .ok (.ireturn, 1) := by decide +kernel
theorem dX12_waitedOf_0 : decode cX12_waitedOf 0 = .ok (.aload_n 1, 1) := by decide +kernel
theorem dX12_waitedOf_1 : decode cX12_waitedOf 1 = .ok (.bipush 68, 2) := by decide +kernel
theorem dX12_waitedOf_3 : decode cX12_waitedOf 3 = .ok (.iaload, 1) := by decide +kernel
theorem dX12_waitedOf_4 : decode cX12_waitedOf 4 = .ok (.aload_n 1, 1) := by decide +kernel
theorem dX12_waitedOf_5 : decode cX12_waitedOf 5 = .ok (.bipush 11, 2) := by decide +kernel
theorem dX12_waitedOf_7 : decode cX12_waitedOf 7 = .ok (.iload_n 2, 1) := by decide +kernel
theorem dX12_waitedOf_8 : decode cX12_waitedOf 8 = .ok (.imul, 1) := by decide +kernel
theorem dX12_waitedOf_9 : decode cX12_waitedOf 9 = .ok (.bipush 8, 2) := by decide +kernel
theorem dX12_waitedOf_11 : decode cX12_waitedOf 11 = .ok (.iadd, 1) := by decide +kernel
theorem dX12_waitedOf_12 : decode cX12_waitedOf 12 = .ok (.iaload, 1) := by decide +kernel
theorem dX12_waitedOf_13 : decode cX12_waitedOf 13 = .ok (.isub, 1) := by decide +kernel
theorem dX12_waitedOf_14 : decode cX12_waitedOf 14 = .ok (.ireturn, 1) := by decide +kernel
theorem dX12_nowOf_0 : decode cX12_nowOf 0 = .ok (.aload_n 0, 1) := by decide +kernel
theorem dX12_nowOf_1 : decode cX12_nowOf 1 = .ok (.iload_n 2, 1) := by decide +kernel
theorem dX12_nowOf_2 : decode cX12_nowOf 2 = .ok (.aload_n 0, 1) := by decide +kernel
theorem dX12_nowOf_3 : decode cX12_nowOf 3 = .ok (.aload_n 1, 1) := by decide +kernel
theorem dX12_nowOf_4 : decode cX12_nowOf 4 = .ok (.iload_n 2, 1) := by decide +kernel
theorem dX12_nowOf_5 : decode cX12_nowOf 5 = .ok (.invokevirtual 315, 3) := by decide +kernel
theorem dX12_nowOf_8 : decode cX12_nowOf 8 = .ok (.aload_n 1, 1) := by decide +kernel
theorem dX12_nowOf_9 : decode cX12_nowOf 9 = .ok (.bipush 11, 2) := by decide +kernel
theorem dX12_nowOf_11 : decode cX12_nowOf 11 = .ok (.iload_n 2, 1) := by decide +kernel
theorem dX12_nowOf_12 : decode cX12_nowOf 12 = .ok (.imul, 1) := by decide +kernel
theorem dX12_nowOf_13 : decode cX12_nowOf 13 = .ok (.bipush 7, 2) := by decide +kernel
theorem dX12_nowOf_15 : decode cX12_nowOf 15 = .ok (.iadd, 1) := by decide +kernel
theorem dX12_nowOf_16 : decode cX12_nowOf 16 = .ok (.iaload, 1) := by decide +kernel
theorem dX12_nowOf_17 : decode cX12_nowOf 17 = .ok (.aload_n 1, 1) := by decide +kernel
theorem dX12_nowOf_18 : decode cX12_nowOf 18 = .ok (.bipush 11, 2) := by decide +kernel
theorem dX12_nowOf_20 : decode cX12_nowOf 20 = .ok (.iload_n 2, 1) := by decide +kernel
theorem dX12_nowOf_21 : decode cX12_nowOf 21 = .ok (.imul, 1) := by decide +kernel
theorem dX12_nowOf_22 : decode cX12_nowOf 22 = .ok (.bipush 9, 2) := by decide +kernel
theorem dX12_nowOf_24 : decode cX12_nowOf 24 = .ok (.iadd, 1) := by decide +kernel
theorem dX12_nowOf_25 : decode cX12_nowOf 25 = .ok (.iaload, 1) := by decide +kernel
theorem dX12_nowOf_26 : decode cX12_nowOf 26 = .ok (.aload_n 0, 1) := by decide +kernel
theorem dX12_nowOf_27 : decode cX12_nowOf 27 = .ok (.aload_n 1, 1) := by decide +kernel
theorem dX12_nowOf_28 : decode cX12_nowOf 28 = .ok (.iload_n 2, 1) := by decide +kernel
theorem dX12_nowOf_29 : decode cX12_nowOf 29 = .ok (.invokevirtual 319, 3) := by decide +kernel
theorem dX12_nowOf_32 : decode cX12_nowOf 32 = .ok (.invokevirtual 322, 3) := by decide +kernel
theorem dX12_nowOf_35 : decode cX12_nowOf 35 = .ok (.ireturn, 1) := by decide +kernel
theorem dX12_oddsBy_0 : decode cX12_oddsBy 0 = .ok (.aload_n 0, 1) := by decide +kernel
theorem dX12_oddsBy_1 : decode cX12_oddsBy 1 = .ok (.getfield 55, 3) := by decide +kernel
theorem dX12_oddsBy_4 : decode cX12_oddsBy 4 = .ok (.iconst (-1), 1) := by decide +kernel
theorem dX12_oddsBy_5 : decode cX12_oddsBy 5 = .ok (.if_icmp .ne 31, 3) := by decide +kernel
theorem dX12_oddsBy_8 : decode cX12_oddsBy 8 = .ok (.iconst 0, 1) := by decide +kernel
theorem dX12_oddsBy_9 : decode cX12_oddsBy 9 = .ok (.bipush 100, 2) := by decide +kernel
theorem dX12_oddsBy_11 : decode cX12_oddsBy 11 = .ok (.bipush 50, 2) := by decide +kernel
theorem dX12_oddsBy_13 : decode cX12_oddsBy 13 = .ok (.aload_n 0, 1) := by decide +kernel
theorem dX12_oddsBy_14 : decode cX12_oddsBy 14 = .ok (.getfield 37, 3) := by decide +kernel
theorem dX12_oddsBy_17 : decode cX12_oddsBy 17 = .ok (.bipush 10, 2) := by decide +kernel
theorem dX12_oddsBy_19 : decode cX12_oddsBy 19 = .ok (.iload_n 1, 1) := by decide +kernel
theorem dX12_oddsBy_20 : decode cX12_oddsBy 20 = .ok (.imul, 1) := by decide +kernel
theorem dX12_oddsBy_21 : decode cX12_oddsBy 21 = .ok (.iconst 3, 1) := by decide +kernel
theorem dX12_oddsBy_22 : decode cX12_oddsBy 22 = .ok (.iadd, 1) := by decide +kernel
theorem dX12_oddsBy_23 : decode cX12_oddsBy 23 = .ok (.iaload, 1) := by decide +kernel
theorem dX12_oddsBy_24 : decode cX12_oddsBy 24 = .ok (.iload_n 3, 1) := by decide +kernel
theorem dX12_oddsBy_25 : decode cX12_oddsBy 25 = .ok (.iload_n 2, 1) := by decide +kernel
theorem dX12_oddsBy_26 : decode cX12_oddsBy 26 = .ok (.isub, 1) := by decide +kernel
theorem dX12_oddsBy_27 : decode cX12_oddsBy 27 = .ok (.imul, 1) := by decide +kernel
theorem dX12_oddsBy_28 : decode cX12_oddsBy 28 = .ok (.iadd, 1) := by decide +kernel
theorem dX12_oddsBy_29 : decode cX12_oddsBy 29 = .ok (.invokestatic 309, 3) := by decide +kernel
theorem dX12_oddsBy_32 : decode cX12_oddsBy 32 = .ok (.invokestatic 307, 3) := by decide +kernel
theorem dX12_oddsBy_35 : decode cX12_oddsBy 35 = .ok (.ireturn, 1) := by decide +kernel
theorem dX12_oddsBy_36 : decode cX12_oddsBy 36 = .ok (.aload_n 0, 1) := by decide +kernel
theorem dX12_oddsBy_37 : decode cX12_oddsBy 37 = .ok (.getfield 20, 3) := by decide +kernel
theorem dX12_oddsBy_40 : decode cX12_oddsBy 40 = .ok (.bipush 119, 2) := by decide +kernel
theorem dX12_oddsBy_42 : decode cX12_oddsBy 42 = .ok (.iload_n 2, 1) := by decide +kernel
theorem dX12_oddsBy_43 : decode cX12_oddsBy 43 = .ok (.iastore, 1) := by decide +kernel
theorem dX12_oddsBy_44 : decode cX12_oddsBy 44 = .ok (.aload_n 0, 1) := by decide +kernel
theorem dX12_oddsBy_45 : decode cX12_oddsBy 45 = .ok (.getfield 20, 3) := by decide +kernel
theorem dX12_oddsBy_48 : decode cX12_oddsBy 48 = .ok (.bipush 115, 2) := by decide +kernel
theorem dX12_oddsBy_50 : decode cX12_oddsBy 50 = .ok (.iload_n 3, 1) := by decide +kernel
theorem dX12_oddsBy_51 : decode cX12_oddsBy 51 = .ok (.iastore, 1) := by decide +kernel
theorem dX12_oddsBy_52 : decode cX12_oddsBy 52 = .ok (.aload_n 0, 1) := by decide +kernel
theorem dX12_oddsBy_53 : decode cX12_oddsBy 53 = .ok (.getfield 20, 3) := by decide +kernel
theorem dX12_oddsBy_56 : decode cX12_oddsBy 56 = .ok (.bipush 100, 2) := by decide +kernel
theorem dX12_oddsBy_58 : decode cX12_oddsBy 58 = .ok (.aload_n 0, 1) := by decide +kernel
theorem dX12_oddsBy_59 : decode cX12_oddsBy 59 = .ok (.getfield 37, 3) := by decide +kernel
theorem dX12_oddsBy_62 : decode cX12_oddsBy 62 = .ok (.bipush 10, 2) := by decide +kernel
theorem dX12_oddsBy_64 : decode cX12_oddsBy 64 = .ok (.iload_n 1, 1) := by decide +kernel
theorem dX12_oddsBy_65 : decode cX12_oddsBy 65 = .ok (.imul, 1) := by decide +kernel
theorem dX12_oddsBy_66 : decode cX12_oddsBy 66 = .ok (.iconst 3, 1) := by decide +kernel
theorem dX12_oddsBy_67 : decode cX12_oddsBy 67 = .ok (.iadd, 1) := by decide +kernel
theorem dX12_oddsBy_68 : decode cX12_oddsBy 68 = .ok (.iaload, 1) := by decide +kernel
theorem dX12_oddsBy_69 : decode cX12_oddsBy 69 = .ok (.iastore, 1) := by decide +kernel
theorem dX12_oddsBy_70 : decode cX12_oddsBy 70 = .ok (.aload_n 0, 1) := by decide +kernel
theorem dX12_oddsBy_71 : decode cX12_oddsBy 71 = .ok (.getfield 20, 3) := by decide +kernel
theorem dX12_oddsBy_74 : decode cX12_oddsBy 74 = .ok (.bipush 116, 2) := by decide +kernel
theorem dX12_oddsBy_76 : decode cX12_oddsBy 76 = .ok (.iload 4, 2) := by decide +kernel
theorem dX12_oddsBy_78 : decode cX12_oddsBy 78 = .ok (.iastore, 1) := by decide +kernel
theorem dX12_oddsBy_79 : decode cX12_oddsBy 79 = .ok (.aload_n 0, 1) := by decide +kernel
theorem dX12_oddsBy_80 : decode cX12_oddsBy 80 = .ok (.getfield 20, 3) := by decide +kernel
theorem dX12_oddsBy_83 : decode cX12_oddsBy 83 = .ok (.bipush 99, 2) := by decide +kernel
theorem dX12_oddsBy_85 : decode cX12_oddsBy 85 = .ok (.iload 5, 2) := by decide +kernel
theorem dX12_oddsBy_87 : decode cX12_oddsBy 87 = .ok (.iastore, 1) := by decide +kernel
theorem dX12_oddsBy_88 : decode cX12_oddsBy 88 = .ok (.aload_n 0, 1) := by decide +kernel
theorem dX12_oddsBy_89 : decode cX12_oddsBy 89 = .ok (.getfield 20, 3) := by decide +kernel
theorem dX12_oddsBy_92 : decode cX12_oddsBy 92 = .ok (.bipush 114, 2) := by decide +kernel
theorem dX12_oddsBy_94 : decode cX12_oddsBy 94 = .ok (.iconst 0, 1) := by decide +kernel
theorem dX12_oddsBy_95 : decode cX12_oddsBy 95 = .ok (.iastore, 1) := by decide +kernel
theorem dX12_oddsBy_96 : decode cX12_oddsBy 96 = .ok (.aload_n 0, 1) := by decide +kernel
theorem dX12_oddsBy_97 : decode cX12_oddsBy 97 = .ok (.getfield 20, 3) := by decide +kernel
theorem dX12_oddsBy_100 : decode cX12_oddsBy 100 = .ok (.bipush 107, 2) := by decide +kernel
theorem dX12_oddsBy_102 : decode cX12_oddsBy 102 = .ok (.iconst 0, 1) := by decide +kernel
theorem dX12_oddsBy_103 : decode cX12_oddsBy 103 = .ok (.iastore, 1) := by decide +kernel
theorem dX12_oddsBy_104 : decode cX12_oddsBy 104 = .ok (.aload_n 0, 1) := by decide +kernel
theorem dX12_oddsBy_105 : decode cX12_oddsBy 105 = .ok (.getfield 20, 3) := by decide +kernel
theorem dX12_oddsBy_108 : decode cX12_oddsBy 108 = .ok (.bipush 98, 2) := by decide +kernel
theorem dX12_oddsBy_110 : decode cX12_oddsBy 110 = .ok (.aload_n 0, 1) := by decide +kernel
theorem dX12_oddsBy_111 : decode cX12_oddsBy 111 = .ok (.getfield 37, 3) := by decide +kernel
theorem dX12_oddsBy_114 : decode cX12_oddsBy 114 = .ok (.bipush 10, 2) := by decide +kernel
theorem dX12_oddsBy_116 : decode cX12_oddsBy 116 = .ok (.iload_n 1, 1) := by decide +kernel
theorem dX12_oddsBy_117 : decode cX12_oddsBy 117 = .ok (.imul, 1) := by decide +kernel
theorem dX12_oddsBy_118 : decode cX12_oddsBy 118 = .ok (.iconst 2, 1) := by decide +kernel
theorem dX12_oddsBy_119 : decode cX12_oddsBy 119 = .ok (.iadd, 1) := by decide +kernel
theorem dX12_oddsBy_120 : decode cX12_oddsBy 120 = .ok (.iaload, 1) := by decide +kernel
theorem dX12_oddsBy_121 : decode cX12_oddsBy 121 = .ok (.iastore, 1) := by decide +kernel
theorem dX12_oddsBy_122 : decode cX12_oddsBy 122 = .ok (.iload_n 2, 1) := by decide +kernel
theorem dX12_oddsBy_123 : decode cX12_oddsBy 123 = .ok (.i2l, 1) := by decide +kernel
theorem dX12_oddsBy_124 : decode cX12_oddsBy 124 = .ok (.lstore 6, 2) := by decide +kernel
theorem dX12_oddsBy_126 : decode cX12_oddsBy 126 = .ok (.ldc2_w 150, 3) := by decide +kernel
theorem dX12_oddsBy_129 : decode cX12_oddsBy 129 = .ok (.lload 6, 2) := by decide +kernel
theorem dX12_oddsBy_131 : decode cX12_oddsBy 131 = .ok (.lmul, 1) := by decide +kernel
theorem dX12_oddsBy_132 : decode cX12_oddsBy 132 = .ok (.iload_n 3, 1) := by decide +kernel
theorem dX12_oddsBy_133 : decode cX12_oddsBy 133 = .ok (.i2l, 1) := by decide +kernel
theorem dX12_oddsBy_134 : decode cX12_oddsBy 134 = .ok (.ladd, 1) := by decide +kernel
theorem dX12_oddsBy_135 : decode cX12_oddsBy 135 = .ok (.ldc2_w 326, 3) := by decide +kernel
theorem dX12_oddsBy_138 : decode cX12_oddsBy 138 = .ok (.ladd, 1) := by decide +kernel
theorem dX12_oddsBy_139 : decode cX12_oddsBy 139 = .ok (.lstore 6, 2) := by decide +kernel
theorem dX12_oddsBy_141 : decode cX12_oddsBy 141 = .ok (.ldc2_w 328, 3) := by decide +kernel
theorem dX12_oddsBy_144 : decode cX12_oddsBy 144 = .ok (.lload 6, 2) := by decide +kernel
theorem dX12_oddsBy_146 : decode cX12_oddsBy 146 = .ok (.lmul, 1) := by decide +kernel
theorem dX12_oddsBy_147 : decode cX12_oddsBy 147 = .ok (.aload_n 0, 1) := by decide +kernel
theorem dX12_oddsBy_148 : decode cX12_oddsBy 148 = .ok (.getfield 20, 3) := by decide +kernel
theorem dX12_oddsBy_151 : decode cX12_oddsBy 151 = .ok (.bipush 100, 2) := by decide +kernel
theorem dX12_oddsBy_153 : decode cX12_oddsBy 153 = .ok (.iaload, 1) := by decide +kernel
theorem dX12_oddsBy_154 : decode cX12_oddsBy 154 = .ok (.i2l, 1) := by decide +kernel
theorem dX12_oddsBy_155 : decode cX12_oddsBy 155 = .ok (.ladd, 1) := by decide +kernel
theorem dX12_oddsBy_156 : decode cX12_oddsBy 156 = .ok (.lstore 6, 2) := by decide +kernel
theorem dX12_oddsBy_158 : decode cX12_oddsBy 158 = .ok (.ldc2_w 330, 3) := by decide +kernel
theorem dX12_oddsBy_161 : decode cX12_oddsBy 161 = .ok (.lload 6, 2) := by decide +kernel
theorem dX12_oddsBy_163 : decode cX12_oddsBy 163 = .ok (.lmul, 1) := by decide +kernel
theorem dX12_oddsBy_164 : decode cX12_oddsBy 164 = .ok (.iload 4, 2) := by decide +kernel
theorem dX12_oddsBy_166 : decode cX12_oddsBy 166 = .ok (.i2l, 1) := by decide +kernel
theorem dX12_oddsBy_167 : decode cX12_oddsBy 167 = .ok (.ladd, 1) := by decide +kernel
theorem dX12_oddsBy_168 : decode cX12_oddsBy 168 = .ok (.lstore 6, 2) := by decide +kernel
theorem dX12_oddsBy_170 : decode cX12_oddsBy 170 = .ok (.ldc2_w 332, 3) := by decide +kernel
theorem dX12_oddsBy_173 : decode cX12_oddsBy 173 = .ok (.lload 6, 2) := by decide +kernel
theorem dX12_oddsBy_175 : decode cX12_oddsBy 175 = .ok (.lmul, 1) := by decide +kernel
theorem dX12_oddsBy_176 : decode cX12_oddsBy 176 = .ok (.iload 5, 2) := by decide +kernel
theorem dX12_oddsBy_178 : decode cX12_oddsBy 178 = .ok (.i2l, 1) := by decide +kernel
theorem dX12_oddsBy_179 : decode cX12_oddsBy 179 = .ok (.ladd, 1) := by decide +kernel
theorem dX12_oddsBy_180 : decode cX12_oddsBy 180 = .ok (.lstore 6, 2) := by decide +kernel
theorem dX12_oddsBy_182 : decode cX12_oddsBy 182 = .ok (.ldc2_w 334, 3) := by decide +kernel
theorem dX12_oddsBy_185 : decode cX12_oddsBy 185 = .ok (.lload 6, 2) := by decide +kernel
theorem dX12_oddsBy_187 : decode cX12_oddsBy 187 = .ok (.lmul, 1) := by decide +kernel
theorem dX12_oddsBy_188 : decode cX12_oddsBy 188 = .ok (.aload_n 0, 1) := by decide +kernel
theorem dX12_oddsBy_189 : decode cX12_oddsBy 189 = .ok (.getfield 20, 3) := by decide +kernel
theorem dX12_oddsBy_192 : decode cX12_oddsBy 192 = .ok (.bipush 98, 2) := by decide +kernel
theorem dX12_oddsBy_194 : decode cX12_oddsBy 194 = .ok (.iaload, 1) := by decide +kernel
theorem dX12_oddsBy_195 : decode cX12_oddsBy 195 = .ok (.i2l, 1) := by decide +kernel
theorem dX12_oddsBy_196 : decode cX12_oddsBy 196 = .ok (.ladd, 1) := by decide +kernel
theorem dX12_oddsBy_197 : decode cX12_oddsBy 197 = .ok (.lstore 6, 2) := by decide +kernel
theorem dX12_oddsBy_199 : decode cX12_oddsBy 199 = .ok (.ldc2_w 336, 3) := by decide +kernel
theorem dX12_oddsBy_202 : decode cX12_oddsBy 202 = .ok (.lload 6, 2) := by decide +kernel
theorem dX12_oddsBy_204 : decode cX12_oddsBy 204 = .ok (.lmul, 1) := by decide +kernel
theorem dX12_oddsBy_205 : decode cX12_oddsBy 205 = .ok (.aload_n 0, 1) := by decide +kernel
theorem dX12_oddsBy_206 : decode cX12_oddsBy 206 = .ok (.getfield 55, 3) := by decide +kernel
theorem dX12_oddsBy_209 : decode cX12_oddsBy 209 = .ok (.i2l, 1) := by decide +kernel
theorem dX12_oddsBy_210 : decode cX12_oddsBy 210 = .ok (.ladd, 1) := by decide +kernel
theorem dX12_oddsBy_211 : decode cX12_oddsBy 211 = .ok (.lconst 1, 1) := by decide +kernel
theorem dX12_oddsBy_212 : decode cX12_oddsBy 212 = .ok (.ladd, 1) := by decide +kernel
theorem dX12_oddsBy_213 : decode cX12_oddsBy 213 = .ok (.lstore 6, 2) := by decide +kernel
theorem dX12_oddsBy_215 : decode cX12_oddsBy 215 = .ok (.lload 6, 2) := by decide +kernel
theorem dX12_oddsBy_217 : decode cX12_oddsBy 217 = .ok (.ldc2_w 338, 3) := by decide +kernel
theorem dX12_oddsBy_220 : decode cX12_oddsBy 220 = .ok (.lrem, 1) := by decide +kernel
theorem dX12_oddsBy_221 : decode cX12_oddsBy 221 = .ok (.l2i, 1) := by decide +kernel
theorem dX12_oddsBy_222 : decode cX12_oddsBy 222 = .ok (.istore 8, 2) := by decide +kernel
theorem dX12_oddsBy_224 : decode cX12_oddsBy 224 = .ok (.aload_n 0, 1) := by decide +kernel
theorem dX12_oddsBy_225 : decode cX12_oddsBy 225 = .ok (.getfield 62, 3) := by decide +kernel
theorem dX12_oddsBy_228 : decode cX12_oddsBy 228 = .ok (.iload 8, 2) := by decide +kernel
theorem dX12_oddsBy_230 : decode cX12_oddsBy 230 = .ok (.laload, 1) := by decide +kernel
theorem dX12_oddsBy_231 : decode cX12_oddsBy 231 = .ok (.lload 6, 2) := by decide +kernel
theorem dX12_oddsBy_233 : decode cX12_oddsBy 233 = .ok (.lcmp, 1) := by decide +kernel
theorem dX12_oddsBy_234 : decode cX12_oddsBy 234 = .ok (.ifCond .eq 48, 3) := by decide +kernel
theorem dX12_oddsBy_237 : decode cX12_oddsBy 237 = .ok (.aload_n 0, 1) := by decide +kernel
theorem dX12_oddsBy_238 : decode cX12_oddsBy 238 = .ok (.aload_n 0, 1) := by decide +kernel
theorem dX12_oddsBy_239 : decode cX12_oddsBy 239 = .ok (.getfield 13, 3) := by decide +kernel
theorem dX12_oddsBy_242 : decode cX12_oddsBy 242 = .ok (.sipush 240, 3) := by decide +kernel
theorem dX12_oddsBy_245 : decode cX12_oddsBy 245 = .ok (.aload_n 0, 1) := by decide +kernel
theorem dX12_oddsBy_246 : decode cX12_oddsBy 246 = .ok (.getfield 55, 3) := by decide +kernel
theorem dX12_oddsBy_249 : decode cX12_oddsBy 249 = .ok (.imul, 1) := by decide +kernel
theorem dX12_oddsBy_250 : decode cX12_oddsBy 250 = .ok (.aload_n 0, 1) := by decide +kernel
theorem dX12_oddsBy_251 : decode cX12_oddsBy 251 = .ok (.getfield 16, 3) := by decide +kernel
theorem dX12_oddsBy_254 : decode cX12_oddsBy 254 = .ok (.aload_n 0, 1) := by decide +kernel
theorem dX12_oddsBy_255 : decode cX12_oddsBy 255 = .ok (.getfield 55, 3) := by decide +kernel
theorem dX12_oddsBy_258 : decode cX12_oddsBy 258 = .ok (.iaload, 1) := by decide +kernel
theorem dX12_oddsBy_259 : decode cX12_oddsBy 259 = .ok (.invokevirtual 270, 3) := by decide +kernel
theorem dX12_oddsBy_262 : decode cX12_oddsBy 262 = .ok (.aload_n 0, 1) := by decide +kernel
theorem dX12_oddsBy_263 : decode cX12_oddsBy 263 = .ok (.getfield 62, 3) := by decide +kernel
theorem dX12_oddsBy_266 : decode cX12_oddsBy 266 = .ok (.iload 8, 2) := by decide +kernel
theorem dX12_oddsBy_268 : decode cX12_oddsBy 268 = .ok (.lload 6, 2) := by decide +kernel
theorem dX12_oddsBy_270 : decode cX12_oddsBy 270 = .ok (.lastore, 1) := by decide +kernel
theorem dX12_oddsBy_271 : decode cX12_oddsBy 271 = .ok (.aload_n 0, 1) := by decide +kernel
theorem dX12_oddsBy_272 : decode cX12_oddsBy 272 = .ok (.getfield 66, 3) := by decide +kernel
theorem dX12_oddsBy_275 : decode cX12_oddsBy 275 = .ok (.iload 8, 2) := by decide +kernel
theorem dX12_oddsBy_277 : decode cX12_oddsBy 277 = .ok (.aload_n 0, 1) := by decide +kernel
theorem dX12_oddsBy_278 : decode cX12_oddsBy 278 = .ok (.getfield 211, 3) := by decide +kernel
theorem dX12_oddsBy_281 : decode cX12_oddsBy 281 = .ok (.iastore, 1) := by decide +kernel
theorem dX12_oddsBy_282 : decode cX12_oddsBy 282 = .ok (.iconst 0, 1) := by decide +kernel
theorem dX12_oddsBy_283 : decode cX12_oddsBy 283 = .ok (.bipush 100, 2) := by decide +kernel
theorem dX12_oddsBy_285 : decode cX12_oddsBy 285 = .ok (.aload_n 0, 1) := by decide +kernel
theorem dX12_oddsBy_286 : decode cX12_oddsBy 286 = .ok (.getfield 66, 3) := by decide +kernel
theorem dX12_oddsBy_289 : decode cX12_oddsBy 289 = .ok (.iload 8, 2) := by decide +kernel
theorem dX12_oddsBy_291 : decode cX12_oddsBy 291 = .ok (.iaload, 1) := by decide +kernel
theorem dX12_oddsBy_292 : decode cX12_oddsBy 292 = .ok (.invokestatic 309, 3) := by decide +kernel
theorem dX12_oddsBy_295 : decode cX12_oddsBy 295 = .ok (.invokestatic 307, 3) := by decide +kernel
theorem dX12_oddsBy_298 : decode cX12_oddsBy 298 = .ok (.ireturn, 1) := by decide +kernel
theorem dX12_oddsOf_0 : decode cX12_oddsOf 0 = .ok (.aload_n 0, 1) := by decide +kernel
theorem dX12_oddsOf_1 : decode cX12_oddsOf 1 = .ok (.iload_n 2, 1) := by decide +kernel
theorem dX12_oddsOf_2 : decode cX12_oddsOf 2 = .ok (.iload_n 3, 1) := by decide +kernel
theorem dX12_oddsOf_3 : decode cX12_oddsOf 3 = .ok (.aload_n 0, 1) := by decide +kernel
theorem dX12_oddsOf_4 : decode cX12_oddsOf 4 = .ok (.aload_n 1, 1) := by decide +kernel
theorem dX12_oddsOf_5 : decode cX12_oddsOf 5 = .ok (.iload_n 2, 1) := by decide +kernel
theorem dX12_oddsOf_6 : decode cX12_oddsOf 6 = .ok (.invokevirtual 340, 3) := by decide +kernel
theorem dX12_oddsOf_9 : decode cX12_oddsOf 9 = .ok (.aload_n 1, 1) := by decide +kernel
theorem dX12_oddsOf_10 : decode cX12_oddsOf 10 = .ok (.bipush 11, 2) := by decide +kernel
theorem dX12_oddsOf_12 : decode cX12_oddsOf 12 = .ok (.iload_n 2, 1) := by decide +kernel
theorem dX12_oddsOf_13 : decode cX12_oddsOf 13 = .ok (.imul, 1) := by decide +kernel
theorem dX12_oddsOf_14 : decode cX12_oddsOf 14 = .ok (.iconst 1, 1) := by decide +kernel
theorem dX12_oddsOf_15 : decode cX12_oddsOf 15 = .ok (.iadd, 1) := by decide +kernel
theorem dX12_oddsOf_16 : decode cX12_oddsOf 16 = .ok (.iaload, 1) := by decide +kernel
theorem dX12_oddsOf_17 : decode cX12_oddsOf 17 = .ok (.aload_n 0, 1) := by decide +kernel
theorem dX12_oddsOf_18 : decode cX12_oddsOf 18 = .ok (.aload_n 1, 1) := by decide +kernel
theorem dX12_oddsOf_19 : decode cX12_oddsOf 19 = .ok (.iload_n 2, 1) := by decide +kernel
theorem dX12_oddsOf_20 : decode cX12_oddsOf 20 = .ok (.invokevirtual 319, 3) := by decide +kernel
theorem dX12_oddsOf_23 : decode cX12_oddsOf 23 = .ok (.invokevirtual 343, 3) := by decide +kernel
theorem dX12_oddsOf_26 : decode cX12_oddsOf 26 = .ok (.ireturn, 1) := by decide +kernel
theorem dX12_sumOf_0 : decode cX12_sumOf 0 = .ok (.aload_n 0, 1) := by decide +kernel
theorem dX12_sumOf_1 : decode cX12_sumOf 1 = .ok (.bipush 11, 2) := by decide +kernel
theorem dX12_sumOf_3 : decode cX12_sumOf 3 = .ok (.iload_n 1, 1) := by decide +kernel
theorem dX12_sumOf_4 : decode cX12_sumOf 4 = .ok (.imul, 1) := by decide +kernel
theorem dX12_sumOf_5 : decode cX12_sumOf 5 = .ok (.iconst 2, 1) := by decide +kernel
theorem dX12_sumOf_6 : decode cX12_sumOf 6 = .ok (.iadd, 1) := by decide +kernel
theorem dX12_sumOf_7 : decode cX12_sumOf 7 = .ok (.iaload, 1) := by decide +kernel
theorem dX12_sumOf_8 : decode cX12_sumOf 8 = .ok (.istore_n 2, 1) := by decide +kernel
theorem dX12_sumOf_9 : decode cX12_sumOf 9 = .ok (.aload_n 0, 1) := by decide +kernel
theorem dX12_sumOf_10 : decode cX12_sumOf 10 = .ok (.bipush 11, 2) := by decide +kernel
theorem dX12_sumOf_12 : decode cX12_sumOf 12 = .ok (.iload_n 1, 1) := by decide +kernel
theorem dX12_sumOf_13 : decode cX12_sumOf 13 = .ok (.imul, 1) := by decide +kernel
theorem dX12_sumOf_14 : decode cX12_sumOf 14 = .ok (.iconst 2, 1) := by decide +kernel
theorem dX12_sumOf_15 : decode cX12_sumOf 15 = .ok (.iadd, 1) := by decide +kernel
theorem dX12_sumOf_16 : decode cX12_sumOf 16 = .ok (.iconst 1, 1) := by decide +kernel
theorem dX12_sumOf_17 : decode cX12_sumOf 17 = .ok (.iadd, 1) := by decide +kernel
theorem dX12_sumOf_18 : decode cX12_sumOf 18 = .ok (.iaload, 1) := by decide +kernel
theorem dX12_sumOf_19 : decode cX12_sumOf 19 = .ok (.istore_n 3, 1) := by decide +kernel
theorem dX12_sumOf_20 : decode cX12_sumOf 20 = .ok (.iload_n 2, 1) := by decide +kernel
theorem dX12_sumOf_21 : decode cX12_sumOf 21 = .ok (.ifCond .eq 7, 3) := by decide +kernel
theorem dX12_sumOf_24 : decode cX12_sumOf 24 = .ok (.iload_n 3, 1) := by decide +kernel
theorem dX12_sumOf_25 : decode cX12_sumOf 25 = .ok (.ifCond .ne 7, 3) := by decide +kernel
theorem dX12_sumOf_28 : decode cX12_sumOf 28 = .ok (.iconst 0, 1) := by decide +kernel
theorem dX12_sumOf_29 : decode cX12_sumOf 29 = .ok (.goto 6, 3) := by decide +kernel
theorem dX12_sumOf_32 : decode cX12_sumOf 32 = .ok (.iload_n 2, 1) := by decide +kernel
theorem dX12_sumOf_33 : decode cX12_sumOf 33 = .ok (.iload_n 3, 1) := by decide +kernel
theorem dX12_sumOf_34 : decode cX12_sumOf 34 = .ok (.iadd, 1) := by decide +kernel
theorem dX12_sumOf_35 : decode cX12_sumOf 35 = .ok (.ireturn, 1) := by decide +kernel
theorem dX12_isBetter_0 : decode cX12_isBetter 0 = .ok (.aload_n 1, 1) := by decide +kernel
theorem dX12_isBetter_1 : decode cX12_isBetter 1 = .ok (.iload_n 3, 1) := by decide +kernel
theorem dX12_isBetter_2 : decode cX12_isBetter 2 = .ok (.invokestatic 346, 3) := by decide +kernel
theorem dX12_isBetter_5 : decode cX12_isBetter 5 = .ok (.aload_n 1, 1) := by decide +kernel
theorem dX12_isBetter_6 : decode cX12_isBetter 6 = .ok (.iload_n 2, 1) := by decide +kernel
theorem dX12_isBetter_7 : decode cX12_isBetter 7 = .ok (.invokestatic 346, 3) := by decide +kernel
theorem dX12_isBetter_10 : decode cX12_isBetter 10 = .ok (.isub, 1) := by decide +kernel
theorem dX12_isBetter_11 : decode cX12_isBetter 11 = .ok (.istore 4, 2) := by decide +kernel
theorem dX12_isBetter_13 : decode cX12_isBetter 13 = .ok (.iload 4, 2) := by decide +kernel
theorem dX12_isBetter_15 : decode cX12_isBetter 15 = .ok (.ifCond .ne 59, 3) := by decide +kernel
theorem dX12_isBetter_18 : decode cX12_isBetter 18 = .ok (.aload_n 0, 1) := by decide +kernel
theorem dX12_isBetter_19 : decode cX12_isBetter 19 = .ok (.getfield 43, 3) := by decide +kernel
theorem dX12_isBetter_22 : decode cX12_isBetter 22 = .ok (.iconst 3, 1) := by decide +kernel
theorem dX12_isBetter_23 : decode cX12_isBetter 23 = .ok (.iaload, 1) := by decide +kernel
theorem dX12_isBetter_24 : decode cX12_isBetter 24 = .ok (.ifCond .ne 29, 3) := by decide +kernel
theorem dX12_isBetter_27 : decode cX12_isBetter 27 = .ok (.aload_n 0, 1) := by decide +kernel
theorem dX12_isBetter_28 : decode cX12_isBetter 28 = .ok (.getfield 37, 3) := by decide +kernel
theorem dX12_isBetter_31 : decode cX12_isBetter 31 = .ok (.bipush 10, 2) := by decide +kernel
theorem dX12_isBetter_33 : decode cX12_isBetter 33 = .ok (.iload_n 2, 1) := by decide +kernel
theorem dX12_isBetter_34 : decode cX12_isBetter 34 = .ok (.imul, 1) := by decide +kernel
theorem dX12_isBetter_35 : decode cX12_isBetter 35 = .ok (.iconst 2, 1) := by decide +kernel
theorem dX12_isBetter_36 : decode cX12_isBetter 36 = .ok (.iadd, 1) := by decide +kernel
theorem dX12_isBetter_37 : decode cX12_isBetter 37 = .ok (.iaload, 1) := by decide +kernel
theorem dX12_isBetter_38 : decode cX12_isBetter 38 = .ok (.aload_n 0, 1) := by decide +kernel
theorem dX12_isBetter_39 : decode cX12_isBetter 39 = .ok (.getfield 37, 3) := by decide +kernel
theorem dX12_isBetter_42 : decode cX12_isBetter 42 = .ok (.bipush 10, 2) := by decide +kernel
theorem dX12_isBetter_44 : decode cX12_isBetter 44 = .ok (.iload_n 3, 1) := by decide +kernel
theorem dX12_isBetter_45 : decode cX12_isBetter 45 = .ok (.imul, 1) := by decide +kernel
theorem dX12_isBetter_46 : decode cX12_isBetter 46 = .ok (.iconst 2, 1) := by decide +kernel
theorem dX12_isBetter_47 : decode cX12_isBetter 47 = .ok (.iadd, 1) := by decide +kernel
theorem dX12_isBetter_48 : decode cX12_isBetter 48 = .ok (.iaload, 1) := by decide +kernel
theorem dX12_isBetter_49 : decode cX12_isBetter 49 = .ok (.isub, 1) := by decide +kernel
theorem dX12_isBetter_50 : decode cX12_isBetter 50 = .ok (.goto 22, 3) := by decide +kernel
theorem dX12_isBetter_53 : decode cX12_isBetter 53 = .ok (.aload_n 1, 1) := by decide +kernel
theorem dX12_isBetter_54 : decode cX12_isBetter 54 = .ok (.bipush 11, 2) := by decide +kernel
theorem dX12_isBetter_56 : decode cX12_isBetter 56 = .ok (.iload_n 2, 1) := by decide +kernel
theorem dX12_isBetter_57 : decode cX12_isBetter 57 = .ok (.imul, 1) := by decide +kernel
theorem dX12_isBetter_58 : decode cX12_isBetter 58 = .ok (.bipush 10, 2) := by decide +kernel
theorem dX12_isBetter_60 : decode cX12_isBetter 60 = .ok (.iadd, 1) := by decide +kernel
theorem dX12_isBetter_61 : decode cX12_isBetter 61 = .ok (.iaload, 1) := by decide +kernel
theorem dX12_isBetter_62 : decode cX12_isBetter 62 = .ok (.aload_n 1, 1) := by decide +kernel
theorem dX12_isBetter_63 : decode cX12_isBetter 63 = .ok (.bipush 11, 2) := by decide +kernel
theorem dX12_isBetter_65 : decode cX12_isBetter 65 = .ok (.iload_n 3, 1) := by decide +kernel
theorem dX12_isBetter_66 : decode cX12_isBetter 66 = .ok (.imul, 1) := by decide +kernel
theorem dX12_isBetter_67 : decode cX12_isBetter 67 = .ok (.bipush 10, 2) := by decide +kernel
theorem dX12_isBetter_69 : decode cX12_isBetter 69 = .ok (.iadd, 1) := by decide +kernel
theorem dX12_isBetter_70 : decode cX12_isBetter 70 = .ok (.iaload, 1) := by decide +kernel
theorem dX12_isBetter_71 : decode cX12_isBetter 71 = .ok (.isub, 1) := by decide +kernel
theorem dX12_isBetter_72 : decode cX12_isBetter 72 = .ok (.istore 4, 2) := by decide +kernel
theorem dX12_isBetter_74 : decode cX12_isBetter 74 = .ok (.iload 4, 2) := by decide +kernel
theorem dX12_isBetter_76 : decode cX12_isBetter 76 = .ok (.ifCond .lt 13, 3) := by decide +kernel
theorem dX12_isBetter_79 : decode cX12_isBetter 79 = .ok (.iload 4, 2) := by decide +kernel
theorem dX12_isBetter_81 : decode cX12_isBetter 81 = .ok (.ifCond .ne 12, 3) := by decide +kernel
theorem dX12_isBetter_84 : decode cX12_isBetter 84 = .ok (.iload_n 2, 1) := by decide +kernel
theorem dX12_isBetter_85 : decode cX12_isBetter 85 = .ok (.iload_n 3, 1) := by decide +kernel
theorem dX12_isBetter_86 : decode cX12_isBetter 86 = .ok (.if_icmp .ge 7, 3) := by decide +kernel
theorem dX12_isBetter_89 : decode cX12_isBetter 89 = .ok (.iconst 1, 1) := by decide +kernel
theorem dX12_isBetter_90 : decode cX12_isBetter 90 = .ok (.goto 4, 3) := by decide +kernel
theorem dX12_isBetter_93 : decode cX12_isBetter 93 = .ok (.iconst 0, 1) := by decide +kernel
theorem dX12_isBetter_94 : decode cX12_isBetter 94 = .ok (.ireturn, 1) := by decide +kernel
theorem dX12_placeOf__0 : decode cX12_placeOf_ 0 = .ok (.aload_n 1, 1) := by decide +kernel
theorem dX12_placeOf__1 : decode cX12_placeOf_ 1 = .ok (.iload_n 2, 1) := by decide +kernel
theorem dX12_placeOf__2 : decode cX12_placeOf_ 2 = .ok (.invokestatic 346, 3) := by decide +kernel
theorem dX12_placeOf__5 : decode cX12_placeOf_ 5 = .ok (.ifCond .ne 5, 3) := by decide +kernel
theorem dX12_placeOf__8 : decode cX12_placeOf_ 8 = .ok (.iconst 0, 1) := by decide +kernel
theorem dX12_placeOf__9 : decode cX12_placeOf_ 9 = .ok (.ireturn, 1) := by decide +kernel
theorem dX12_placeOf__10 : decode cX12_placeOf_ 10 = .ok (.iconst 1, 1) := by decide +kernel
theorem dX12_placeOf__11 : decode cX12_placeOf_ 11 = .ok (.istore_n 3, 1) := by decide +kernel
theorem dX12_placeOf__12 : decode cX12_placeOf_ 12 = .ok (.iconst 0, 1) := by decide +kernel
theorem dX12_placeOf__13 : decode cX12_placeOf_ 13 = .ok (.istore 4, 2) := by decide +kernel
theorem dX12_placeOf__15 : decode cX12_placeOf_ 15 = .ok (.iload 4, 2) := by decide +kernel
theorem dX12_placeOf__17 : decode cX12_placeOf_ 17 = .ok (.aload_n 0, 1) := by decide +kernel
theorem dX12_placeOf__18 : decode cX12_placeOf_ 18 = .ok (.getfield 278, 3) := by decide +kernel
theorem dX12_placeOf__21 : decode cX12_placeOf_ 21 = .ok (.if_icmp .ge 43, 3) := by decide +kernel
theorem dX12_placeOf__24 : decode cX12_placeOf_ 24 = .ok (.iload_n 3, 1) := by decide +kernel
theorem dX12_placeOf__25 : decode cX12_placeOf_ 25 = .ok (.iload 4, 2) := by decide +kernel
theorem dX12_placeOf__27 : decode cX12_placeOf_ 27 = .ok (.iload_n 2, 1) := by decide +kernel
theorem dX12_placeOf__28 : decode cX12_placeOf_ 28 = .ok (.if_icmp .eq 27, 3) := by decide +kernel
theorem dX12_placeOf__31 : decode cX12_placeOf_ 31 = .ok (.aload_n 1, 1) := by decide +kernel
theorem dX12_placeOf__32 : decode cX12_placeOf_ 32 = .ok (.iload 4, 2) := by decide +kernel
theorem dX12_placeOf__34 : decode cX12_placeOf_ 34 = .ok (.invokestatic 346, 3) := by decide +kernel
theorem dX12_placeOf__37 : decode cX12_placeOf_ 37 = .ok (.ifCond .le 18, 3) := by decide +kernel
theorem dX12_placeOf__40 : decode cX12_placeOf_ 40 = .ok (.aload_n 0, 1) := by decide +kernel
theorem dX12_placeOf__41 : decode cX12_placeOf_ 41 = .ok (.aload_n 1, 1) := by decide +kernel
theorem dX12_placeOf__42 : decode cX12_placeOf_ 42 = .ok (.iload 4, 2) := by decide +kernel
theorem dX12_placeOf__44 : decode cX12_placeOf_ 44 = .ok (.iload_n 2, 1) := by decide +kernel
theorem dX12_placeOf__45 : decode cX12_placeOf_ 45 = .ok (.invokevirtual 349, 3) := by decide +kernel
theorem dX12_placeOf__48 : decode cX12_placeOf_ 48 = .ok (.ifCond .eq 7, 3) := by decide +kernel
theorem dX12_placeOf__51 : decode cX12_placeOf_ 51 = .ok (.iconst 1, 1) := by decide +kernel
theorem dX12_placeOf__52 : decode cX12_placeOf_ 52 = .ok (.goto 4, 3) := by decide +kernel
theorem dX12_placeOf__55 : decode cX12_placeOf_ 55 = .ok (.iconst 0, 1) := by decide +kernel
theorem dX12_placeOf__56 : decode cX12_placeOf_ 56 = .ok (.iadd, 1) := by decide +kernel
theorem dX12_placeOf__57 : decode cX12_placeOf_ 57 = .ok (.istore_n 3, 1) := by decide +kernel
theorem dX12_placeOf__58 : decode cX12_placeOf_ 58 = .ok (.iinc 4 1, 3) := by decide +kernel
theorem dX12_placeOf__61 : decode cX12_placeOf_ 61 = .ok (.goto (-46), 3) := by decide +kernel
theorem dX12_placeOf__64 : decode cX12_placeOf_ 64 = .ok (.iload_n 3, 1) := by decide +kernel
theorem dX12_placeOf__65 : decode cX12_placeOf_ 65 = .ok (.ireturn, 1) := by decide +kernel
theorem dX12_valueOf_0 : decode cX12_valueOf 0 = .ok (.aload_n 0, 1) := by decide +kernel
theorem dX12_valueOf_1 : decode cX12_valueOf 1 = .ok (.aload_n 1, 1) := by decide +kernel
theorem dX12_valueOf_2 : decode cX12_valueOf 2 = .ok (.iload_n 2, 1) := by decide +kernel
theorem dX12_valueOf_3 : decode cX12_valueOf 3 = .ok (.invokevirtual 352, 3) := by decide +kernel
theorem dX12_valueOf_6 : decode cX12_valueOf 6 = .ok (.istore_n 3, 1) := by decide +kernel
theorem dX12_valueOf_7 : decode cX12_valueOf 7 = .ok (.aload_n 0, 1) := by decide +kernel
theorem dX12_valueOf_8 : decode cX12_valueOf 8 = .ok (.getfield 59, 3) := by decide +kernel
theorem dX12_valueOf_11 : decode cX12_valueOf 11 = .ok (.iconst (-1), 1) := by decide +kernel
theorem dX12_valueOf_12 : decode cX12_valueOf 12 = .ok (.if_icmp .ne 20, 3) := by decide +kernel
theorem dX12_valueOf_15 : decode cX12_valueOf 15 = .ok (.iload_n 3, 1) := by decide +kernel
theorem dX12_valueOf_16 : decode cX12_valueOf 16 = .ok (.ifCond .le 14, 3) := by decide +kernel
theorem dX12_valueOf_19 : decode cX12_valueOf 19 = .ok (.iload_n 3, 1) := by decide +kernel
theorem dX12_valueOf_20 : decode cX12_valueOf 20 = .ok (.iconst 4, 1) := by decide +kernel
theorem dX12_valueOf_21 : decode cX12_valueOf 21 = .ok (.if_icmp .ge 9, 3) := by decide +kernel
theorem dX12_valueOf_24 : decode cX12_valueOf 24 = .ok (.iconst 4, 1) := by decide +kernel
theorem dX12_valueOf_25 : decode cX12_valueOf 25 = .ok (.iload_n 3, 1) := by decide +kernel
theorem dX12_valueOf_26 : decode cX12_valueOf 26 = .ok (.isub, 1) := by decide +kernel
theorem dX12_valueOf_27 : decode cX12_valueOf 27 = .ok (.goto 4, 3) := by decide +kernel
theorem dX12_valueOf_30 : decode cX12_valueOf 30 = .ok (.iconst 0, 1) := by decide +kernel
theorem dX12_valueOf_31 : decode cX12_valueOf 31 = .ok (.ireturn, 1) := by decide +kernel
theorem dX12_valueOf_32 : decode cX12_valueOf 32 = .ok (.iconst 0, 1) := by decide +kernel
theorem dX12_valueOf_33 : decode cX12_valueOf 33 = .ok (.istore 4, 2) := by decide +kernel
theorem dX12_valueOf_35 : decode cX12_valueOf 35 = .ok (.iload 4, 2) := by decide +kernel
theorem dX12_valueOf_37 : decode cX12_valueOf 37 = .ok (.ldc 32, 2) := by decide +kernel
theorem dX12_valueOf_39 : decode cX12_valueOf 39 = .ok (.invokevirtual 106, 3) := by decide +kernel
theorem dX12_valueOf_42 : decode cX12_valueOf 42 = .ok (.if_icmp .ge 22, 3) := by decide +kernel
theorem dX12_valueOf_45 : decode cX12_valueOf 45 = .ok (.aload_n 0, 1) := by decide +kernel
theorem dX12_valueOf_46 : decode cX12_valueOf 46 = .ok (.getfield 20, 3) := by decide +kernel
theorem dX12_valueOf_49 : decode cX12_valueOf 49 = .ok (.ldc 32, 2) := by decide +kernel
theorem dX12_valueOf_51 : decode cX12_valueOf 51 = .ok (.iload 4, 2) := by decide +kernel
theorem dX12_valueOf_53 : decode cX12_valueOf 53 = .ok (.invokevirtual 112, 3) := by decide +kernel
theorem dX12_valueOf_56 : decode cX12_valueOf 56 = .ok (.iconst 0, 1) := by decide +kernel
theorem dX12_valueOf_57 : decode cX12_valueOf 57 = .ok (.iastore, 1) := by decide +kernel
theorem dX12_valueOf_58 : decode cX12_valueOf 58 = .ok (.iinc 4 1, 3) := by decide +kernel
theorem dX12_valueOf_61 : decode cX12_valueOf 61 = .ok (.goto (-26), 3) := by decide +kernel
theorem dX12_valueOf_64 : decode cX12_valueOf 64 = .ok (.aload_n 0, 1) := by decide +kernel
theorem dX12_valueOf_65 : decode cX12_valueOf 65 = .ok (.getfield 20, 3) := by decide +kernel
theorem dX12_valueOf_68 : decode cX12_valueOf 68 = .ok (.bipush 114, 2) := by decide +kernel
theorem dX12_valueOf_70 : decode cX12_valueOf 70 = .ok (.iload_n 3, 1) := by decide +kernel
theorem dX12_valueOf_71 : decode cX12_valueOf 71 = .ok (.iastore, 1) := by decide +kernel
theorem dX12_valueOf_72 : decode cX12_valueOf 72 = .ok (.aload_n 0, 1) := by decide +kernel
theorem dX12_valueOf_73 : decode cX12_valueOf 73 = .ok (.getfield 20, 3) := by decide +kernel
theorem dX12_valueOf_76 : decode cX12_valueOf 76 = .ok (.bipush 107, 2) := by decide +kernel
theorem dX12_valueOf_78 : decode cX12_valueOf 78 = .ok (.aload_n 1, 1) := by decide +kernel
theorem dX12_valueOf_79 : decode cX12_valueOf 79 = .ok (.iload_n 2, 1) := by decide +kernel
theorem dX12_valueOf_80 : decode cX12_valueOf 80 = .ok (.invokestatic 346, 3) := by decide +kernel
theorem dX12_valueOf_83 : decode cX12_valueOf 83 = .ok (.iastore, 1) := by decide +kernel
theorem dX12_valueOf_84 : decode cX12_valueOf 84 = .ok (.aload_n 0, 1) := by decide +kernel
theorem dX12_valueOf_85 : decode cX12_valueOf 85 = .ok (.getfield 20, 3) := by decide +kernel
theorem dX12_valueOf_88 : decode cX12_valueOf 88 = .ok (.bipush 98, 2) := by decide +kernel
theorem dX12_valueOf_90 : decode cX12_valueOf 90 = .ok (.aload_n 0, 1) := by decide +kernel
theorem dX12_valueOf_91 : decode cX12_valueOf 91 = .ok (.getfield 37, 3) := by decide +kernel
theorem dX12_valueOf_94 : decode cX12_valueOf 94 = .ok (.bipush 10, 2) := by decide +kernel
theorem dX12_valueOf_96 : decode cX12_valueOf 96 = .ok (.iload_n 2, 1) := by decide +kernel
theorem dX12_valueOf_97 : decode cX12_valueOf 97 = .ok (.imul, 1) := by decide +kernel
theorem dX12_valueOf_98 : decode cX12_valueOf 98 = .ok (.iconst 2, 1) := by decide +kernel
theorem dX12_valueOf_99 : decode cX12_valueOf 99 = .ok (.iadd, 1) := by decide +kernel
theorem dX12_valueOf_100 : decode cX12_valueOf 100 = .ok (.iaload, 1) := by decide +kernel
theorem dX12_valueOf_101 : decode cX12_valueOf 101 = .ok (.iastore, 1) := by decide +kernel
theorem dX12_valueOf_102 : decode cX12_valueOf 102 = .ok (.aload_n 0, 1) := by decide +kernel
theorem dX12_valueOf_103 : decode cX12_valueOf 103 = .ok (.aload_n 0, 1) := by decide +kernel
theorem dX12_valueOf_104 : decode cX12_valueOf 104 = .ok (.getfield 13, 3) := by decide +kernel
theorem dX12_valueOf_107 : decode cX12_valueOf 107 = .ok (.sipush 240, 3) := by decide +kernel
theorem dX12_valueOf_110 : decode cX12_valueOf 110 = .ok (.aload_n 0, 1) := by decide +kernel
theorem dX12_valueOf_111 : decode cX12_valueOf 111 = .ok (.getfield 59, 3) := by decide +kernel
theorem dX12_valueOf_114 : decode cX12_valueOf 114 = .ok (.imul, 1) := by decide +kernel
theorem dX12_valueOf_115 : decode cX12_valueOf 115 = .ok (.aload_n 0, 1) := by decide +kernel
theorem dX12_valueOf_116 : decode cX12_valueOf 116 = .ok (.getfield 16, 3) := by decide +kernel
theorem dX12_valueOf_119 : decode cX12_valueOf 119 = .ok (.aload_n 0, 1) := by decide +kernel
theorem dX12_valueOf_120 : decode cX12_valueOf 120 = .ok (.getfield 59, 3) := by decide +kernel
theorem dX12_valueOf_123 : decode cX12_valueOf 123 = .ok (.iaload, 1) := by decide +kernel
theorem dX12_valueOf_124 : decode cX12_valueOf 124 = .ok (.invokevirtual 270, 3) := by decide +kernel
theorem dX12_valueOf_127 : decode cX12_valueOf 127 = .ok (.aload_n 0, 1) := by decide +kernel
theorem dX12_valueOf_128 : decode cX12_valueOf 128 = .ok (.getfield 211, 3) := by decide +kernel
theorem dX12_valueOf_131 : decode cX12_valueOf 131 = .ok (.ireturn, 1) := by decide +kernel
theorem dX12_lifter_0 : decode cX12_lifter 0 = .ok (.aload_n 0, 1) := by decide +kernel
theorem dX12_lifter_1 : decode cX12_lifter 1 = .ok (.aload_n 0, 1) := by decide +kernel
theorem dX12_lifter_2 : decode cX12_lifter 2 = .ok (.iload_n 1, 1) := by decide +kernel
theorem dX12_lifter_3 : decode cX12_lifter 3 = .ok (.invokevirtual 354, 3) := by decide +kernel
theorem dX12_lifter_6 : decode cX12_lifter 6 = .ok (.ifCond .eq 19, 3) := by decide +kernel
theorem dX12_lifter_9 : decode cX12_lifter 9 = .ok (.iload_n 2, 1) := by decide +kernel
theorem dX12_lifter_10 : decode cX12_lifter 10 = .ok (.i2l, 1) := by decide +kernel
theorem dX12_lifter_11 : decode cX12_lifter 11 = .ok (.lconst 0, 1) := by decide +kernel
theorem dX12_lifter_12 : decode cX12_lifter 12 = .ok (.ldc2_w 357, 3) := by decide +kernel
theorem dX12_lifter_15 : decode cX12_lifter 15 = .ok (.invokestatic 224, 3) := by decide +kernel
theorem dX12_lifter_18 : decode cX12_lifter 18 = .ok (.ifCond .eq 7, 3) := by decide +kernel
theorem dX12_lifter_21 : decode cX12_lifter 21 = .ok (.iconst 0, 1) := by decide +kernel
theorem dX12_lifter_22 : decode cX12_lifter 22 = .ok (.goto 4, 3) := by decide +kernel
theorem dX12_lifter_25 : decode cX12_lifter 25 = .ok (.iconst 1, 1) := by decide +kernel
theorem dX12_lifter_26 : decode cX12_lifter 26 = .ok (.putfield 103, 3) := by decide +kernel
theorem dX12_lifter_29 : decode cX12_lifter 29 = .ok (.aload_n 0, 1) := by decide +kernel
theorem dX12_lifter_30 : decode cX12_lifter 30 = .ok (.getfield 103, 3) := by decide +kernel
theorem dX12_lifter_33 : decode cX12_lifter 33 = .ok (.ifCond .le 5, 3) := by decide +kernel
theorem dX12_lifter_36 : decode cX12_lifter 36 = .ok (.iconst 0, 1) := by decide +kernel
theorem dX12_lifter_37 : decode cX12_lifter 37 = .ok (.ireturn, 1) := by decide +kernel
theorem dX12_lifter_38 : decode cX12_lifter 38 = .ok (.bipush 11, 2) := by decide +kernel
theorem dX12_lifter_40 : decode cX12_lifter 40 = .ok (.iload_n 1, 1) := by decide +kernel
theorem dX12_lifter_41 : decode cX12_lifter 41 = .ok (.imul, 1) := by decide +kernel
theorem dX12_lifter_42 : decode cX12_lifter 42 = .ok (.istore_n 3, 1) := by decide +kernel
theorem dX12_lifter_43 : decode cX12_lifter 43 = .ok (.iload_n 2, 1) := by decide +kernel
theorem dX12_lifter_44 : decode cX12_lifter 44 = .ok (.tableswitch 223 0 15 #[80, 80, 80, 80, 94, 104, 117, 142, 151, 151, 165, 174, 184, 194, 204, 214], 80) := by decide +kernel
theorem dX12_lifter_124 : decode cX12_lifter 124 = .ok (.aload_n 0, 1) := by decide +kernel
theorem dX12_lifter_125 : decode cX12_lifter 125 = .ok (.getfield 37, 3) := by decide +kernel
theorem dX12_lifter_128 : decode cX12_lifter 128 = .ok (.bipush 10, 2) := by decide +kernel
theorem dX12_lifter_130 : decode cX12_lifter 130 = .ok (.iload_n 1, 1) := by decide +kernel
theorem dX12_lifter_131 : decode cX12_lifter 131 = .ok (.imul, 1) := by decide +kernel
theorem dX12_lifter_132 : decode cX12_lifter 132 = .ok (.iconst 2, 1) := by decide +kernel
theorem dX12_lifter_133 : decode cX12_lifter 133 = .ok (.iadd, 1) := by decide +kernel
theorem dX12_lifter_134 : decode cX12_lifter 134 = .ok (.iload_n 2, 1) := by decide +kernel
theorem dX12_lifter_135 : decode cX12_lifter 135 = .ok (.iadd, 1) := by decide +kernel
theorem dX12_lifter_136 : decode cX12_lifter 136 = .ok (.iaload, 1) := by decide +kernel
theorem dX12_lifter_137 : decode cX12_lifter 137 = .ok (.ireturn, 1) := by decide +kernel
theorem dX12_lifter_138 : decode cX12_lifter 138 = .ok (.aload_n 0, 1) := by decide +kernel
theorem dX12_lifter_139 : decode cX12_lifter 139 = .ok (.getfield 49, 3) := by decide +kernel
theorem dX12_lifter_142 : decode cX12_lifter 142 = .ok (.iload_n 3, 1) := by decide +kernel
theorem dX12_lifter_143 : decode cX12_lifter 143 = .ok (.bipush 7, 2) := by decide +kernel
theorem dX12_lifter_145 : decode cX12_lifter 145 = .ok (.iadd, 1) := by decide +kernel
theorem dX12_lifter_146 : decode cX12_lifter 146 = .ok (.iaload, 1) := by decide +kernel
theorem dX12_lifter_147 : decode cX12_lifter 147 = .ok (.ireturn, 1) := by decide +kernel
theorem dX12_lifter_148 : decode cX12_lifter 148 = .ok (.aload_n 0, 1) := by decide +kernel
theorem dX12_lifter_149 : decode cX12_lifter 149 = .ok (.getfield 37, 3) := by decide +kernel
theorem dX12_lifter_152 : decode cX12_lifter 152 = .ok (.bipush 10, 2) := by decide +kernel
theorem dX12_lifter_154 : decode cX12_lifter 154 = .ok (.iload_n 1, 1) := by decide +kernel
theorem dX12_lifter_155 : decode cX12_lifter 155 = .ok (.imul, 1) := by decide +kernel
theorem dX12_lifter_156 : decode cX12_lifter 156 = .ok (.bipush 9, 2) := by decide +kernel
theorem dX12_lifter_158 : decode cX12_lifter 158 = .ok (.iadd, 1) := by decide +kernel
theorem dX12_lifter_159 : decode cX12_lifter 159 = .ok (.iaload, 1) := by decide +kernel
theorem dX12_lifter_160 : decode cX12_lifter 160 = .ok (.ireturn, 1) := by decide +kernel
theorem dX12_lifter_161 : decode cX12_lifter 161 = .ok (.aload_n 0, 1) := by decide +kernel
theorem dX12_lifter_162 : decode cX12_lifter 162 = .ok (.aload_n 0, 1) := by decide +kernel
theorem dX12_lifter_163 : decode cX12_lifter 163 = .ok (.getfield 49, 3) := by decide +kernel
theorem dX12_lifter_166 : decode cX12_lifter 166 = .ok (.iload_n 1, 1) := by decide +kernel
theorem dX12_lifter_167 : decode cX12_lifter 167 = .ok (.invokevirtual 287, 3) := by decide +kernel
theorem dX12_lifter_170 : decode cX12_lifter 170 = .ok (.ifCond .eq 14, 3) := by decide +kernel
theorem dX12_lifter_173 : decode cX12_lifter 173 = .ok (.aload_n 0, 1) := by decide +kernel
theorem dX12_lifter_174 : decode cX12_lifter 174 = .ok (.getfield 49, 3) := by decide +kernel
theorem dX12_lifter_177 : decode cX12_lifter 177 = .ok (.iload_n 3, 1) := by decide +kernel
theorem dX12_lifter_178 : decode cX12_lifter 178 = .ok (.iconst 0, 1) := by decide +kernel
theorem dX12_lifter_179 : decode cX12_lifter 179 = .ok (.iadd, 1) := by decide +kernel
theorem dX12_lifter_180 : decode cX12_lifter 180 = .ok (.iaload, 1) := by decide +kernel
theorem dX12_lifter_181 : decode cX12_lifter 181 = .ok (.goto 4, 3) := by decide +kernel
theorem dX12_lifter_184 : decode cX12_lifter 184 = .ok (.iconst 0, 1) := by decide +kernel
theorem dX12_lifter_185 : decode cX12_lifter 185 = .ok (.ireturn, 1) := by decide +kernel
theorem dX12_lifter_186 : decode cX12_lifter 186 = .ok (.aload_n 0, 1) := by decide +kernel
theorem dX12_lifter_187 : decode cX12_lifter 187 = .ok (.getfield 49, 3) := by decide +kernel
theorem dX12_lifter_190 : decode cX12_lifter 190 = .ok (.iload_n 3, 1) := by decide +kernel
theorem dX12_lifter_191 : decode cX12_lifter 191 = .ok (.iconst 1, 1) := by decide +kernel
theorem dX12_lifter_192 : decode cX12_lifter 192 = .ok (.iadd, 1) := by decide +kernel
theorem dX12_lifter_193 : decode cX12_lifter 193 = .ok (.iaload, 1) := by decide +kernel
theorem dX12_lifter_194 : decode cX12_lifter 194 = .ok (.ireturn, 1) := by decide +kernel
theorem dX12_lifter_195 : decode cX12_lifter 195 = .ok (.aload_n 0, 1) := by decide +kernel
theorem dX12_lifter_196 : decode cX12_lifter 196 = .ok (.getfield 49, 3) := by decide +kernel
theorem dX12_lifter_199 : decode cX12_lifter 199 = .ok (.iload_n 3, 1) := by decide +kernel
theorem dX12_lifter_200 : decode cX12_lifter 200 = .ok (.iconst 2, 1) := by decide +kernel
theorem dX12_lifter_201 : decode cX12_lifter 201 = .ok (.iadd, 1) := by decide +kernel
theorem dX12_lifter_202 : decode cX12_lifter 202 = .ok (.iload_n 2, 1) := by decide +kernel
theorem dX12_lifter_203 : decode cX12_lifter 203 = .ok (.iadd, 1) := by decide +kernel
theorem dX12_lifter_204 : decode cX12_lifter 204 = .ok (.bipush 8, 2) := by decide +kernel
theorem dX12_lifter_206 : decode cX12_lifter 206 = .ok (.isub, 1) := by decide +kernel
theorem dX12_lifter_207 : decode cX12_lifter 207 = .ok (.iaload, 1) := by decide +kernel
theorem dX12_lifter_208 : decode cX12_lifter 208 = .ok (.ireturn, 1) := by decide +kernel
theorem dX12_lifter_209 : decode cX12_lifter 209 = .ok (.aload_n 0, 1) := by decide +kernel
theorem dX12_lifter_210 : decode cX12_lifter 210 = .ok (.getfield 49, 3) := by decide +kernel
theorem dX12_lifter_213 : decode cX12_lifter 213 = .ok (.iload_n 1, 1) := by decide +kernel
theorem dX12_lifter_214 : decode cX12_lifter 214 = .ok (.invokestatic 346, 3) := by decide +kernel
theorem dX12_lifter_217 : decode cX12_lifter 217 = .ok (.ireturn, 1) := by decide +kernel
theorem dX12_lifter_218 : decode cX12_lifter 218 = .ok (.aload_n 0, 1) := by decide +kernel
theorem dX12_lifter_219 : decode cX12_lifter 219 = .ok (.aload_n 0, 1) := by decide +kernel
theorem dX12_lifter_220 : decode cX12_lifter 220 = .ok (.getfield 49, 3) := by decide +kernel
theorem dX12_lifter_223 : decode cX12_lifter 223 = .ok (.iload_n 1, 1) := by decide +kernel
theorem dX12_lifter_224 : decode cX12_lifter 224 = .ok (.invokevirtual 352, 3) := by decide +kernel
theorem dX12_lifter_227 : decode cX12_lifter 227 = .ok (.ireturn, 1) := by decide +kernel
theorem dX12_lifter_228 : decode cX12_lifter 228 = .ok (.aload_n 0, 1) := by decide +kernel
theorem dX12_lifter_229 : decode cX12_lifter 229 = .ok (.getfield 49, 3) := by decide +kernel
theorem dX12_lifter_232 : decode cX12_lifter 232 = .ok (.iload_n 3, 1) := by decide +kernel
theorem dX12_lifter_233 : decode cX12_lifter 233 = .ok (.bipush 9, 2) := by decide +kernel
theorem dX12_lifter_235 : decode cX12_lifter 235 = .ok (.iadd, 1) := by decide +kernel
theorem dX12_lifter_236 : decode cX12_lifter 236 = .ok (.iaload, 1) := by decide +kernel
theorem dX12_lifter_237 : decode cX12_lifter 237 = .ok (.ireturn, 1) := by decide +kernel
theorem dX12_lifter_238 : decode cX12_lifter 238 = .ok (.aload_n 0, 1) := by decide +kernel
theorem dX12_lifter_239 : decode cX12_lifter 239 = .ok (.aload_n 0, 1) := by decide +kernel
theorem dX12_lifter_240 : decode cX12_lifter 240 = .ok (.getfield 49, 3) := by decide +kernel
theorem dX12_lifter_243 : decode cX12_lifter 243 = .ok (.iload_n 1, 1) := by decide +kernel
theorem dX12_lifter_244 : decode cX12_lifter 244 = .ok (.invokevirtual 319, 3) := by decide +kernel
theorem dX12_lifter_247 : decode cX12_lifter 247 = .ok (.ireturn, 1) := by decide +kernel
theorem dX12_lifter_248 : decode cX12_lifter 248 = .ok (.aload_n 0, 1) := by decide +kernel
theorem dX12_lifter_249 : decode cX12_lifter 249 = .ok (.aload_n 0, 1) := by decide +kernel
theorem dX12_lifter_250 : decode cX12_lifter 250 = .ok (.getfield 49, 3) := by decide +kernel
theorem dX12_lifter_253 : decode cX12_lifter 253 = .ok (.iload_n 1, 1) := by decide +kernel
theorem dX12_lifter_254 : decode cX12_lifter 254 = .ok (.invokevirtual 340, 3) := by decide +kernel
theorem dX12_lifter_257 : decode cX12_lifter 257 = .ok (.ireturn, 1) := by decide +kernel
theorem dX12_lifter_258 : decode cX12_lifter 258 = .ok (.aload_n 0, 1) := by decide +kernel
theorem dX12_lifter_259 : decode cX12_lifter 259 = .ok (.getfield 49, 3) := by decide +kernel
theorem dX12_lifter_262 : decode cX12_lifter 262 = .ok (.iload_n 3, 1) := by decide +kernel
theorem dX12_lifter_263 : decode cX12_lifter 263 = .ok (.iconst 5, 1) := by decide +kernel
theorem dX12_lifter_264 : decode cX12_lifter 264 = .ok (.iadd, 1) := by decide +kernel
theorem dX12_lifter_265 : decode cX12_lifter 265 = .ok (.iaload, 1) := by decide +kernel
theorem dX12_lifter_266 : decode cX12_lifter 266 = .ok (.ireturn, 1) := by decide +kernel
theorem dX12_lifter_267 : decode cX12_lifter 267 = .ok (.aload_n 0, 1) := by decide +kernel
theorem dX12_lifter_268 : decode cX12_lifter 268 = .ok (.getfield 49, 3) := by decide +kernel
theorem dX12_lifter_271 : decode cX12_lifter 271 = .ok (.iload_n 3, 1) := by decide +kernel
theorem dX12_lifter_272 : decode cX12_lifter 272 = .ok (.iconst 4, 1) := by decide +kernel
theorem dX12_lifter_273 : decode cX12_lifter 273 = .ok (.iadd, 1) := by decide +kernel
theorem dX12_lifter_274 : decode cX12_lifter 274 = .ok (.iaload, 1) := by decide +kernel
theorem dX12_lifter_275 : decode cX12_lifter 275 = .ok (.ireturn, 1) := by decide +kernel
theorem dX12_rule_0 : decode cX12_rule 0 = .ok (.aload_n 0, 1) := by decide +kernel
theorem dX12_rule_1 : decode cX12_rule 1 = .ok (.iconst 0, 1) := by decide +kernel
theorem dX12_rule_2 : decode cX12_rule 2 = .ok (.putfield 103, 3) := by decide +kernel
theorem dX12_rule_5 : decode cX12_rule 5 = .ok (.aload_n 0, 1) := by decide +kernel
theorem dX12_rule_6 : decode cX12_rule 6 = .ok (.getfield 278, 3) := by decide +kernel
theorem dX12_rule_9 : decode cX12_rule 9 = .ok (.ifCond .le 24, 3) := by decide +kernel
theorem dX12_rule_12 : decode cX12_rule 12 = .ok (.iload_n 1, 1) := by decide +kernel
theorem dX12_rule_13 : decode cX12_rule 13 = .ok (.i2l, 1) := by decide +kernel
theorem dX12_rule_14 : decode cX12_rule 14 = .ok (.lconst 0, 1) := by decide +kernel
theorem dX12_rule_15 : decode cX12_rule 15 = .ok (.ldc2_w 359, 3) := by decide +kernel
theorem dX12_rule_18 : decode cX12_rule 18 = .ok (.invokestatic 224, 3) := by decide +kernel
theorem dX12_rule_21 : decode cX12_rule 21 = .ok (.ifCond .eq 12, 3) := by decide +kernel
theorem dX12_rule_24 : decode cX12_rule 24 = .ok (.aload_n 0, 1) := by decide +kernel
theorem dX12_rule_25 : decode cX12_rule 25 = .ok (.getfield 43, 3) := by decide +kernel
theorem dX12_rule_28 : decode cX12_rule 28 = .ok (.iload_n 1, 1) := by decide +kernel
theorem dX12_rule_29 : decode cX12_rule 29 = .ok (.iaload, 1) := by decide +kernel
theorem dX12_rule_30 : decode cX12_rule 30 = .ok (.goto 4, 3) := by decide +kernel
theorem dX12_rule_33 : decode cX12_rule 33 = .ok (.iconst (-1), 1) := by decide +kernel
theorem dX12_rule_34 : decode cX12_rule 34 = .ok (.ireturn, 1) := by decide +kernel
theorem dX12_law_0 : decode cX12_law 0 = .ok (.aload_n 0, 1) := by decide +kernel
theorem dX12_law_1 : decode cX12_law 1 = .ok (.iconst 0, 1) := by decide +kernel
theorem dX12_law_2 : decode cX12_law 2 = .ok (.putfield 103, 3) := by decide +kernel
theorem dX12_law_5 : decode cX12_law 5 = .ok (.iload_n 1, 1) := by decide +kernel
theorem dX12_law_6 : decode cX12_law 6 = .ok (.i2l, 1) := by decide +kernel
theorem dX12_law_7 : decode cX12_law 7 = .ok (.lconst 0, 1) := by decide +kernel
theorem dX12_law_8 : decode cX12_law 8 = .ok (.lconst 1, 1) := by decide +kernel
theorem dX12_law_9 : decode cX12_law 9 = .ok (.invokestatic 224, 3) := by decide +kernel
theorem dX12_law_12 : decode cX12_law 12 = .ok (.ifCond .eq 24, 3) := by decide +kernel
theorem dX12_law_15 : decode cX12_law 15 = .ok (.iload_n 2, 1) := by decide +kernel
theorem dX12_law_16 : decode cX12_law 16 = .ok (.iconst (-1), 1) := by decide +kernel
theorem dX12_law_17 : decode cX12_law 17 = .ok (.if_icmp .eq 21, 3) := by decide +kernel
theorem dX12_law_20 : decode cX12_law 20 = .ok (.iload_n 2, 1) := by decide +kernel
theorem dX12_law_21 : decode cX12_law 21 = .ok (.i2l, 1) := by decide +kernel
theorem dX12_law_22 : decode cX12_law 22 = .ok (.lconst 0, 1) := by decide +kernel
theorem dX12_law_23 : decode cX12_law 23 = .ok (.aload_n 0, 1) := by decide +kernel
theorem dX12_law_24 : decode cX12_law 24 = .ok (.getfield 273, 3) := by decide +kernel
theorem dX12_law_27 : decode cX12_law 27 = .ok (.iconst 1, 1) := by decide +kernel
theorem dX12_law_28 : decode cX12_law 28 = .ok (.isub, 1) := by decide +kernel
theorem dX12_law_29 : decode cX12_law 29 = .ok (.i2l, 1) := by decide +kernel
theorem dX12_law_30 : decode cX12_law 30 = .ok (.invokestatic 224, 3) := by decide +kernel
theorem dX12_law_33 : decode cX12_law 33 = .ok (.ifCond .ne 5, 3) := by decide +kernel
theorem dX12_law_36 : decode cX12_law 36 = .ok (.iconst 0, 1) := by decide +kernel
theorem dX12_law_37 : decode cX12_law 37 = .ok (.ireturn, 1) := by decide +kernel
theorem dX12_law_38 : decode cX12_law 38 = .ok (.iload_n 1, 1) := by decide +kernel
theorem dX12_law_39 : decode cX12_law 39 = .ok (.ifCond .ne 11, 3) := by decide +kernel
theorem dX12_law_42 : decode cX12_law 42 = .ok (.aload_n 0, 1) := by decide +kernel
theorem dX12_law_43 : decode cX12_law 43 = .ok (.iload_n 2, 1) := by decide +kernel
theorem dX12_law_44 : decode cX12_law 44 = .ok (.putfield 55, 3) := by decide +kernel
theorem dX12_law_47 : decode cX12_law 47 = .ok (.goto 8, 3) := by decide +kernel
theorem dX12_law_50 : decode cX12_law 50 = .ok (.aload_n 0, 1) := by decide +kernel
theorem dX12_law_51 : decode cX12_law 51 = .ok (.iload_n 2, 1) := by decide +kernel
theorem dX12_law_52 : decode cX12_law 52 = .ok (.putfield 59, 3) := by decide +kernel
theorem dX12_law_55 : decode cX12_law 55 = .ok (.iconst 1, 1) := by decide +kernel
theorem dX12_law_56 : decode cX12_law 56 = .ok (.ireturn, 1) := by decide +kernel
theorem dX12_errs_0 : decode cX12_errs 0 = .ok (.aload_n 0, 1) := by decide +kernel
theorem dX12_errs_1 : decode cX12_errs 1 = .ok (.iconst 0, 1) := by decide +kernel
theorem dX12_errs_2 : decode cX12_errs 2 = .ok (.putfield 103, 3) := by decide +kernel
theorem dX12_errs_5 : decode cX12_errs 5 = .ok (.iload_n 1, 1) := by decide +kernel
theorem dX12_errs_6 : decode cX12_errs 6 = .ok (.i2l, 1) := by decide +kernel
theorem dX12_errs_7 : decode cX12_errs 7 = .ok (.lconst 0, 1) := by decide +kernel
theorem dX12_errs_8 : decode cX12_errs 8 = .ok (.ldc2_w 361, 3) := by decide +kernel
theorem dX12_errs_11 : decode cX12_errs 11 = .ok (.invokestatic 224, 3) := by decide +kernel
theorem dX12_errs_14 : decode cX12_errs 14 = .ok (.ifCond .eq 11, 3) := by decide +kernel
theorem dX12_errs_17 : decode cX12_errs 17 = .ok (.iload_n 1, 1) := by decide +kernel
theorem dX12_errs_18 : decode cX12_errs 18 = .ok (.aload_n 0, 1) := by decide +kernel
theorem dX12_errs_19 : decode cX12_errs 19 = .ok (.getfield 363, 3) := by decide +kernel
theorem dX12_errs_22 : decode cX12_errs 22 = .ok (.if_icmp .ne 5, 3) := by decide +kernel
theorem dX12_errs_25 : decode cX12_errs 25 = .ok (.iconst 0, 1) := by decide +kernel
theorem dX12_errs_26 : decode cX12_errs 26 = .ok (.ireturn, 1) := by decide +kernel
theorem dX12_errs_27 : decode cX12_errs 27 = .ok (.aload_n 0, 1) := by decide +kernel
theorem dX12_errs_28 : decode cX12_errs 28 = .ok (.iload_n 1, 1) := by decide +kernel
theorem dX12_errs_29 : decode cX12_errs 29 = .ok (.putfield 363, 3) := by decide +kernel
theorem dX12_errs_32 : decode cX12_errs 32 = .ok (.iconst 1, 1) := by decide +kernel
theorem dX12_errs_33 : decode cX12_errs 33 = .ok (.ireturn, 1) := by decide +kernel
theorem dX12_next_0 : decode cX12_next 0 = .ok (.aload_n 0, 1) := by decide +kernel
theorem dX12_next_1 : decode cX12_next 1 = .ok (.iconst 0, 1) := by decide +kernel
theorem dX12_next_2 : decode cX12_next 2 = .ok (.putfield 103, 3) := by decide +kernel
theorem dX12_next_5 : decode cX12_next 5 = .ok (.aload_n 0, 1) := by decide +kernel
theorem dX12_next_6 : decode cX12_next 6 = .ok (.aload_n 0, 1) := by decide +kernel
theorem dX12_next_7 : decode cX12_next 7 = .ok (.getfield 49, 3) := by decide +kernel
theorem dX12_next_10 : decode cX12_next 10 = .ok (.invokevirtual 366, 3) := by decide +kernel
theorem dX12_next_13 : decode cX12_next 13 = .ok (.ireturn, 1) := by decide +kernel
theorem dX12_odds_0 : decode cX12_odds 0 = .ok (.aload_n 0, 1) := by decide +kernel
theorem dX12_odds_1 : decode cX12_odds 1 = .ok (.iconst 0, 1) := by decide +kernel
theorem dX12_odds_2 : decode cX12_odds 2 = .ok (.putfield 103, 3) := by decide +kernel
theorem dX12_odds_5 : decode cX12_odds 5 = .ok (.aload_n 0, 1) := by decide +kernel
theorem dX12_odds_6 : decode cX12_odds 6 = .ok (.iload_n 1, 1) := by decide +kernel
theorem dX12_odds_7 : decode cX12_odds 7 = .ok (.invokevirtual 354, 3) := by decide +kernel
theorem dX12_odds_10 : decode cX12_odds 10 = .ok (.ifCond .eq 28, 3) := by decide +kernel
theorem dX12_odds_13 : decode cX12_odds 13 = .ok (.iload_n 2, 1) := by decide +kernel
theorem dX12_odds_14 : decode cX12_odds 14 = .ok (.i2l, 1) := by decide +kernel
theorem dX12_odds_15 : decode cX12_odds 15 = .ok (.lconst 1, 1) := by decide +kernel
theorem dX12_odds_16 : decode cX12_odds 16 = .ok (.ldc2_w 361, 3) := by decide +kernel
theorem dX12_odds_19 : decode cX12_odds 19 = .ok (.invokestatic 224, 3) := by decide +kernel
theorem dX12_odds_22 : decode cX12_odds 22 = .ok (.ifCond .eq 16, 3) := by decide +kernel
theorem dX12_odds_25 : decode cX12_odds 25 = .ok (.aload_n 0, 1) := by decide +kernel
theorem dX12_odds_26 : decode cX12_odds 26 = .ok (.aload_n 0, 1) := by decide +kernel
theorem dX12_odds_27 : decode cX12_odds 27 = .ok (.getfield 49, 3) := by decide +kernel
theorem dX12_odds_30 : decode cX12_odds 30 = .ok (.iload_n 1, 1) := by decide +kernel
theorem dX12_odds_31 : decode cX12_odds 31 = .ok (.iload_n 2, 1) := by decide +kernel
theorem dX12_odds_32 : decode cX12_odds 32 = .ok (.invokevirtual 369, 3) := by decide +kernel
theorem dX12_odds_35 : decode cX12_odds 35 = .ok (.goto 4, 3) := by decide +kernel
theorem dX12_odds_38 : decode cX12_odds 38 = .ok (.iconst (-1), 1) := by decide +kernel
theorem dX12_odds_39 : decode cX12_odds 39 = .ok (.ireturn, 1) := by decide +kernel
theorem dX12_value_0 : decode cX12_value 0 = .ok (.aload_n 0, 1) := by decide +kernel
theorem dX12_value_1 : decode cX12_value 1 = .ok (.iconst 0, 1) := by decide +kernel
theorem dX12_value_2 : decode cX12_value 2 = .ok (.putfield 103, 3) := by decide +kernel
theorem dX12_value_5 : decode cX12_value 5 = .ok (.aload_n 0, 1) := by decide +kernel
theorem dX12_value_6 : decode cX12_value 6 = .ok (.iload_n 1, 1) := by decide +kernel
theorem dX12_value_7 : decode cX12_value 7 = .ok (.invokevirtual 354, 3) := by decide +kernel
theorem dX12_value_10 : decode cX12_value 10 = .ok (.ifCond .eq 15, 3) := by decide +kernel
theorem dX12_value_13 : decode cX12_value 13 = .ok (.aload_n 0, 1) := by decide +kernel
theorem dX12_value_14 : decode cX12_value 14 = .ok (.aload_n 0, 1) := by decide +kernel
theorem dX12_value_15 : decode cX12_value 15 = .ok (.getfield 49, 3) := by decide +kernel
theorem dX12_value_18 : decode cX12_value 18 = .ok (.iload_n 1, 1) := by decide +kernel
theorem dX12_value_19 : decode cX12_value 19 = .ok (.invokevirtual 373, 3) := by decide +kernel
theorem dX12_value_22 : decode cX12_value 22 = .ok (.goto 6, 3) := by decide +kernel
theorem dX12_value_25 : decode cX12_value 25 = .ok (.ldc_w 376, 3) := by decide +kernel
theorem dX12_value_28 : decode cX12_value 28 = .ok (.ireturn, 1) := by decide +kernel
theorem dX12_remember_0 : decode cX12_remember 0 = .ok (.aload_n 0, 1) := by decide +kernel
theorem dX12_remember_1 : decode cX12_remember 1 = .ok (.getfield 281, 3) := by decide +kernel
theorem dX12_remember_4 : decode cX12_remember 4 = .ok (.bipush 40, 2) := by decide +kernel
theorem dX12_remember_6 : decode cX12_remember 6 = .ok (.if_icmp .ne 44, 3) := by decide +kernel
theorem dX12_remember_9 : decode cX12_remember 9 = .ok (.iconst 0, 1) := by decide +kernel
theorem dX12_remember_10 : decode cX12_remember 10 = .ok (.istore_n 1, 1) := by decide +kernel
theorem dX12_remember_11 : decode cX12_remember 11 = .ok (.iload_n 1, 1) := by decide +kernel
theorem dX12_remember_12 : decode cX12_remember 12 = .ok (.sipush 9789, 3) := by decide +kernel
theorem dX12_remember_15 : decode cX12_remember 15 = .ok (.if_icmp .ge 25, 3) := by decide +kernel
theorem dX12_remember_18 : decode cX12_remember 18 = .ok (.aload_n 0, 1) := by decide +kernel
theorem dX12_remember_19 : decode cX12_remember 19 = .ok (.getfield 69, 3) := by decide +kernel
theorem dX12_remember_22 : decode cX12_remember 22 = .ok (.iload_n 1, 1) := by decide +kernel
theorem dX12_remember_23 : decode cX12_remember 23 = .ok (.aload_n 0, 1) := by decide +kernel
theorem dX12_remember_24 : decode cX12_remember 24 = .ok (.getfield 69, 3) := by decide +kernel
theorem dX12_remember_27 : decode cX12_remember 27 = .ok (.iload_n 1, 1) := by decide +kernel
theorem dX12_remember_28 : decode cX12_remember 28 = .ok (.sipush 251, 3) := by decide +kernel
theorem dX12_remember_31 : decode cX12_remember 31 = .ok (.iadd, 1) := by decide +kernel
theorem dX12_remember_32 : decode cX12_remember 32 = .ok (.iaload, 1) := by decide +kernel
theorem dX12_remember_33 : decode cX12_remember 33 = .ok (.iastore, 1) := by decide +kernel
theorem dX12_remember_34 : decode cX12_remember 34 = .ok (.iinc 1 1, 3) := by decide +kernel
theorem dX12_remember_37 : decode cX12_remember 37 = .ok (.goto (-26), 3) := by decide +kernel
theorem dX12_remember_40 : decode cX12_remember 40 = .ok (.aload_n 0, 1) := by decide +kernel
theorem dX12_remember_41 : decode cX12_remember 41 = .ok (.dup, 1) := by decide +kernel
theorem dX12_remember_42 : decode cX12_remember 42 = .ok (.getfield 281, 3) := by decide +kernel
theorem dX12_remember_45 : decode cX12_remember 45 = .ok (.iconst 1, 1) := by decide +kernel
theorem dX12_remember_46 : decode cX12_remember 46 = .ok (.isub, 1) := by decide +kernel
theorem dX12_remember_47 : decode cX12_remember 47 = .ok (.putfield 281, 3) := by decide +kernel
theorem dX12_remember_50 : decode cX12_remember 50 = .ok (.iconst 0, 1) := by decide +kernel
theorem dX12_remember_51 : decode cX12_remember 51 = .ok (.istore_n 1, 1) := by decide +kernel
theorem dX12_remember_52 : decode cX12_remember 52 = .ok (.iload_n 1, 1) := by decide +kernel
theorem dX12_remember_53 : decode cX12_remember 53 = .ok (.sipush 251, 3) := by decide +kernel
theorem dX12_remember_56 : decode cX12_remember 56 = .ok (.if_icmp .ge 30, 3) := by decide +kernel
theorem dX12_remember_59 : decode cX12_remember 59 = .ok (.aload_n 0, 1) := by decide +kernel
theorem dX12_remember_60 : decode cX12_remember 60 = .ok (.getfield 69, 3) := by decide +kernel
theorem dX12_remember_63 : decode cX12_remember 63 = .ok (.sipush 251, 3) := by decide +kernel
theorem dX12_remember_66 : decode cX12_remember 66 = .ok (.aload_n 0, 1) := by decide +kernel
theorem dX12_remember_67 : decode cX12_remember 67 = .ok (.getfield 281, 3) := by decide +kernel
theorem dX12_remember_70 : decode cX12_remember 70 = .ok (.imul, 1) := by decide +kernel
theorem dX12_remember_71 : decode cX12_remember 71 = .ok (.iload_n 1, 1) := by decide +kernel
theorem dX12_remember_72 : decode cX12_remember 72 = .ok (.iadd, 1) := by decide +kernel
theorem dX12_remember_73 : decode cX12_remember 73 = .ok (.aload_n 0, 1) := by decide +kernel
theorem dX12_remember_74 : decode cX12_remember 74 = .ok (.getfield 49, 3) := by decide +kernel
theorem dX12_remember_77 : decode cX12_remember 77 = .ok (.iload_n 1, 1) := by decide +kernel
theorem dX12_remember_78 : decode cX12_remember 78 = .ok (.iaload, 1) := by decide +kernel
theorem dX12_remember_79 : decode cX12_remember 79 = .ok (.iastore, 1) := by decide +kernel
theorem dX12_remember_80 : decode cX12_remember 80 = .ok (.iinc 1 1, 3) := by decide +kernel
theorem dX12_remember_83 : decode cX12_remember 83 = .ok (.goto (-31), 3) := by decide +kernel
theorem dX12_remember_86 : decode cX12_remember 86 = .ok (.aload_n 0, 1) := by decide +kernel
theorem dX12_remember_87 : decode cX12_remember 87 = .ok (.dup, 1) := by decide +kernel
theorem dX12_remember_88 : decode cX12_remember 88 = .ok (.getfield 281, 3) := by decide +kernel
theorem dX12_remember_91 : decode cX12_remember 91 = .ok (.iconst 1, 1) := by decide +kernel
theorem dX12_remember_92 : decode cX12_remember 92 = .ok (.iadd, 1) := by decide +kernel
theorem dX12_remember_93 : decode cX12_remember 93 = .ok (.putfield 281, 3) := by decide +kernel
theorem dX12_remember_96 : decode cX12_remember 96 = .ok (.return_, 1) := by decide +kernel
theorem dX12_lift_0 : decode cX12_lift 0 = .ok (.aload_n 0, 1) := by decide +kernel
theorem dX12_lift_1 : decode cX12_lift 1 = .ok (.iconst 0, 1) := by decide +kernel
theorem dX12_lift_2 : decode cX12_lift 2 = .ok (.putfield 103, 3) := by decide +kernel
theorem dX12_lift_5 : decode cX12_lift 5 = .ok (.aload_n 0, 1) := by decide +kernel
theorem dX12_lift_6 : decode cX12_lift 6 = .ok (.aload_n 0, 1) := by decide +kernel
theorem dX12_lift_7 : decode cX12_lift 7 = .ok (.getfield 49, 3) := by decide +kernel
theorem dX12_lift_10 : decode cX12_lift 10 = .ok (.invokevirtual 366, 3) := by decide +kernel
theorem dX12_lift_13 : decode cX12_lift 13 = .ok (.istore_n 2, 1) := by decide +kernel
theorem dX12_lift_14 : decode cX12_lift 14 = .ok (.iload_n 2, 1) := by decide +kernel
theorem dX12_lift_15 : decode cX12_lift 15 = .ok (.iconst (-1), 1) := by decide +kernel
theorem dX12_lift_16 : decode cX12_lift 16 = .ok (.if_icmp .eq 15, 3) := by decide +kernel
theorem dX12_lift_19 : decode cX12_lift 19 = .ok (.iload_n 1, 1) := by decide +kernel
theorem dX12_lift_20 : decode cX12_lift 20 = .ok (.i2l, 1) := by decide +kernel
theorem dX12_lift_21 : decode cX12_lift 21 = .ok (.lconst 0, 1) := by decide +kernel
theorem dX12_lift_22 : decode cX12_lift 22 = .ok (.ldc2_w 377, 3) := by decide +kernel
theorem dX12_lift_25 : decode cX12_lift 25 = .ok (.invokestatic 224, 3) := by decide +kernel
theorem dX12_lift_28 : decode cX12_lift 28 = .ok (.ifCond .ne 5, 3) := by decide +kernel
theorem dX12_lift_31 : decode cX12_lift 31 = .ok (.iconst (-1), 1) := by decide +kernel
theorem dX12_lift_32 : decode cX12_lift 32 = .ok (.ireturn, 1) := by decide +kernel
theorem dX12_lift_33 : decode cX12_lift 33 = .ok (.aload_n 0, 1) := by decide +kernel
theorem dX12_lift_34 : decode cX12_lift 34 = .ok (.invokevirtual 379, 3) := by decide +kernel
theorem dX12_lift_37 : decode cX12_lift 37 = .ok (.aload_n 0, 1) := by decide +kernel
theorem dX12_lift_38 : decode cX12_lift 38 = .ok (.aload_n 0, 1) := by decide +kernel
theorem dX12_lift_39 : decode cX12_lift 39 = .ok (.getfield 49, 3) := by decide +kernel
theorem dX12_lift_42 : decode cX12_lift 42 = .ok (.iload_n 2, 1) := by decide +kernel
theorem dX12_lift_43 : decode cX12_lift 43 = .ok (.iload_n 1, 1) := by decide +kernel
theorem dX12_lift_44 : decode cX12_lift 44 = .ok (.invokevirtual 382, 3) := by decide +kernel
theorem dX12_lift_47 : decode cX12_lift 47 = .ok (.iload_n 1, 1) := by decide +kernel
theorem dX12_lift_48 : decode cX12_lift 48 = .ok (.invokestatic 304, 3) := by decide +kernel
theorem dX12_lift_51 : decode cX12_lift 51 = .ok (.ifCond .eq 7, 3) := by decide +kernel
theorem dX12_lift_54 : decode cX12_lift 54 = .ok (.iconst 1, 1) := by decide +kernel
theorem dX12_lift_55 : decode cX12_lift 55 = .ok (.goto 4, 3) := by decide +kernel
theorem dX12_lift_58 : decode cX12_lift 58 = .ok (.iconst 0, 1) := by decide +kernel
theorem dX12_lift_59 : decode cX12_lift 59 = .ok (.ireturn, 1) := by decide +kernel
theorem dX12_leastOf__0 : decode cX12_leastOf_ 0 = .ok (.aload_n 1, 1) := by decide +kernel
theorem dX12_leastOf__1 : decode cX12_leastOf_ 1 = .ok (.bipush 11, 2) := by decide +kernel
theorem dX12_leastOf__3 : decode cX12_leastOf_ 3 = .ok (.iload_n 2, 1) := by decide +kernel
theorem dX12_leastOf__4 : decode cX12_leastOf_ 4 = .ok (.imul, 1) := by decide +kernel
theorem dX12_leastOf__5 : decode cX12_leastOf_ 5 = .ok (.iconst 4, 1) := by decide +kernel
theorem dX12_leastOf__6 : decode cX12_leastOf_ 6 = .ok (.iadd, 1) := by decide +kernel
theorem dX12_leastOf__7 : decode cX12_leastOf_ 7 = .ok (.iaload, 1) := by decide +kernel
theorem dX12_leastOf__8 : decode cX12_leastOf_ 8 = .ok (.aload_n 1, 1) := by decide +kernel
theorem dX12_leastOf__9 : decode cX12_leastOf_ 9 = .ok (.bipush 67, 2) := by decide +kernel
theorem dX12_leastOf__11 : decode cX12_leastOf_ 11 = .ok (.iaload, 1) := by decide +kernel
theorem dX12_leastOf__12 : decode cX12_leastOf_ 12 = .ok (.invokestatic 307, 3) := by decide +kernel
theorem dX12_leastOf__15 : decode cX12_leastOf_ 15 = .ok (.ireturn, 1) := by decide +kernel
theorem dX12_change_0 : decode cX12_change 0 = .ok (.aload_n 0, 1) := by decide +kernel
theorem dX12_change_1 : decode cX12_change 1 = .ok (.iconst 0, 1) := by decide +kernel
theorem dX12_change_2 : decode cX12_change 2 = .ok (.putfield 103, 3) := by decide +kernel
theorem dX12_change_5 : decode cX12_change 5 = .ok (.bipush 11, 2) := by decide +kernel
theorem dX12_change_7 : decode cX12_change 7 = .ok (.iload_n 1, 1) := by decide +kernel
theorem dX12_change_8 : decode cX12_change 8 = .ok (.imul, 1) := by decide +kernel
theorem dX12_change_9 : decode cX12_change 9 = .ok (.istore_n 3, 1) := by decide +kernel
theorem dX12_change_10 : decode cX12_change 10 = .ok (.aload_n 0, 1) := by decide +kernel
theorem dX12_change_11 : decode cX12_change 11 = .ok (.iload_n 1, 1) := by decide +kernel
theorem dX12_change_12 : decode cX12_change 12 = .ok (.invokevirtual 354, 3) := by decide +kernel
theorem dX12_change_15 : decode cX12_change 15 = .ok (.ifCond .eq 59, 3) := by decide +kernel
theorem dX12_change_18 : decode cX12_change 18 = .ok (.aload_n 0, 1) := by decide +kernel
theorem dX12_change_19 : decode cX12_change 19 = .ok (.aload_n 0, 1) := by decide +kernel
theorem dX12_change_20 : decode cX12_change 20 = .ok (.getfield 49, 3) := by decide +kernel
theorem dX12_change_23 : decode cX12_change 23 = .ok (.iload_n 1, 1) := by decide +kernel
theorem dX12_change_24 : decode cX12_change 24 = .ok (.invokevirtual 287, 3) := by decide +kernel
theorem dX12_change_27 : decode cX12_change 27 = .ok (.ifCond .eq 47, 3) := by decide +kernel
theorem dX12_change_30 : decode cX12_change 30 = .ok (.iload_n 2, 1) := by decide +kernel
theorem dX12_change_31 : decode cX12_change 31 = .ok (.i2l, 1) := by decide +kernel
theorem dX12_change_32 : decode cX12_change 32 = .ok (.aload_n 0, 1) := by decide +kernel
theorem dX12_change_33 : decode cX12_change 33 = .ok (.aload_n 0, 1) := by decide +kernel
theorem dX12_change_34 : decode cX12_change 34 = .ok (.getfield 49, 3) := by decide +kernel
theorem dX12_change_37 : decode cX12_change 37 = .ok (.iload_n 1, 1) := by decide +kernel
theorem dX12_change_38 : decode cX12_change 38 = .ok (.invokevirtual 386, 3) := by decide +kernel
theorem dX12_change_41 : decode cX12_change 41 = .ok (.i2l, 1) := by decide +kernel
theorem dX12_change_42 : decode cX12_change 42 = .ok (.ldc2_w 361, 3) := by decide +kernel
theorem dX12_change_45 : decode cX12_change 45 = .ok (.invokestatic 224, 3) := by decide +kernel
theorem dX12_change_48 : decode cX12_change 48 = .ok (.ifCond .eq 26, 3) := by decide +kernel
theorem dX12_change_51 : decode cX12_change 51 = .ok (.aload_n 0, 1) := by decide +kernel
theorem dX12_change_52 : decode cX12_change 52 = .ok (.getfield 49, 3) := by decide +kernel
theorem dX12_change_55 : decode cX12_change 55 = .ok (.iload_n 3, 1) := by decide +kernel
theorem dX12_change_56 : decode cX12_change 56 = .ok (.iconst 5, 1) := by decide +kernel
theorem dX12_change_57 : decode cX12_change 57 = .ok (.iadd, 1) := by decide +kernel
theorem dX12_change_58 : decode cX12_change 58 = .ok (.iaload, 1) := by decide +kernel
theorem dX12_change_59 : decode cX12_change 59 = .ok (.ifCond .eq 15, 3) := by decide +kernel
theorem dX12_change_62 : decode cX12_change 62 = .ok (.aload_n 0, 1) := by decide +kernel
theorem dX12_change_63 : decode cX12_change 63 = .ok (.getfield 49, 3) := by decide +kernel
theorem dX12_change_66 : decode cX12_change 66 = .ok (.iload_n 3, 1) := by decide +kernel
theorem dX12_change_67 : decode cX12_change 67 = .ok (.iconst 0, 1) := by decide +kernel
theorem dX12_change_68 : decode cX12_change 68 = .ok (.iadd, 1) := by decide +kernel
theorem dX12_change_69 : decode cX12_change 69 = .ok (.iaload, 1) := by decide +kernel
theorem dX12_change_70 : decode cX12_change 70 = .ok (.iload_n 2, 1) := by decide +kernel
theorem dX12_change_71 : decode cX12_change 71 = .ok (.if_icmp .ne 5, 3) := by decide +kernel
theorem dX12_change_74 : decode cX12_change 74 = .ok (.iconst (-1), 1) := by decide +kernel
theorem dX12_change_75 : decode cX12_change 75 = .ok (.ireturn, 1) := by decide +kernel
theorem dX12_change_76 : decode cX12_change 76 = .ok (.aload_n 0, 1) := by decide +kernel
theorem dX12_change_77 : decode cX12_change 77 = .ok (.invokevirtual 379, 3) := by decide +kernel
theorem dX12_change_80 : decode cX12_change 80 = .ok (.aload_n 0, 1) := by decide +kernel
theorem dX12_change_81 : decode cX12_change 81 = .ok (.getfield 49, 3) := by decide +kernel
theorem dX12_change_84 : decode cX12_change 84 = .ok (.iload_n 3, 1) := by decide +kernel
theorem dX12_change_85 : decode cX12_change 85 = .ok (.iconst 0, 1) := by decide +kernel
theorem dX12_change_86 : decode cX12_change 86 = .ok (.iadd, 1) := by decide +kernel
theorem dX12_change_87 : decode cX12_change 87 = .ok (.iload_n 2, 1) := by decide +kernel
theorem dX12_change_88 : decode cX12_change 88 = .ok (.iastore, 1) := by decide +kernel
theorem dX12_change_89 : decode cX12_change 89 = .ok (.aload_n 0, 1) := by decide +kernel
theorem dX12_change_90 : decode cX12_change 90 = .ok (.getfield 49, 3) := by decide +kernel
theorem dX12_change_93 : decode cX12_change 93 = .ok (.iload_n 3, 1) := by decide +kernel
theorem dX12_change_94 : decode cX12_change 94 = .ok (.iconst 5, 1) := by decide +kernel
theorem dX12_change_95 : decode cX12_change 95 = .ok (.iadd, 1) := by decide +kernel
theorem dX12_change_96 : decode cX12_change 96 = .ok (.dup2, 1) := by decide +kernel
theorem dX12_change_97 : decode cX12_change 97 = .ok (.iaload, 1) := by decide +kernel
theorem dX12_change_98 : decode cX12_change 98 = .ok (.iconst 1, 1) := by decide +kernel
theorem dX12_change_99 : decode cX12_change 99 = .ok (.isub, 1) := by decide +kernel
theorem dX12_change_100 : decode cX12_change 100 = .ok (.iastore, 1) := by decide +kernel
theorem dX12_change_101 : decode cX12_change 101 = .ok (.aload_n 0, 1) := by decide +kernel
theorem dX12_change_102 : decode cX12_change 102 = .ok (.getfield 49, 3) := by decide +kernel
theorem dX12_change_105 : decode cX12_change 105 = .ok (.iload_n 3, 1) := by decide +kernel
theorem dX12_change_106 : decode cX12_change 106 = .ok (.iconst 5, 1) := by decide +kernel
theorem dX12_change_107 : decode cX12_change 107 = .ok (.iadd, 1) := by decide +kernel
theorem dX12_change_108 : decode cX12_change 108 = .ok (.iaload, 1) := by decide +kernel
theorem dX12_change_109 : decode cX12_change 109 = .ok (.ireturn, 1) := by decide +kernel
theorem dX12_home_0 : decode cX12_home 0 = .ok (.aload_n 0, 1) := by decide +kernel
theorem dX12_home_1 : decode cX12_home 1 = .ok (.iconst 0, 1) := by decide +kernel
theorem dX12_home_2 : decode cX12_home 2 = .ok (.putfield 103, 3) := by decide +kernel
theorem dX12_home_5 : decode cX12_home 5 = .ok (.aload_n 0, 1) := by decide +kernel
theorem dX12_home_6 : decode cX12_home 6 = .ok (.iload_n 1, 1) := by decide +kernel
theorem dX12_home_7 : decode cX12_home 7 = .ok (.invokevirtual 354, 3) := by decide +kernel
theorem dX12_home_10 : decode cX12_home 10 = .ok (.ifCond .eq 15, 3) := by decide +kernel
theorem dX12_home_13 : decode cX12_home 13 = .ok (.aload_n 0, 1) := by decide +kernel
theorem dX12_home_14 : decode cX12_home 14 = .ok (.aload_n 0, 1) := by decide +kernel
theorem dX12_home_15 : decode cX12_home 15 = .ok (.getfield 49, 3) := by decide +kernel
theorem dX12_home_18 : decode cX12_home 18 = .ok (.iload_n 1, 1) := by decide +kernel
theorem dX12_home_19 : decode cX12_home 19 = .ok (.invokevirtual 287, 3) := by decide +kernel
theorem dX12_home_22 : decode cX12_home 22 = .ok (.ifCond .ne 5, 3) := by decide +kernel
theorem dX12_home_25 : decode cX12_home 25 = .ok (.iconst (-1), 1) := by decide +kernel
theorem dX12_home_26 : decode cX12_home 26 = .ok (.ireturn, 1) := by decide +kernel
theorem dX12_home_27 : decode cX12_home 27 = .ok (.aload_n 0, 1) := by decide +kernel
theorem dX12_home_28 : decode cX12_home 28 = .ok (.invokevirtual 379, 3) := by decide +kernel
theorem dX12_home_31 : decode cX12_home 31 = .ok (.aload_n 0, 1) := by decide +kernel
theorem dX12_home_32 : decode cX12_home 32 = .ok (.getfield 49, 3) := by decide +kernel
theorem dX12_home_35 : decode cX12_home 35 = .ok (.bipush 11, 2) := by decide +kernel
theorem dX12_home_37 : decode cX12_home 37 = .ok (.iload_n 1, 1) := by decide +kernel
theorem dX12_home_38 : decode cX12_home 38 = .ok (.imul, 1) := by decide +kernel
theorem dX12_home_39 : decode cX12_home 39 = .ok (.bipush 6, 2) := by decide +kernel
theorem dX12_home_41 : decode cX12_home 41 = .ok (.iadd, 1) := by decide +kernel
theorem dX12_home_42 : decode cX12_home 42 = .ok (.iconst 1, 1) := by decide +kernel
theorem dX12_home_43 : decode cX12_home 43 = .ok (.iastore, 1) := by decide +kernel
theorem dX12_home_44 : decode cX12_home 44 = .ok (.aload_n 0, 1) := by decide +kernel
theorem dX12_home_45 : decode cX12_home 45 = .ok (.aload_n 0, 1) := by decide +kernel
theorem dX12_home_46 : decode cX12_home 46 = .ok (.getfield 49, 3) := by decide +kernel
theorem dX12_home_49 : decode cX12_home 49 = .ok (.invokevirtual 311, 3) := by decide +kernel
theorem dX12_home_52 : decode cX12_home 52 = .ok (.aload_n 0, 1) := by decide +kernel
theorem dX12_home_53 : decode cX12_home 53 = .ok (.aload_n 0, 1) := by decide +kernel
theorem dX12_home_54 : decode cX12_home 54 = .ok (.getfield 49, 3) := by decide +kernel
theorem dX12_home_57 : decode cX12_home 57 = .ok (.invokevirtual 295, 3) := by decide +kernel
theorem dX12_home_60 : decode cX12_home 60 = .ok (.ireturn, 1) := by decide +kernel
theorem dX12_warm_0 : decode cX12_warm 0 = .ok (.aload_n 0, 1) := by decide +kernel
theorem dX12_warm_1 : decode cX12_warm 1 = .ok (.iconst 0, 1) := by decide +kernel
theorem dX12_warm_2 : decode cX12_warm 2 = .ok (.putfield 103, 3) := by decide +kernel
theorem dX12_warm_5 : decode cX12_warm 5 = .ok (.aload_n 0, 1) := by decide +kernel
theorem dX12_warm_6 : decode cX12_warm 6 = .ok (.iload_n 1, 1) := by decide +kernel
theorem dX12_warm_7 : decode cX12_warm 7 = .ok (.invokevirtual 354, 3) := by decide +kernel
theorem dX12_warm_10 : decode cX12_warm 10 = .ok (.ifCond .eq 15, 3) := by decide +kernel
theorem dX12_warm_13 : decode cX12_warm 13 = .ok (.aload_n 0, 1) := by decide +kernel
theorem dX12_warm_14 : decode cX12_warm 14 = .ok (.aload_n 0, 1) := by decide +kernel
theorem dX12_warm_15 : decode cX12_warm 15 = .ok (.getfield 49, 3) := by decide +kernel
theorem dX12_warm_18 : decode cX12_warm 18 = .ok (.iload_n 1, 1) := by decide +kernel
theorem dX12_warm_19 : decode cX12_warm 19 = .ok (.invokevirtual 287, 3) := by decide +kernel
theorem dX12_warm_22 : decode cX12_warm 22 = .ok (.ifCond .ne 5, 3) := by decide +kernel
theorem dX12_warm_25 : decode cX12_warm 25 = .ok (.iconst (-1), 1) := by decide +kernel
theorem dX12_warm_26 : decode cX12_warm 26 = .ok (.ireturn, 1) := by decide +kernel
theorem dX12_warm_27 : decode cX12_warm 27 = .ok (.aload_n 0, 1) := by decide +kernel
theorem dX12_warm_28 : decode cX12_warm 28 = .ok (.invokevirtual 379, 3) := by decide +kernel
theorem dX12_warm_31 : decode cX12_warm 31 = .ok (.aload_n 0, 1) := by decide +kernel
theorem dX12_warm_32 : decode cX12_warm 32 = .ok (.getfield 49, 3) := by decide +kernel
theorem dX12_warm_35 : decode cX12_warm 35 = .ok (.bipush 11, 2) := by decide +kernel
theorem dX12_warm_37 : decode cX12_warm 37 = .ok (.iload_n 1, 1) := by decide +kernel
theorem dX12_warm_38 : decode cX12_warm 38 = .ok (.imul, 1) := by decide +kernel
theorem dX12_warm_39 : decode cX12_warm 39 = .ok (.bipush 7, 2) := by decide +kernel
theorem dX12_warm_41 : decode cX12_warm 41 = .ok (.iadd, 1) := by decide +kernel
theorem dX12_warm_42 : decode cX12_warm 42 = .ok (.bipush 9, 2) := by decide +kernel
theorem dX12_warm_44 : decode cX12_warm 44 = .ok (.aload_n 0, 1) := by decide +kernel
theorem dX12_warm_45 : decode cX12_warm 45 = .ok (.getfield 49, 3) := by decide +kernel
theorem dX12_warm_48 : decode cX12_warm 48 = .ok (.bipush 11, 2) := by decide +kernel
theorem dX12_warm_50 : decode cX12_warm 50 = .ok (.iload_n 1, 1) := by decide +kernel
theorem dX12_warm_51 : decode cX12_warm 51 = .ok (.imul, 1) := by decide +kernel
theorem dX12_warm_52 : decode cX12_warm 52 = .ok (.bipush 7, 2) := by decide +kernel
theorem dX12_warm_54 : decode cX12_warm 54 = .ok (.iadd, 1) := by decide +kernel
theorem dX12_warm_55 : decode cX12_warm 55 = .ok (.iaload, 1) := by decide +kernel
theorem dX12_warm_56 : decode cX12_warm 56 = .ok (.iconst 1, 1) := by decide +kernel
theorem dX12_warm_57 : decode cX12_warm 57 = .ok (.iadd, 1) := by decide +kernel
theorem dX12_warm_58 : decode cX12_warm 58 = .ok (.invokestatic 309, 3) := by decide +kernel
theorem dX12_warm_61 : decode cX12_warm 61 = .ok (.iastore, 1) := by decide +kernel
theorem dX12_warm_62 : decode cX12_warm 62 = .ok (.aload_n 0, 1) := by decide +kernel
theorem dX12_warm_63 : decode cX12_warm 63 = .ok (.getfield 49, 3) := by decide +kernel
theorem dX12_warm_66 : decode cX12_warm 66 = .ok (.bipush 68, 2) := by decide +kernel
theorem dX12_warm_68 : decode cX12_warm 68 = .ok (.dup2, 1) := by decide +kernel
theorem dX12_warm_69 : decode cX12_warm 69 = .ok (.iaload, 1) := by decide +kernel
theorem dX12_warm_70 : decode cX12_warm 70 = .ok (.iconst 1, 1) := by decide +kernel
theorem dX12_warm_71 : decode cX12_warm 71 = .ok (.iadd, 1) := by decide +kernel
theorem dX12_warm_72 : decode cX12_warm 72 = .ok (.iastore, 1) := by decide +kernel
theorem dX12_warm_73 : decode cX12_warm 73 = .ok (.aload_n 0, 1) := by decide +kernel
theorem dX12_warm_74 : decode cX12_warm 74 = .ok (.getfield 49, 3) := by decide +kernel
theorem dX12_warm_77 : decode cX12_warm 77 = .ok (.bipush 11, 2) := by decide +kernel
theorem dX12_warm_79 : decode cX12_warm 79 = .ok (.iload_n 1, 1) := by decide +kernel
theorem dX12_warm_80 : decode cX12_warm 80 = .ok (.imul, 1) := by decide +kernel
theorem dX12_warm_81 : decode cX12_warm 81 = .ok (.bipush 8, 2) := by decide +kernel
theorem dX12_warm_83 : decode cX12_warm 83 = .ok (.iadd, 1) := by decide +kernel
theorem dX12_warm_84 : decode cX12_warm 84 = .ok (.aload_n 0, 1) := by decide +kernel
theorem dX12_warm_85 : decode cX12_warm 85 = .ok (.getfield 49, 3) := by decide +kernel
theorem dX12_warm_88 : decode cX12_warm 88 = .ok (.bipush 68, 2) := by decide +kernel
theorem dX12_warm_90 : decode cX12_warm 90 = .ok (.iaload, 1) := by decide +kernel
theorem dX12_warm_91 : decode cX12_warm 91 = .ok (.iastore, 1) := by decide +kernel
theorem dX12_warm_92 : decode cX12_warm 92 = .ok (.aload_n 0, 1) := by decide +kernel
theorem dX12_warm_93 : decode cX12_warm 93 = .ok (.aload_n 0, 1) := by decide +kernel
theorem dX12_warm_94 : decode cX12_warm 94 = .ok (.getfield 49, 3) := by decide +kernel
theorem dX12_warm_97 : decode cX12_warm 97 = .ok (.iload_n 1, 1) := by decide +kernel
theorem dX12_warm_98 : decode cX12_warm 98 = .ok (.invokevirtual 340, 3) := by decide +kernel
theorem dX12_warm_101 : decode cX12_warm 101 = .ok (.ireturn, 1) := by decide +kernel
theorem dX12_draw_0 : decode cX12_draw 0 = .ok (.aload_n 0, 1) := by decide +kernel
theorem dX12_draw_1 : decode cX12_draw 1 = .ok (.aload_n 0, 1) := by decide +kernel
theorem dX12_draw_2 : decode cX12_draw 2 = .ok (.getfield 388, 3) := by decide +kernel
theorem dX12_draw_5 : decode cX12_draw 5 = .ok (.ldc2_w 392, 3) := by decide +kernel
theorem dX12_draw_8 : decode cX12_draw 8 = .ok (.lmul, 1) := by decide +kernel
theorem dX12_draw_9 : decode cX12_draw 9 = .ok (.ldc2_w 394, 3) := by decide +kernel
theorem dX12_draw_12 : decode cX12_draw 12 = .ok (.ladd, 1) := by decide +kernel
theorem dX12_draw_13 : decode cX12_draw 13 = .ok (.putfield 388, 3) := by decide +kernel
theorem dX12_draw_16 : decode cX12_draw 16 = .ok (.aload_n 0, 1) := by decide +kernel
theorem dX12_draw_17 : decode cX12_draw 17 = .ok (.getfield 388, 3) := by decide +kernel
theorem dX12_draw_20 : decode cX12_draw 20 = .ok (.bipush 33, 2) := by decide +kernel
theorem dX12_draw_22 : decode cX12_draw 22 = .ok (.lushr, 1) := by decide +kernel
theorem dX12_draw_23 : decode cX12_draw 23 = .ok (.iload_n 1, 1) := by decide +kernel
theorem dX12_draw_24 : decode cX12_draw 24 = .ok (.i2l, 1) := by decide +kernel
theorem dX12_draw_25 : decode cX12_draw 25 = .ok (.lrem, 1) := by decide +kernel
theorem dX12_draw_26 : decode cX12_draw 26 = .ok (.l2i, 1) := by decide +kernel
theorem dX12_draw_27 : decode cX12_draw 27 = .ok (.ireturn, 1) := by decide +kernel
theorem dX12_meet_0 : decode cX12_meet 0 = .ok (.aload_n 0, 1) := by decide +kernel
theorem dX12_meet_1 : decode cX12_meet 1 = .ok (.iconst 0, 1) := by decide +kernel
theorem dX12_meet_2 : decode cX12_meet 2 = .ok (.putfield 103, 3) := by decide +kernel
theorem dX12_meet_5 : decode cX12_meet 5 = .ok (.iload_n 1, 1) := by decide +kernel
theorem dX12_meet_6 : decode cX12_meet 6 = .ok (.i2l, 1) := by decide +kernel
theorem dX12_meet_7 : decode cX12_meet 7 = .ok (.lconst 1, 1) := by decide +kernel
theorem dX12_meet_8 : decode cX12_meet 8 = .ok (.ldc2_w 396, 3) := by decide +kernel
theorem dX12_meet_11 : decode cX12_meet 11 = .ok (.invokestatic 224, 3) := by decide +kernel
theorem dX12_meet_14 : decode cX12_meet 14 = .ok (.ifCond .eq 15, 3) := by decide +kernel
theorem dX12_meet_17 : decode cX12_meet 17 = .ok (.aload_n 0, 1) := by decide +kernel
theorem dX12_meet_18 : decode cX12_meet 18 = .ok (.aload_n 0, 1) := by decide +kernel
theorem dX12_meet_19 : decode cX12_meet 19 = .ok (.getfield 49, 3) := by decide +kernel
theorem dX12_meet_22 : decode cX12_meet 22 = .ok (.invokevirtual 366, 3) := by decide +kernel
theorem dX12_meet_25 : decode cX12_meet 25 = .ok (.iconst (-1), 1) := by decide +kernel
theorem dX12_meet_26 : decode cX12_meet 26 = .ok (.if_icmp .ne 5, 3) := by decide +kernel
theorem dX12_meet_29 : decode cX12_meet 29 = .ok (.iconst (-1), 1) := by decide +kernel
theorem dX12_meet_30 : decode cX12_meet 30 = .ok (.ireturn, 1) := by decide +kernel
theorem dX12_meet_31 : decode cX12_meet 31 = .ok (.aload_n 0, 1) := by decide +kernel
theorem dX12_meet_32 : decode cX12_meet 32 = .ok (.lload_n 2, 1) := by decide +kernel
theorem dX12_meet_33 : decode cX12_meet 33 = .ok (.putfield 388, 3) := by decide +kernel
theorem dX12_meet_36 : decode cX12_meet 36 = .ok (.iconst 0, 1) := by decide +kernel
theorem dX12_meet_37 : decode cX12_meet 37 = .ok (.istore 4, 2) := by decide +kernel
theorem dX12_meet_39 : decode cX12_meet 39 = .ok (.aload_n 0, 1) := by decide +kernel
theorem dX12_meet_40 : decode cX12_meet 40 = .ok (.aload_n 0, 1) := by decide +kernel
theorem dX12_meet_41 : decode cX12_meet 41 = .ok (.getfield 49, 3) := by decide +kernel
theorem dX12_meet_44 : decode cX12_meet 44 = .ok (.invokevirtual 366, 3) := by decide +kernel
theorem dX12_meet_47 : decode cX12_meet 47 = .ok (.istore 5, 2) := by decide +kernel
theorem dX12_meet_49 : decode cX12_meet 49 = .ok (.iload 4, 2) := by decide +kernel
theorem dX12_meet_51 : decode cX12_meet 51 = .ok (.iload_n 1, 1) := by decide +kernel
theorem dX12_meet_52 : decode cX12_meet 52 = .ok (.if_icmp .ge 133, 3) := by decide +kernel
theorem dX12_meet_55 : decode cX12_meet 55 = .ok (.iload 5, 2) := by decide +kernel
theorem dX12_meet_57 : decode cX12_meet 57 = .ok (.iconst (-1), 1) := by decide +kernel
theorem dX12_meet_58 : decode cX12_meet 58 = .ok (.if_icmp .eq 127, 3) := by decide +kernel
theorem dX12_meet_61 : decode cX12_meet 61 = .ok (.aload_n 0, 1) := by decide +kernel
theorem dX12_meet_62 : decode cX12_meet 62 = .ok (.bipush 100, 2) := by decide +kernel
theorem dX12_meet_64 : decode cX12_meet 64 = .ok (.invokevirtual 398, 3) := by decide +kernel
theorem dX12_meet_67 : decode cX12_meet 67 = .ok (.aload_n 0, 1) := by decide +kernel
theorem dX12_meet_68 : decode cX12_meet 68 = .ok (.aload_n 0, 1) := by decide +kernel
theorem dX12_meet_69 : decode cX12_meet 69 = .ok (.getfield 49, 3) := by decide +kernel
theorem dX12_meet_72 : decode cX12_meet 72 = .ok (.iload 5, 2) := by decide +kernel
theorem dX12_meet_74 : decode cX12_meet 74 = .ok (.aload_n 0, 1) := by decide +kernel
theorem dX12_meet_75 : decode cX12_meet 75 = .ok (.getfield 49, 3) := by decide +kernel
theorem dX12_meet_78 : decode cX12_meet 78 = .ok (.bipush 11, 2) := by decide +kernel
theorem dX12_meet_80 : decode cX12_meet 80 = .ok (.iload 5, 2) := by decide +kernel
theorem dX12_meet_82 : decode cX12_meet 82 = .ok (.imul, 1) := by decide +kernel
theorem dX12_meet_83 : decode cX12_meet 83 = .ok (.iconst 0, 1) := by decide +kernel
theorem dX12_meet_84 : decode cX12_meet 84 = .ok (.iadd, 1) := by decide +kernel
theorem dX12_meet_85 : decode cX12_meet 85 = .ok (.iaload, 1) := by decide +kernel
theorem dX12_meet_86 : decode cX12_meet 86 = .ok (.invokevirtual 369, 3) := by decide +kernel
theorem dX12_meet_89 : decode cX12_meet 89 = .ok (.if_icmp .ge 7, 3) := by decide +kernel
theorem dX12_meet_92 : decode cX12_meet 92 = .ok (.iconst 1, 1) := by decide +kernel
theorem dX12_meet_93 : decode cX12_meet 93 = .ok (.goto 4, 3) := by decide +kernel
theorem dX12_meet_96 : decode cX12_meet 96 = .ok (.iconst 0, 1) := by decide +kernel
theorem dX12_meet_97 : decode cX12_meet 97 = .ok (.istore 6, 2) := by decide +kernel
theorem dX12_meet_99 : decode cX12_meet 99 = .ok (.iconst 0, 1) := by decide +kernel
theorem dX12_meet_100 : decode cX12_meet 100 = .ok (.istore 7, 2) := by decide +kernel
theorem dX12_meet_102 : decode cX12_meet 102 = .ok (.iconst 0, 1) := by decide +kernel
theorem dX12_meet_103 : decode cX12_meet 103 = .ok (.istore 8, 2) := by decide +kernel
theorem dX12_meet_105 : decode cX12_meet 105 = .ok (.iload 8, 2) := by decide +kernel
theorem dX12_meet_107 : decode cX12_meet 107 = .ok (.iconst 3, 1) := by decide +kernel
theorem dX12_meet_108 : decode cX12_meet 108 = .ok (.if_icmp .ge 45, 3) := by decide +kernel
theorem dX12_meet_111 : decode cX12_meet 111 = .ok (.iload 7, 2) := by decide +kernel
theorem dX12_meet_113 : decode cX12_meet 113 = .ok (.aload_n 0, 1) := by decide +kernel
theorem dX12_meet_114 : decode cX12_meet 114 = .ok (.bipush 100, 2) := by decide +kernel
theorem dX12_meet_116 : decode cX12_meet 116 = .ok (.invokevirtual 398, 3) := by decide +kernel
theorem dX12_meet_119 : decode cX12_meet 119 = .ok (.aload_n 0, 1) := by decide +kernel
theorem dX12_meet_120 : decode cX12_meet 120 = .ok (.getfield 363, 3) := by decide +kernel
theorem dX12_meet_123 : decode cX12_meet 123 = .ok (.if_icmp .ge 7, 3) := by decide +kernel
theorem dX12_meet_126 : decode cX12_meet 126 = .ok (.iconst 1, 1) := by decide +kernel
theorem dX12_meet_127 : decode cX12_meet 127 = .ok (.goto 4, 3) := by decide +kernel
theorem dX12_meet_130 : decode cX12_meet 130 = .ok (.iconst 0, 1) := by decide +kernel
theorem dX12_meet_131 : decode cX12_meet 131 = .ok (.iload 6, 2) := by decide +kernel
theorem dX12_meet_133 : decode cX12_meet 133 = .ok (.if_icmp .eq 10, 3) := by decide +kernel
theorem dX12_meet_136 : decode cX12_meet 136 = .ok (.iconst 1, 1) := by decide +kernel
theorem dX12_meet_137 : decode cX12_meet 137 = .ok (.iload 8, 2) := by decide +kernel
theorem dX12_meet_139 : decode cX12_meet 139 = .ok (.ishl, 1) := by decide +kernel
theorem dX12_meet_140 : decode cX12_meet 140 = .ok (.goto 4, 3) := by decide +kernel
theorem dX12_meet_143 : decode cX12_meet 143 = .ok (.iconst 0, 1) := by decide +kernel
theorem dX12_meet_144 : decode cX12_meet 144 = .ok (.ior, 1) := by decide +kernel
theorem dX12_meet_145 : decode cX12_meet 145 = .ok (.istore 7, 2) := by decide +kernel
theorem dX12_meet_147 : decode cX12_meet 147 = .ok (.iinc 8 1, 3) := by decide +kernel
theorem dX12_meet_150 : decode cX12_meet 150 = .ok (.goto (-45), 3) := by decide +kernel
theorem dX12_meet_153 : decode cX12_meet 153 = .ok (.aload_n 0, 1) := by decide +kernel
theorem dX12_meet_154 : decode cX12_meet 154 = .ok (.invokevirtual 379, 3) := by decide +kernel
theorem dX12_meet_157 : decode cX12_meet 157 = .ok (.aload_n 0, 1) := by decide +kernel
theorem dX12_meet_158 : decode cX12_meet 158 = .ok (.aload_n 0, 1) := by decide +kernel
theorem dX12_meet_159 : decode cX12_meet 159 = .ok (.getfield 49, 3) := by decide +kernel
theorem dX12_meet_162 : decode cX12_meet 162 = .ok (.iload 5, 2) := by decide +kernel
theorem dX12_meet_164 : decode cX12_meet 164 = .ok (.iload 7, 2) := by decide +kernel
theorem dX12_meet_166 : decode cX12_meet 166 = .ok (.invokevirtual 382, 3) := by decide +kernel
theorem dX12_meet_169 : decode cX12_meet 169 = .ok (.iinc 4 1, 3) := by decide +kernel
theorem dX12_meet_172 : decode cX12_meet 172 = .ok (.aload_n 0, 1) := by decide +kernel
theorem dX12_meet_173 : decode cX12_meet 173 = .ok (.aload_n 0, 1) := by decide +kernel
theorem dX12_meet_174 : decode cX12_meet 174 = .ok (.getfield 49, 3) := by decide +kernel
theorem dX12_meet_177 : decode cX12_meet 177 = .ok (.invokevirtual 366, 3) := by decide +kernel
theorem dX12_meet_180 : decode cX12_meet 180 = .ok (.istore 5, 2) := by decide +kernel
theorem dX12_meet_182 : decode cX12_meet 182 = .ok (.goto (-133), 3) := by decide +kernel
theorem dX12_meet_185 : decode cX12_meet 185 = .ok (.iload 4, 2) := by decide +kernel
theorem dX12_meet_187 : decode cX12_meet 187 = .ok (.ireturn, 1) := by decide +kernel
theorem dX12_undo_0 : decode cX12_undo 0 = .ok (.aload_n 0, 1) := by decide +kernel
theorem dX12_undo_1 : decode cX12_undo 1 = .ok (.iconst 0, 1) := by decide +kernel
theorem dX12_undo_2 : decode cX12_undo 2 = .ok (.putfield 103, 3) := by decide +kernel
theorem dX12_undo_5 : decode cX12_undo 5 = .ok (.aload_n 0, 1) := by decide +kernel
theorem dX12_undo_6 : decode cX12_undo 6 = .ok (.getfield 281, 3) := by decide +kernel
theorem dX12_undo_9 : decode cX12_undo 9 = .ok (.ifCond .ne 5, 3) := by decide +kernel
theorem dX12_undo_12 : decode cX12_undo 12 = .ok (.iconst (-1), 1) := by decide +kernel
theorem dX12_undo_13 : decode cX12_undo 13 = .ok (.ireturn, 1) := by decide +kernel
theorem dX12_undo_14 : decode cX12_undo 14 = .ok (.aload_n 0, 1) := by decide +kernel
theorem dX12_undo_15 : decode cX12_undo 15 = .ok (.dup, 1) := by decide +kernel
theorem dX12_undo_16 : decode cX12_undo 16 = .ok (.getfield 281, 3) := by decide +kernel
theorem dX12_undo_19 : decode cX12_undo 19 = .ok (.iconst 1, 1) := by decide +kernel
theorem dX12_undo_20 : decode cX12_undo 20 = .ok (.isub, 1) := by decide +kernel
theorem dX12_undo_21 : decode cX12_undo 21 = .ok (.putfield 281, 3) := by decide +kernel
theorem dX12_undo_24 : decode cX12_undo 24 = .ok (.iconst 0, 1) := by decide +kernel
theorem dX12_undo_25 : decode cX12_undo 25 = .ok (.istore_n 1, 1) := by decide +kernel
theorem dX12_undo_26 : decode cX12_undo 26 = .ok (.iload_n 1, 1) := by decide +kernel
theorem dX12_undo_27 : decode cX12_undo 27 = .ok (.sipush 251, 3) := by decide +kernel
theorem dX12_undo_30 : decode cX12_undo 30 = .ok (.if_icmp .ge 30, 3) := by decide +kernel
theorem dX12_undo_33 : decode cX12_undo 33 = .ok (.aload_n 0, 1) := by decide +kernel
theorem dX12_undo_34 : decode cX12_undo 34 = .ok (.getfield 49, 3) := by decide +kernel
theorem dX12_undo_37 : decode cX12_undo 37 = .ok (.iload_n 1, 1) := by decide +kernel
theorem dX12_undo_38 : decode cX12_undo 38 = .ok (.aload_n 0, 1) := by decide +kernel
theorem dX12_undo_39 : decode cX12_undo 39 = .ok (.getfield 69, 3) := by decide +kernel
theorem dX12_undo_42 : decode cX12_undo 42 = .ok (.sipush 251, 3) := by decide +kernel
theorem dX12_undo_45 : decode cX12_undo 45 = .ok (.aload_n 0, 1) := by decide +kernel
theorem dX12_undo_46 : decode cX12_undo 46 = .ok (.getfield 281, 3) := by decide +kernel
theorem dX12_undo_49 : decode cX12_undo 49 = .ok (.imul, 1) := by decide +kernel
theorem dX12_undo_50 : decode cX12_undo 50 = .ok (.iload_n 1, 1) := by decide +kernel
theorem dX12_undo_51 : decode cX12_undo 51 = .ok (.iadd, 1) := by decide +kernel
theorem dX12_undo_52 : decode cX12_undo 52 = .ok (.iaload, 1) := by decide +kernel
theorem dX12_undo_53 : decode cX12_undo 53 = .ok (.iastore, 1) := by decide +kernel
theorem dX12_undo_54 : decode cX12_undo 54 = .ok (.iinc 1 1, 3) := by decide +kernel
theorem dX12_undo_57 : decode cX12_undo 57 = .ok (.goto (-31), 3) := by decide +kernel
theorem dX12_undo_60 : decode cX12_undo 60 = .ok (.aload_n 0, 1) := by decide +kernel
theorem dX12_undo_61 : decode cX12_undo 61 = .ok (.getfield 281, 3) := by decide +kernel
theorem dX12_undo_64 : decode cX12_undo 64 = .ok (.ireturn, 1) := by decide +kernel
theorem dX12_sheet_0 : decode cX12_sheet 0 = .ok (.aload_n 0, 1) := by decide +kernel
theorem dX12_sheet_1 : decode cX12_sheet 1 = .ok (.iconst 0, 1) := by decide +kernel
theorem dX12_sheet_2 : decode cX12_sheet 2 = .ok (.putfield 103, 3) := by decide +kernel
theorem dX12_sheet_5 : decode cX12_sheet 5 = .ok (.iload_n 1, 1) := by decide +kernel
theorem dX12_sheet_6 : decode cX12_sheet 6 = .ok (.i2l, 1) := by decide +kernel
theorem dX12_sheet_7 : decode cX12_sheet 7 = .ok (.lconst 0, 1) := by decide +kernel
theorem dX12_sheet_8 : decode cX12_sheet 8 = .ok (.aload_n 0, 1) := by decide +kernel
theorem dX12_sheet_9 : decode cX12_sheet 9 = .ok (.getfield 49, 3) := by decide +kernel
theorem dX12_sheet_12 : decode cX12_sheet 12 = .ok (.bipush 70, 2) := by decide +kernel
theorem dX12_sheet_14 : decode cX12_sheet 14 = .ok (.iaload, 1) := by decide +kernel
theorem dX12_sheet_15 : decode cX12_sheet 15 = .ok (.iconst 1, 1) := by decide +kernel
theorem dX12_sheet_16 : decode cX12_sheet 16 = .ok (.isub, 1) := by decide +kernel
theorem dX12_sheet_17 : decode cX12_sheet 17 = .ok (.i2l, 1) := by decide +kernel
theorem dX12_sheet_18 : decode cX12_sheet 18 = .ok (.invokestatic 224, 3) := by decide +kernel
theorem dX12_sheet_21 : decode cX12_sheet 21 = .ok (.ifCond .eq 31, 3) := by decide +kernel
theorem dX12_sheet_24 : decode cX12_sheet 24 = .ok (.iload_n 2, 1) := by decide +kernel
theorem dX12_sheet_25 : decode cX12_sheet 25 = .ok (.i2l, 1) := by decide +kernel
theorem dX12_sheet_26 : decode cX12_sheet 26 = .ok (.lconst 0, 1) := by decide +kernel
theorem dX12_sheet_27 : decode cX12_sheet 27 = .ok (.ldc2_w 359, 3) := by decide +kernel
theorem dX12_sheet_30 : decode cX12_sheet 30 = .ok (.invokestatic 224, 3) := by decide +kernel
theorem dX12_sheet_33 : decode cX12_sheet 33 = .ok (.ifCond .eq 19, 3) := by decide +kernel
theorem dX12_sheet_36 : decode cX12_sheet 36 = .ok (.aload_n 0, 1) := by decide +kernel
theorem dX12_sheet_37 : decode cX12_sheet 37 = .ok (.getfield 49, 3) := by decide +kernel
theorem dX12_sheet_40 : decode cX12_sheet 40 = .ok (.bipush 71, 2) := by decide +kernel
theorem dX12_sheet_42 : decode cX12_sheet 42 = .ok (.iconst 5, 1) := by decide +kernel
theorem dX12_sheet_43 : decode cX12_sheet 43 = .ok (.iload_n 1, 1) := by decide +kernel
theorem dX12_sheet_44 : decode cX12_sheet 44 = .ok (.imul, 1) := by decide +kernel
theorem dX12_sheet_45 : decode cX12_sheet 45 = .ok (.iadd, 1) := by decide +kernel
theorem dX12_sheet_46 : decode cX12_sheet 46 = .ok (.iload_n 2, 1) := by decide +kernel
theorem dX12_sheet_47 : decode cX12_sheet 47 = .ok (.iadd, 1) := by decide +kernel
theorem dX12_sheet_48 : decode cX12_sheet 48 = .ok (.iaload, 1) := by decide +kernel
theorem dX12_sheet_49 : decode cX12_sheet 49 = .ok (.goto 4, 3) := by decide +kernel
theorem dX12_sheet_52 : decode cX12_sheet 52 = .ok (.iconst (-1), 1) := by decide +kernel
theorem dX12_sheet_53 : decode cX12_sheet 53 = .ok (.ireturn, 1) := by decide +kernel
theorem dX12_leftIn_0 : decode cX12_leftIn 0 = .ok (.iconst 0, 1) := by decide +kernel
theorem dX12_leftIn_1 : decode cX12_leftIn 1 = .ok (.istore_n 2, 1) := by decide +kernel
theorem dX12_leftIn_2 : decode cX12_leftIn 2 = .ok (.iconst 0, 1) := by decide +kernel
theorem dX12_leftIn_3 : decode cX12_leftIn 3 = .ok (.istore_n 3, 1) := by decide +kernel
theorem dX12_leftIn_4 : decode cX12_leftIn 4 = .ok (.iload_n 3, 1) := by decide +kernel
theorem dX12_leftIn_5 : decode cX12_leftIn 5 = .ok (.aload_n 0, 1) := by decide +kernel
theorem dX12_leftIn_6 : decode cX12_leftIn 6 = .ok (.getfield 278, 3) := by decide +kernel
theorem dX12_leftIn_9 : decode cX12_leftIn 9 = .ok (.if_icmp .ge 88, 3) := by decide +kernel
theorem dX12_leftIn_12 : decode cX12_leftIn 12 = .ok (.bipush 11, 2) := by decide +kernel
theorem dX12_leftIn_14 : decode cX12_leftIn 14 = .ok (.iload_n 3, 1) := by decide +kernel
theorem dX12_leftIn_15 : decode cX12_leftIn 15 = .ok (.imul, 1) := by decide +kernel
theorem dX12_leftIn_16 : decode cX12_leftIn 16 = .ok (.istore 4, 2) := by decide +kernel
theorem dX12_leftIn_18 : decode cX12_leftIn 18 = .ok (.aload_n 0, 1) := by decide +kernel
theorem dX12_leftIn_19 : decode cX12_leftIn 19 = .ok (.aload_n 1, 1) := by decide +kernel
theorem dX12_leftIn_20 : decode cX12_leftIn 20 = .ok (.iload_n 3, 1) := by decide +kernel
theorem dX12_leftIn_21 : decode cX12_leftIn 21 = .ok (.invokevirtual 287, 3) := by decide +kernel
theorem dX12_leftIn_24 : decode cX12_leftIn 24 = .ok (.istore 5, 2) := by decide +kernel
theorem dX12_leftIn_26 : decode cX12_leftIn 26 = .ok (.iload_n 2, 1) := by decide +kernel
theorem dX12_leftIn_27 : decode cX12_leftIn 27 = .ok (.iload 5, 2) := by decide +kernel
theorem dX12_leftIn_29 : decode cX12_leftIn 29 = .ok (.ifCond .eq 19, 3) := by decide +kernel
theorem dX12_leftIn_32 : decode cX12_leftIn 32 = .ok (.aload_n 0, 1) := by decide +kernel
theorem dX12_leftIn_33 : decode cX12_leftIn 33 = .ok (.getfield 43, 3) := by decide +kernel
theorem dX12_leftIn_36 : decode cX12_leftIn 36 = .ok (.iconst 1, 1) := by decide +kernel
theorem dX12_leftIn_37 : decode cX12_leftIn 37 = .ok (.iaload, 1) := by decide +kernel
theorem dX12_leftIn_38 : decode cX12_leftIn 38 = .ok (.aload_n 1, 1) := by decide +kernel
theorem dX12_leftIn_39 : decode cX12_leftIn 39 = .ok (.iload 4, 2) := by decide +kernel
theorem dX12_leftIn_41 : decode cX12_leftIn 41 = .ok (.iconst 1, 1) := by decide +kernel
theorem dX12_leftIn_42 : decode cX12_leftIn 42 = .ok (.iadd, 1) := by decide +kernel
theorem dX12_leftIn_43 : decode cX12_leftIn 43 = .ok (.iaload, 1) := by decide +kernel
theorem dX12_leftIn_44 : decode cX12_leftIn 44 = .ok (.isub, 1) := by decide +kernel
theorem dX12_leftIn_45 : decode cX12_leftIn 45 = .ok (.goto 4, 3) := by decide +kernel
theorem dX12_leftIn_48 : decode cX12_leftIn 48 = .ok (.iconst 0, 1) := by decide +kernel
theorem dX12_leftIn_49 : decode cX12_leftIn 49 = .ok (.iadd, 1) := by decide +kernel
theorem dX12_leftIn_50 : decode cX12_leftIn 50 = .ok (.istore_n 2, 1) := by decide +kernel
theorem dX12_leftIn_51 : decode cX12_leftIn 51 = .ok (.aload_n 1, 1) := by decide +kernel
theorem dX12_leftIn_52 : decode cX12_leftIn 52 = .ok (.bipush 66, 2) := by decide +kernel
theorem dX12_leftIn_54 : decode cX12_leftIn 54 = .ok (.iaload, 1) := by decide +kernel
theorem dX12_leftIn_55 : decode cX12_leftIn 55 = .ok (.ifCond .ne 36, 3) := by decide +kernel
theorem dX12_leftIn_58 : decode cX12_leftIn 58 = .ok (.iload 5, 2) := by decide +kernel
theorem dX12_leftIn_60 : decode cX12_leftIn 60 = .ok (.ifCond .ne 22, 3) := by decide +kernel
theorem dX12_leftIn_63 : decode cX12_leftIn 63 = .ok (.aload_n 1, 1) := by decide +kernel
theorem dX12_leftIn_64 : decode cX12_leftIn 64 = .ok (.iload 4, 2) := by decide +kernel
theorem dX12_leftIn_66 : decode cX12_leftIn 66 = .ok (.iconst 2, 1) := by decide +kernel
theorem dX12_leftIn_67 : decode cX12_leftIn 67 = .ok (.iadd, 1) := by decide +kernel
theorem dX12_leftIn_68 : decode cX12_leftIn 68 = .ok (.iaload, 1) := by decide +kernel
theorem dX12_leftIn_69 : decode cX12_leftIn 69 = .ok (.ifCond .le 22, 3) := by decide +kernel
theorem dX12_leftIn_72 : decode cX12_leftIn 72 = .ok (.aload_n 1, 1) := by decide +kernel
theorem dX12_leftIn_73 : decode cX12_leftIn 73 = .ok (.iload 4, 2) := by decide +kernel
theorem dX12_leftIn_75 : decode cX12_leftIn 75 = .ok (.bipush 6, 2) := by decide +kernel
theorem dX12_leftIn_77 : decode cX12_leftIn 77 = .ok (.iadd, 1) := by decide +kernel
theorem dX12_leftIn_78 : decode cX12_leftIn 78 = .ok (.iaload, 1) := by decide +kernel
