theorem dX11_hopes_62 : decode cX11_hopes 62 = .ok (.iload_n 1, 1) := by decide +kernel
theorem dX11_hopes_63 : decode cX11_hopes 63 = .ok (.aload_n 0, 1) := by decide +kernel
theorem dX11_hopes_64 : decode cX11_hopes 64 = .ok (.getfield 76, 3) := by decide +kernel
theorem dX11_hopes_67 : decode cX11_hopes 67 = .ok (.iload_n 2, 1) := by decide +kernel
theorem dX11_hopes_68 : decode cX11_hopes 68 = .ok (.iconst 1, 1) := by decide +kernel
theorem dX11_hopes_69 : decode cX11_hopes 69 = .ok (.invokevirtual 293, 3) := by decide +kernel
theorem dX11_hopes_72 : decode cX11_hopes 72 = .ok (.ifCond .le 9, 3) := by decide +kernel
theorem dX11_hopes_75 : decode cX11_hopes 75 = .ok (.iconst 1, 1) := by decide +kernel
theorem dX11_hopes_76 : decode cX11_hopes 76 = .ok (.iload_n 2, 1) := by decide +kernel
theorem dX11_hopes_77 : decode cX11_hopes 77 = .ok (.ishl, 1) := by decide +kernel
theorem dX11_hopes_78 : decode cX11_hopes 78 = .ok (.goto 4, 3) := by decide +kernel
theorem dX11_hopes_81 : decode cX11_hopes 81 = .ok (.iconst 0, 1) := by decide +kernel
theorem dX11_hopes_82 : decode cX11_hopes 82 = .ok (.ior, 1) := by decide +kernel
theorem dX11_hopes_83 : decode cX11_hopes 83 = .ok (.istore_n 1, 1) := by decide +kernel
theorem dX11_hopes_84 : decode cX11_hopes 84 = .ok (.iinc 2 1, 3) := by decide +kernel
theorem dX11_hopes_87 : decode cX11_hopes 87 = .ok (.goto (-36), 3) := by decide +kernel
theorem dX11_hopes_90 : decode cX11_hopes 90 = .ok (.iload_n 1, 1) := by decide +kernel
theorem dX11_hopes_91 : decode cX11_hopes 91 = .ok (.ireturn, 1) := by decide +kernel
theorem dX11_advice_0 : decode cX11_advice 0 = .ok (.aload_n 0, 1) := by decide +kernel
theorem dX11_advice_1 : decode cX11_advice 1 = .ok (.iload_n 1, 1) := by decide +kernel
theorem dX11_advice_2 : decode cX11_advice 2 = .ok (.invokevirtual 241, 3) := by decide +kernel
theorem dX11_advice_5 : decode cX11_advice 5 = .ok (.ifCond .eq 22, 3) := by decide +kernel
theorem dX11_advice_8 : decode cX11_advice 8 = .ok (.iload_n 2, 1) := by decide +kernel
theorem dX11_advice_9 : decode cX11_advice 9 = .ok (.invokestatic 299, 3) := by decide +kernel
theorem dX11_advice_12 : decode cX11_advice 12 = .ok (.ifCond .ne 15, 3) := by decide +kernel
theorem dX11_advice_15 : decode cX11_advice 15 = .ok (.aload_n 0, 1) := by decide +kernel
theorem dX11_advice_16 : decode cX11_advice 16 = .ok (.getfield 51, 3) := by decide +kernel
theorem dX11_advice_19 : decode cX11_advice 19 = .ok (.invokevirtual 286, 3) := by decide +kernel
theorem dX11_advice_22 : decode cX11_advice 22 = .ok (.bipush 8, 2) := by decide +kernel
theorem dX11_advice_24 : decode cX11_advice 24 = .ok (.if_icmp .le 6, 3) := by decide +kernel
theorem dX11_advice_27 : decode cX11_advice 27 = .ok (.ldc 218, 2) := by decide +kernel
theorem dX11_advice_29 : decode cX11_advice 29 = .ok (.ireturn, 1) := by decide +kernel
theorem dX11_advice_30 : decode cX11_advice 30 = .ok (.aload_n 0, 1) := by decide +kernel
theorem dX11_advice_31 : decode cX11_advice 31 = .ok (.getfield 51, 3) := by decide +kernel
theorem dX11_advice_34 : decode cX11_advice 34 = .ok (.iload_n 1, 1) := by decide +kernel
theorem dX11_advice_35 : decode cX11_advice 35 = .ok (.invokevirtual 242, 3) := by decide +kernel
theorem dX11_advice_38 : decode cX11_advice 38 = .ok (.istore_n 3, 1) := by decide +kernel
theorem dX11_advice_39 : decode cX11_advice 39 = .ok (.bipush 99, 2) := by decide +kernel
theorem dX11_advice_41 : decode cX11_advice 41 = .ok (.iload_n 3, 1) := by decide +kernel
theorem dX11_advice_42 : decode cX11_advice 42 = .ok (.bipush 10, 2) := by decide +kernel
theorem dX11_advice_44 : decode cX11_advice 44 = .ok (.iadd, 1) := by decide +kernel
theorem dX11_advice_45 : decode cX11_advice 45 = .ok (.iconst 1, 1) := by decide +kernel
theorem dX11_advice_46 : decode cX11_advice 46 = .ok (.isub, 1) := by decide +kernel
theorem dX11_advice_47 : decode cX11_advice 47 = .ok (.invokestatic 302, 3) := by decide +kernel
theorem dX11_advice_50 : decode cX11_advice 50 = .ok (.istore 4, 2) := by decide +kernel
theorem dX11_advice_52 : decode cX11_advice 52 = .ok (.iconst (-1), 1) := by decide +kernel
theorem dX11_advice_53 : decode cX11_advice 53 = .ok (.istore 5, 2) := by decide +kernel
theorem dX11_advice_55 : decode cX11_advice 55 = .ok (.iconst 0, 1) := by decide +kernel
theorem dX11_advice_56 : decode cX11_advice 56 = .ok (.istore 6, 2) := by decide +kernel
theorem dX11_advice_58 : decode cX11_advice 58 = .ok (.iload_n 3, 1) := by decide +kernel
theorem dX11_advice_59 : decode cX11_advice 59 = .ok (.istore 7, 2) := by decide +kernel
theorem dX11_advice_61 : decode cX11_advice 61 = .ok (.iload 7, 2) := by decide +kernel
theorem dX11_advice_63 : decode cX11_advice 63 = .ok (.iload 4, 2) := by decide +kernel
theorem dX11_advice_65 : decode cX11_advice 65 = .ok (.if_icmp .gt 76, 3) := by decide +kernel
theorem dX11_advice_68 : decode cX11_advice 68 = .ok (.aload_n 0, 1) := by decide +kernel
theorem dX11_advice_69 : decode cX11_advice 69 = .ok (.getfield 55, 3) := by decide +kernel
theorem dX11_advice_72 : decode cX11_advice 72 = .ok (.aload_n 0, 1) := by decide +kernel
theorem dX11_advice_73 : decode cX11_advice 73 = .ok (.getfield 51, 3) := by decide +kernel
theorem dX11_advice_76 : decode cX11_advice 76 = .ok (.invokevirtual 280, 3) := by decide +kernel
theorem dX11_advice_79 : decode cX11_advice 79 = .ok (.aload_n 0, 1) := by decide +kernel
theorem dX11_advice_80 : decode cX11_advice 80 = .ok (.getfield 55, 3) := by decide +kernel
theorem dX11_advice_83 : decode cX11_advice 83 = .ok (.iload_n 1, 1) := by decide +kernel
theorem dX11_advice_84 : decode cX11_advice 84 = .ok (.iload 7, 2) := by decide +kernel
theorem dX11_advice_86 : decode cX11_advice 86 = .ok (.invokevirtual 248, 3) := by decide +kernel
theorem dX11_advice_89 : decode cX11_advice 89 = .ok (.aload_n 0, 1) := by decide +kernel
theorem dX11_advice_90 : decode cX11_advice 90 = .ok (.getfield 76, 3) := by decide +kernel
theorem dX11_advice_93 : decode cX11_advice 93 = .ok (.aload_n 0, 1) := by decide +kernel
theorem dX11_advice_94 : decode cX11_advice 94 = .ok (.getfield 55, 3) := by decide +kernel
theorem dX11_advice_97 : decode cX11_advice 97 = .ok (.iconst 1, 1) := by decide +kernel
theorem dX11_advice_98 : decode cX11_advice 98 = .ok (.iload_n 1, 1) := by decide +kernel
theorem dX11_advice_99 : decode cX11_advice 99 = .ok (.ishl, 1) := by decide +kernel
theorem dX11_advice_100 : decode cX11_advice 100 = .ok (.iconst 1, 1) := by decide +kernel
theorem dX11_advice_101 : decode cX11_advice 101 = .ok (.invokevirtual 289, 3) := by decide +kernel
theorem dX11_advice_104 : decode cX11_advice 104 = .ok (.aload_n 0, 1) := by decide +kernel
theorem dX11_advice_105 : decode cX11_advice 105 = .ok (.getfield 76, 3) := by decide +kernel
theorem dX11_advice_108 : decode cX11_advice 108 = .ok (.iload_n 1, 1) := by decide +kernel
theorem dX11_advice_109 : decode cX11_advice 109 = .ok (.invokevirtual 296, 3) := by decide +kernel
theorem dX11_advice_112 : decode cX11_advice 112 = .ok (.istore 8, 2) := by decide +kernel
theorem dX11_advice_114 : decode cX11_advice 114 = .ok (.iload 5, 2) := by decide +kernel
theorem dX11_advice_116 : decode cX11_advice 116 = .ok (.iconst (-1), 1) := by decide +kernel
theorem dX11_advice_117 : decode cX11_advice 117 = .ok (.if_icmp .eq 10, 3) := by decide +kernel
theorem dX11_advice_120 : decode cX11_advice 120 = .ok (.iload 8, 2) := by decide +kernel
theorem dX11_advice_122 : decode cX11_advice 122 = .ok (.iload 6, 2) := by decide +kernel
theorem dX11_advice_124 : decode cX11_advice 124 = .ok (.if_icmp .le 11, 3) := by decide +kernel
theorem dX11_advice_127 : decode cX11_advice 127 = .ok (.iload 7, 2) := by decide +kernel
theorem dX11_advice_129 : decode cX11_advice 129 = .ok (.istore 5, 2) := by decide +kernel
theorem dX11_advice_131 : decode cX11_advice 131 = .ok (.iload 8, 2) := by decide +kernel
theorem dX11_advice_133 : decode cX11_advice 133 = .ok (.istore 6, 2) := by decide +kernel
theorem dX11_advice_135 : decode cX11_advice 135 = .ok (.iinc 7 1, 3) := by decide +kernel
theorem dX11_advice_138 : decode cX11_advice 138 = .ok (.goto (-77), 3) := by decide +kernel
theorem dX11_advice_141 : decode cX11_advice 141 = .ok (.iload_n 2, 1) := by decide +kernel
theorem dX11_advice_142 : decode cX11_advice 142 = .ok (.ifCond .ne 8, 3) := by decide +kernel
theorem dX11_advice_145 : decode cX11_advice 145 = .ok (.iload 5, 2) := by decide +kernel
theorem dX11_advice_147 : decode cX11_advice 147 = .ok (.goto 5, 3) := by decide +kernel
theorem dX11_advice_150 : decode cX11_advice 150 = .ok (.iload 6, 2) := by decide +kernel
theorem dX11_advice_152 : decode cX11_advice 152 = .ok (.ireturn, 1) := by decide +kernel
theorem dX11_rests_0 : decode cX11_rests 0 = .ok (.aload_n 0, 1) := by decide +kernel
theorem dX11_rests_1 : decode cX11_rests 1 = .ok (.getfield 83, 3) := by decide +kernel
theorem dX11_rests_4 : decode cX11_rests 4 = .ok (.aload_n 0, 1) := by decide +kernel
theorem dX11_rests_5 : decode cX11_rests 5 = .ok (.getfield 51, 3) := by decide +kernel
theorem dX11_rests_8 : decode cX11_rests 8 = .ok (.invokevirtual 307, 3) := by decide +kernel
theorem dX11_rests_11 : decode cX11_rests 11 = .ok (.ifCond .ne 6, 3) := by decide +kernel
theorem dX11_rests_14 : decode cX11_rests 14 = .ok (.ldc 218, 2) := by decide +kernel
theorem dX11_rests_16 : decode cX11_rests 16 = .ok (.ireturn, 1) := by decide +kernel
theorem dX11_rests_17 : decode cX11_rests 17 = .ok (.iconst 0, 1) := by decide +kernel
theorem dX11_rests_18 : decode cX11_rests 18 = .ok (.istore_n 2, 1) := by decide +kernel
theorem dX11_rests_19 : decode cX11_rests 19 = .ok (.iload_n 2, 1) := by decide +kernel
theorem dX11_rests_20 : decode cX11_rests 20 = .ok (.aload_n 0, 1) := by decide +kernel
theorem dX11_rests_21 : decode cX11_rests 21 = .ok (.getfield 83, 3) := by decide +kernel
theorem dX11_rests_24 : decode cX11_rests 24 = .ok (.invokevirtual 311, 3) := by decide +kernel
theorem dX11_rests_27 : decode cX11_rests 27 = .ok (.if_icmp .ge 63, 3) := by decide +kernel
theorem dX11_rests_30 : decode cX11_rests 30 = .ok (.aload_n 0, 1) := by decide +kernel
theorem dX11_rests_31 : decode cX11_rests 31 = .ok (.getfield 55, 3) := by decide +kernel
theorem dX11_rests_34 : decode cX11_rests 34 = .ok (.aload_n 0, 1) := by decide +kernel
theorem dX11_rests_35 : decode cX11_rests 35 = .ok (.getfield 51, 3) := by decide +kernel
theorem dX11_rests_38 : decode cX11_rests 38 = .ok (.invokevirtual 280, 3) := by decide +kernel
theorem dX11_rests_41 : decode cX11_rests 41 = .ok (.aload_n 0, 1) := by decide +kernel
theorem dX11_rests_42 : decode cX11_rests 42 = .ok (.getfield 83, 3) := by decide +kernel
theorem dX11_rests_45 : decode cX11_rests 45 = .ok (.iload_n 2, 1) := by decide +kernel
theorem dX11_rests_46 : decode cX11_rests 46 = .ok (.aload_n 0, 1) := by decide +kernel
theorem dX11_rests_47 : decode cX11_rests 47 = .ok (.getfield 55, 3) := by decide +kernel
theorem dX11_rests_50 : decode cX11_rests 50 = .ok (.invokevirtual 314, 3) := by decide +kernel
theorem dX11_rests_53 : decode cX11_rests 53 = .ok (.aload_n 0, 1) := by decide +kernel
theorem dX11_rests_54 : decode cX11_rests 54 = .ok (.getfield 76, 3) := by decide +kernel
theorem dX11_rests_57 : decode cX11_rests 57 = .ok (.aload_n 0, 1) := by decide +kernel
theorem dX11_rests_58 : decode cX11_rests 58 = .ok (.getfield 55, 3) := by decide +kernel
theorem dX11_rests_61 : decode cX11_rests 61 = .ok (.aload_n 0, 1) := by decide +kernel
theorem dX11_rests_62 : decode cX11_rests 62 = .ok (.getfield 83, 3) := by decide +kernel
theorem dX11_rests_65 : decode cX11_rests 65 = .ok (.invokevirtual 317, 3) := by decide +kernel
theorem dX11_rests_68 : decode cX11_rests 68 = .ok (.iconst 1, 1) := by decide +kernel
theorem dX11_rests_69 : decode cX11_rests 69 = .ok (.invokevirtual 289, 3) := by decide +kernel
theorem dX11_rests_72 : decode cX11_rests 72 = .ok (.aload_n 0, 1) := by decide +kernel
theorem dX11_rests_73 : decode cX11_rests 73 = .ok (.getfield 83, 3) := by decide +kernel
theorem dX11_rests_76 : decode cX11_rests 76 = .ok (.iload_n 2, 1) := by decide +kernel
theorem dX11_rests_77 : decode cX11_rests 77 = .ok (.aload_n 0, 1) := by decide +kernel
theorem dX11_rests_78 : decode cX11_rests 78 = .ok (.getfield 76, 3) := by decide +kernel
theorem dX11_rests_81 : decode cX11_rests 81 = .ok (.invokevirtual 320, 3) := by decide +kernel
theorem dX11_rests_84 : decode cX11_rests 84 = .ok (.iinc 2 1, 3) := by decide +kernel
theorem dX11_rests_87 : decode cX11_rests 87 = .ok (.goto (-68), 3) := by decide +kernel
theorem dX11_rests_90 : decode cX11_rests 90 = .ok (.aload_n 0, 1) := by decide +kernel
theorem dX11_rests_91 : decode cX11_rests 91 = .ok (.getfield 83, 3) := by decide +kernel
theorem dX11_rests_94 : decode cX11_rests 94 = .ok (.iload_n 1, 1) := by decide +kernel
theorem dX11_rests_95 : decode cX11_rests 95 = .ok (.invokevirtual 324, 3) := by decide +kernel
theorem dX11_rests_98 : decode cX11_rests 98 = .ok (.ireturn, 1) := by decide +kernel
theorem dX11_alone_0 : decode cX11_alone 0 = .ok (.aload_n 0, 1) := by decide +kernel
theorem dX11_alone_1 : decode cX11_alone 1 = .ok (.iload_n 1, 1) := by decide +kernel
theorem dX11_alone_2 : decode cX11_alone 2 = .ok (.invokevirtual 241, 3) := by decide +kernel
theorem dX11_alone_5 : decode cX11_alone 5 = .ok (.ifCond .eq 10, 3) := by decide +kernel
theorem dX11_alone_8 : decode cX11_alone 8 = .ok (.iload_n 2, 1) := by decide +kernel
theorem dX11_alone_9 : decode cX11_alone 9 = .ok (.invokestatic 299, 3) := by decide +kernel
theorem dX11_alone_12 : decode cX11_alone 12 = .ok (.ifCond .eq 5, 3) := by decide +kernel
theorem dX11_alone_15 : decode cX11_alone 15 = .ok (.iconst (-1), 1) := by decide +kernel
theorem dX11_alone_16 : decode cX11_alone 16 = .ok (.ireturn, 1) := by decide +kernel
theorem dX11_alone_17 : decode cX11_alone 17 = .ok (.aload_n 0, 1) := by decide +kernel
theorem dX11_alone_18 : decode cX11_alone 18 = .ok (.getfield 90, 3) := by decide +kernel
theorem dX11_alone_21 : decode cX11_alone 21 = .ok (.aload_n 0, 1) := by decide +kernel
theorem dX11_alone_22 : decode cX11_alone 22 = .ok (.getfield 51, 3) := by decide +kernel
theorem dX11_alone_25 : decode cX11_alone 25 = .ok (.iload_n 1, 1) := by decide +kernel
theorem dX11_alone_26 : decode cX11_alone 26 = .ok (.invokevirtual 327, 3) := by decide +kernel
theorem dX11_alone_29 : decode cX11_alone 29 = .ok (.iload_n 2, 1) := by decide +kernel
theorem dX11_alone_30 : decode cX11_alone 30 = .ok (.ifCond .ne 13, 3) := by decide +kernel
theorem dX11_alone_33 : decode cX11_alone 33 = .ok (.aload_n 0, 1) := by decide +kernel
theorem dX11_alone_34 : decode cX11_alone 34 = .ok (.getfield 90, 3) := by decide +kernel
theorem dX11_alone_37 : decode cX11_alone 37 = .ok (.getfield 330, 3) := by decide +kernel
theorem dX11_alone_40 : decode cX11_alone 40 = .ok (.goto 10, 3) := by decide +kernel
theorem dX11_alone_43 : decode cX11_alone 43 = .ok (.aload_n 0, 1) := by decide +kernel
theorem dX11_alone_44 : decode cX11_alone 44 = .ok (.getfield 90, 3) := by decide +kernel
theorem dX11_alone_47 : decode cX11_alone 47 = .ok (.getfield 333, 3) := by decide +kernel
theorem dX11_alone_50 : decode cX11_alone 50 = .ok (.ireturn, 1) := by decide +kernel
theorem dX11_empty_0 : decode cX11_empty 0 = .ok (.aload_n 0, 1) := by decide +kernel
theorem dX11_empty_1 : decode cX11_empty 1 = .ok (.iload_n 1, 1) := by decide +kernel
theorem dX11_empty_2 : decode cX11_empty 2 = .ok (.invokevirtual 241, 3) := by decide +kernel
theorem dX11_empty_5 : decode cX11_empty 5 = .ok (.ifCond .eq 18, 3) := by decide +kernel
theorem dX11_empty_8 : decode cX11_empty 8 = .ok (.aload_n 0, 1) := by decide +kernel
theorem dX11_empty_9 : decode cX11_empty 9 = .ok (.getfield 90, 3) := by decide +kernel
theorem dX11_empty_12 : decode cX11_empty 12 = .ok (.aload_n 0, 1) := by decide +kernel
theorem dX11_empty_13 : decode cX11_empty 13 = .ok (.getfield 51, 3) := by decide +kernel
theorem dX11_empty_16 : decode cX11_empty 16 = .ok (.iload_n 1, 1) := by decide +kernel
theorem dX11_empty_17 : decode cX11_empty 17 = .ok (.invokevirtual 336, 3) := by decide +kernel
theorem dX11_empty_20 : decode cX11_empty 20 = .ok (.goto 4, 3) := by decide +kernel
theorem dX11_empty_23 : decode cX11_empty 23 = .ok (.iconst (-1), 1) := by decide +kernel
theorem dX11_empty_24 : decode cX11_empty 24 = .ok (.ireturn, 1) := by decide +kernel
theorem dX11_needs_0 : decode cX11_needs 0 = .ok (.aload_n 0, 1) := by decide +kernel
theorem dX11_needs_1 : decode cX11_needs 1 = .ok (.iload_n 1, 1) := by decide +kernel
theorem dX11_needs_2 : decode cX11_needs 2 = .ok (.invokevirtual 241, 3) := by decide +kernel
theorem dX11_needs_5 : decode cX11_needs 5 = .ok (.ifCond .eq 25, 3) := by decide +kernel
theorem dX11_needs_8 : decode cX11_needs 8 = .ok (.aload_n 0, 1) := by decide +kernel
theorem dX11_needs_9 : decode cX11_needs 9 = .ok (.getfield 51, 3) := by decide +kernel
theorem dX11_needs_12 : decode cX11_needs 12 = .ok (.invokevirtual 219, 3) := by decide +kernel
theorem dX11_needs_15 : decode cX11_needs 15 = .ok (.iconst 1, 1) := by decide +kernel
theorem dX11_needs_16 : decode cX11_needs 16 = .ok (.if_icmp .ne 14, 3) := by decide +kernel
theorem dX11_needs_19 : decode cX11_needs 19 = .ok (.iload_n 2, 1) := by decide +kernel
theorem dX11_needs_20 : decode cX11_needs 20 = .ok (.iconst 1, 1) := by decide +kernel
theorem dX11_needs_21 : decode cX11_needs 21 = .ok (.if_icmp .lt 9, 3) := by decide +kernel
theorem dX11_needs_24 : decode cX11_needs 24 = .ok (.iload_n 2, 1) := by decide +kernel
theorem dX11_needs_25 : decode cX11_needs 25 = .ok (.bipush 6, 2) := by decide +kernel
theorem dX11_needs_27 : decode cX11_needs 27 = .ok (.if_icmp .le 5, 3) := by decide +kernel
theorem dX11_needs_30 : decode cX11_needs 30 = .ok (.iconst (-1), 1) := by decide +kernel
theorem dX11_needs_31 : decode cX11_needs 31 = .ok (.ireturn, 1) := by decide +kernel
theorem dX11_needs_32 : decode cX11_needs 32 = .ok (.aload_n 0, 1) := by decide +kernel
theorem dX11_needs_33 : decode cX11_needs 33 = .ok (.getfield 51, 3) := by decide +kernel
theorem dX11_needs_36 : decode cX11_needs 36 = .ok (.iload_n 1, 1) := by decide +kernel
theorem dX11_needs_37 : decode cX11_needs 37 = .ok (.invokevirtual 242, 3) := by decide +kernel
theorem dX11_needs_40 : decode cX11_needs 40 = .ok (.istore_n 3, 1) := by decide +kernel
theorem dX11_needs_41 : decode cX11_needs 41 = .ok (.iload_n 3, 1) := by decide +kernel
theorem dX11_needs_42 : decode cX11_needs 42 = .ok (.bipush 99, 2) := by decide +kernel
theorem dX11_needs_44 : decode cX11_needs 44 = .ok (.if_icmp .gt 53, 3) := by decide +kernel
theorem dX11_needs_47 : decode cX11_needs 47 = .ok (.aload_n 0, 1) := by decide +kernel
theorem dX11_needs_48 : decode cX11_needs 48 = .ok (.getfield 55, 3) := by decide +kernel
theorem dX11_needs_51 : decode cX11_needs 51 = .ok (.aload_n 0, 1) := by decide +kernel
theorem dX11_needs_52 : decode cX11_needs 52 = .ok (.getfield 51, 3) := by decide +kernel
theorem dX11_needs_55 : decode cX11_needs 55 = .ok (.invokevirtual 280, 3) := by decide +kernel
theorem dX11_needs_58 : decode cX11_needs 58 = .ok (.aload_n 0, 1) := by decide +kernel
theorem dX11_needs_59 : decode cX11_needs 59 = .ok (.getfield 55, 3) := by decide +kernel
theorem dX11_needs_62 : decode cX11_needs 62 = .ok (.iload_n 1, 1) := by decide +kernel
theorem dX11_needs_63 : decode cX11_needs 63 = .ok (.iload_n 3, 1) := by decide +kernel
theorem dX11_needs_64 : decode cX11_needs 64 = .ok (.invokevirtual 248, 3) := by decide +kernel
theorem dX11_needs_67 : decode cX11_needs 67 = .ok (.aload_n 0, 1) := by decide +kernel
theorem dX11_needs_68 : decode cX11_needs 68 = .ok (.getfield 55, 3) := by decide +kernel
theorem dX11_needs_71 : decode cX11_needs 71 = .ok (.iload_n 1, 1) := by decide +kernel
theorem dX11_needs_72 : decode cX11_needs 72 = .ok (.iconst 1, 1) := by decide +kernel
theorem dX11_needs_73 : decode cX11_needs 73 = .ok (.invokevirtual 339, 3) := by decide +kernel
theorem dX11_needs_76 : decode cX11_needs 76 = .ok (.pop, 1) := by decide +kernel
theorem dX11_needs_77 : decode cX11_needs 77 = .ok (.aload_n 0, 1) := by decide +kernel
theorem dX11_needs_78 : decode cX11_needs 78 = .ok (.getfield 55, 3) := by decide +kernel
theorem dX11_needs_81 : decode cX11_needs 81 = .ok (.iload_n 1, 1) := by decide +kernel
theorem dX11_needs_82 : decode cX11_needs 82 = .ok (.invokevirtual 180, 3) := by decide +kernel
theorem dX11_needs_85 : decode cX11_needs 85 = .ok (.iload_n 2, 1) := by decide +kernel
theorem dX11_needs_86 : decode cX11_needs 86 = .ok (.if_icmp .gt 5, 3) := by decide +kernel
theorem dX11_needs_89 : decode cX11_needs 89 = .ok (.iload_n 3, 1) := by decide +kernel
theorem dX11_needs_90 : decode cX11_needs 90 = .ok (.ireturn, 1) := by decide +kernel
theorem dX11_needs_91 : decode cX11_needs 91 = .ok (.iinc 3 1, 3) := by decide +kernel
theorem dX11_needs_94 : decode cX11_needs 94 = .ok (.goto (-53), 3) := by decide +kernel
theorem dX11_needs_97 : decode cX11_needs 97 = .ok (.iconst (-1), 1) := by decide +kernel
theorem dX11_needs_98 : decode cX11_needs 98 = .ok (.ireturn, 1) := by decide +kernel
theorem dX11_waits_0 : decode cX11_waits 0 = .ok (.aload_n 0, 1) := by decide +kernel
theorem dX11_waits_1 : decode cX11_waits 1 = .ok (.iload_n 1, 1) := by decide +kernel
theorem dX11_waits_2 : decode cX11_waits 2 = .ok (.invokevirtual 241, 3) := by decide +kernel
theorem dX11_waits_5 : decode cX11_waits 5 = .ok (.ifCond .ne 5, 3) := by decide +kernel
theorem dX11_waits_8 : decode cX11_waits 8 = .ok (.iconst (-1), 1) := by decide +kernel
theorem dX11_waits_9 : decode cX11_waits 9 = .ok (.ireturn, 1) := by decide +kernel
theorem dX11_waits_10 : decode cX11_waits 10 = .ok (.aload_n 0, 1) := by decide +kernel
theorem dX11_waits_11 : decode cX11_waits 11 = .ok (.getfield 55, 3) := by decide +kernel
theorem dX11_waits_14 : decode cX11_waits 14 = .ok (.aload_n 0, 1) := by decide +kernel
theorem dX11_waits_15 : decode cX11_waits 15 = .ok (.getfield 51, 3) := by decide +kernel
theorem dX11_waits_18 : decode cX11_waits 18 = .ok (.invokevirtual 280, 3) := by decide +kernel
theorem dX11_waits_21 : decode cX11_waits 21 = .ok (.iconst 0, 1) := by decide +kernel
theorem dX11_waits_22 : decode cX11_waits 22 = .ok (.istore_n 2, 1) := by decide +kernel
theorem dX11_waits_23 : decode cX11_waits 23 = .ok (.iconst 0, 1) := by decide +kernel
theorem dX11_waits_24 : decode cX11_waits 24 = .ok (.istore_n 3, 1) := by decide +kernel
theorem dX11_waits_25 : decode cX11_waits 25 = .ok (.iload_n 3, 1) := by decide +kernel
theorem dX11_waits_26 : decode cX11_waits 26 = .ok (.bipush 36, 2) := by decide +kernel
theorem dX11_waits_28 : decode cX11_waits 28 = .ok (.if_icmp .ge 47, 3) := by decide +kernel
theorem dX11_waits_31 : decode cX11_waits 31 = .ok (.aload_n 0, 1) := by decide +kernel
theorem dX11_waits_32 : decode cX11_waits 32 = .ok (.getfield 55, 3) := by decide +kernel
theorem dX11_waits_35 : decode cX11_waits 35 = .ok (.invokevirtual 203, 3) := by decide +kernel
theorem dX11_waits_38 : decode cX11_waits 38 = .ok (.istore 4, 2) := by decide +kernel
theorem dX11_waits_40 : decode cX11_waits 40 = .ok (.iload 4, 2) := by decide +kernel
theorem dX11_waits_42 : decode cX11_waits 42 = .ok (.iload_n 1, 1) := by decide +kernel
theorem dX11_waits_43 : decode cX11_waits 43 = .ok (.if_icmp .eq 32, 3) := by decide +kernel
theorem dX11_waits_46 : decode cX11_waits 46 = .ok (.iload 4, 2) := by decide +kernel
theorem dX11_waits_48 : decode cX11_waits 48 = .ok (.iconst (-1), 1) := by decide +kernel
theorem dX11_waits_49 : decode cX11_waits 49 = .ok (.if_icmp .ne 6, 3) := by decide +kernel
theorem dX11_waits_52 : decode cX11_waits 52 = .ok (.goto 23, 3) := by decide +kernel
theorem dX11_waits_55 : decode cX11_waits 55 = .ok (.aload_n 0, 1) := by decide +kernel
theorem dX11_waits_56 : decode cX11_waits 56 = .ok (.getfield 55, 3) := by decide +kernel
theorem dX11_waits_59 : decode cX11_waits 59 = .ok (.iload 4, 2) := by decide +kernel
theorem dX11_waits_61 : decode cX11_waits 61 = .ok (.iconst 1, 1) := by decide +kernel
theorem dX11_waits_62 : decode cX11_waits 62 = .ok (.invokevirtual 339, 3) := by decide +kernel
theorem dX11_waits_65 : decode cX11_waits 65 = .ok (.pop, 1) := by decide +kernel
theorem dX11_waits_66 : decode cX11_waits 66 = .ok (.iinc 2 1, 3) := by decide +kernel
theorem dX11_waits_69 : decode cX11_waits 69 = .ok (.iinc 3 1, 3) := by decide +kernel
theorem dX11_waits_72 : decode cX11_waits 72 = .ok (.goto (-47), 3) := by decide +kernel
theorem dX11_waits_75 : decode cX11_waits 75 = .ok (.iload_n 2, 1) := by decide +kernel
theorem dX11_waits_76 : decode cX11_waits 76 = .ok (.ireturn, 1) := by decide +kernel
theorem dX11_colder_0 : decode cX11_colder 0 = .ok (.aload_n 0, 1) := by decide +kernel
theorem dX11_colder_1 : decode cX11_colder 1 = .ok (.iload_n 1, 1) := by decide +kernel
theorem dX11_colder_2 : decode cX11_colder 2 = .ok (.invokevirtual 241, 3) := by decide +kernel
theorem dX11_colder_5 : decode cX11_colder 5 = .ok (.ifCond .eq 13, 3) := by decide +kernel
theorem dX11_colder_8 : decode cX11_colder 8 = .ok (.iload_n 2, 1) := by decide +kernel
theorem dX11_colder_9 : decode cX11_colder 9 = .ok (.ifCond .lt 9, 3) := by decide +kernel
theorem dX11_colder_12 : decode cX11_colder 12 = .ok (.iload_n 2, 1) := by decide +kernel
theorem dX11_colder_13 : decode cX11_colder 13 = .ok (.bipush 30, 2) := by decide +kernel
theorem dX11_colder_15 : decode cX11_colder 15 = .ok (.if_icmp .le 6, 3) := by decide +kernel
theorem dX11_colder_18 : decode cX11_colder 18 = .ok (.ldc 218, 2) := by decide +kernel
theorem dX11_colder_20 : decode cX11_colder 20 = .ok (.ireturn, 1) := by decide +kernel
theorem dX11_colder_21 : decode cX11_colder 21 = .ok (.aload_n 0, 1) := by decide +kernel
theorem dX11_colder_22 : decode cX11_colder 22 = .ok (.getfield 51, 3) := by decide +kernel
theorem dX11_colder_25 : decode cX11_colder 25 = .ok (.iconst 5, 1) := by decide +kernel
theorem dX11_colder_26 : decode cX11_colder 26 = .ok (.iload_n 1, 1) := by decide +kernel
theorem dX11_colder_27 : decode cX11_colder 27 = .ok (.invokevirtual 170, 3) := by decide +kernel
theorem dX11_colder_30 : decode cX11_colder 30 = .ok (.istore_n 3, 1) := by decide +kernel
theorem dX11_colder_31 : decode cX11_colder 31 = .ok (.aload_n 0, 1) := by decide +kernel
theorem dX11_colder_32 : decode cX11_colder 32 = .ok (.getfield 97, 3) := by decide +kernel
theorem dX11_colder_35 : decode cX11_colder 35 = .ok (.aload_n 0, 1) := by decide +kernel
theorem dX11_colder_36 : decode cX11_colder 36 = .ok (.getfield 51, 3) := by decide +kernel
theorem dX11_colder_39 : decode cX11_colder 39 = .ok (.iload_n 1, 1) := by decide +kernel
theorem dX11_colder_40 : decode cX11_colder 40 = .ok (.invokevirtual 206, 3) := by decide +kernel
theorem dX11_colder_43 : decode cX11_colder 43 = .ok (.aload_n 0, 1) := by decide +kernel
theorem dX11_colder_44 : decode cX11_colder 44 = .ok (.getfield 44, 3) := by decide +kernel
theorem dX11_colder_47 : decode cX11_colder 47 = .ok (.aload_n 0, 1) := by decide +kernel
theorem dX11_colder_48 : decode cX11_colder 48 = .ok (.getfield 97, 3) := by decide +kernel
theorem dX11_colder_51 : decode cX11_colder 51 = .ok (.iload_n 3, 1) := by decide +kernel
theorem dX11_colder_52 : decode cX11_colder 52 = .ok (.invokevirtual 210, 3) := by decide +kernel
theorem dX11_colder_55 : decode cX11_colder 55 = .ok (.istore 4, 2) := by decide +kernel
theorem dX11_colder_57 : decode cX11_colder 57 = .ok (.aload_n 0, 1) := by decide +kernel
theorem dX11_colder_58 : decode cX11_colder 58 = .ok (.getfield 97, 3) := by decide +kernel
theorem dX11_colder_61 : decode cX11_colder 61 = .ok (.dup, 1) := by decide +kernel
theorem dX11_colder_62 : decode cX11_colder 62 = .ok (.getfield 343, 3) := by decide +kernel
theorem dX11_colder_65 : decode cX11_colder 65 = .ok (.iload_n 2, 1) := by decide +kernel
theorem dX11_colder_66 : decode cX11_colder 66 = .ok (.iadd, 1) := by decide +kernel
theorem dX11_colder_67 : decode cX11_colder 67 = .ok (.putfield 343, 3) := by decide +kernel
theorem dX11_colder_70 : decode cX11_colder 70 = .ok (.iload 4, 2) := by decide +kernel
theorem dX11_colder_72 : decode cX11_colder 72 = .ok (.aload_n 0, 1) := by decide +kernel
theorem dX11_colder_73 : decode cX11_colder 73 = .ok (.getfield 44, 3) := by decide +kernel
theorem dX11_colder_76 : decode cX11_colder 76 = .ok (.aload_n 0, 1) := by decide +kernel
theorem dX11_colder_77 : decode cX11_colder 77 = .ok (.getfield 97, 3) := by decide +kernel
theorem dX11_colder_80 : decode cX11_colder 80 = .ok (.iload_n 3, 1) := by decide +kernel
theorem dX11_colder_81 : decode cX11_colder 81 = .ok (.invokevirtual 210, 3) := by decide +kernel
theorem dX11_colder_84 : decode cX11_colder 84 = .ok (.isub, 1) := by decide +kernel
theorem dX11_colder_85 : decode cX11_colder 85 = .ok (.ireturn, 1) := by decide +kernel
theorem dX11_ready_0 : decode cX11_ready 0 = .ok (.aload_n 0, 1) := by decide +kernel
theorem dX11_ready_1 : decode cX11_ready 1 = .ok (.iload_n 1, 1) := by decide +kernel
theorem dX11_ready_2 : decode cX11_ready 2 = .ok (.invokevirtual 241, 3) := by decide +kernel
theorem dX11_ready_5 : decode cX11_ready 5 = .ok (.ifCond .eq 10, 3) := by decide +kernel
theorem dX11_ready_8 : decode cX11_ready 8 = .ok (.iload_n 2, 1) := by decide +kernel
theorem dX11_ready_9 : decode cX11_ready 9 = .ok (.invokestatic 299, 3) := by decide +kernel
theorem dX11_ready_12 : decode cX11_ready 12 = .ok (.ifCond .eq 5, 3) := by decide +kernel
theorem dX11_ready_15 : decode cX11_ready 15 = .ok (.iconst (-1), 1) := by decide +kernel
theorem dX11_ready_16 : decode cX11_ready 16 = .ok (.ireturn, 1) := by decide +kernel
theorem dX11_ready_17 : decode cX11_ready 17 = .ok (.aload_n 0, 1) := by decide +kernel
theorem dX11_ready_18 : decode cX11_ready 18 = .ok (.getfield 51, 3) := by decide +kernel
theorem dX11_ready_21 : decode cX11_ready 21 = .ok (.iconst 5, 1) := by decide +kernel
theorem dX11_ready_22 : decode cX11_ready 22 = .ok (.iload_n 1, 1) := by decide +kernel
theorem dX11_ready_23 : decode cX11_ready 23 = .ok (.invokevirtual 170, 3) := by decide +kernel
theorem dX11_ready_26 : decode cX11_ready 26 = .ok (.istore_n 3, 1) := by decide +kernel
theorem dX11_ready_27 : decode cX11_ready 27 = .ok (.aload_n 0, 1) := by decide +kernel
theorem dX11_ready_28 : decode cX11_ready 28 = .ok (.getfield 97, 3) := by decide +kernel
theorem dX11_ready_31 : decode cX11_ready 31 = .ok (.aload_n 0, 1) := by decide +kernel
theorem dX11_ready_32 : decode cX11_ready 32 = .ok (.getfield 51, 3) := by decide +kernel
theorem dX11_ready_35 : decode cX11_ready 35 = .ok (.iload_n 1, 1) := by decide +kernel
theorem dX11_ready_36 : decode cX11_ready 36 = .ok (.invokevirtual 206, 3) := by decide +kernel
theorem dX11_ready_39 : decode cX11_ready 39 = .ok (.iconst 0, 1) := by decide +kernel
theorem dX11_ready_40 : decode cX11_ready 40 = .ok (.istore 4, 2) := by decide +kernel
theorem dX11_ready_42 : decode cX11_ready 42 = .ok (.aload_n 0, 1) := by decide +kernel
theorem dX11_ready_43 : decode cX11_ready 43 = .ok (.getfield 44, 3) := by decide +kernel
theorem dX11_ready_46 : decode cX11_ready 46 = .ok (.aload_n 0, 1) := by decide +kernel
theorem dX11_ready_47 : decode cX11_ready 47 = .ok (.getfield 97, 3) := by decide +kernel
theorem dX11_ready_50 : decode cX11_ready 50 = .ok (.iload_n 3, 1) := by decide +kernel
theorem dX11_ready_51 : decode cX11_ready 51 = .ok (.invokevirtual 210, 3) := by decide +kernel
theorem dX11_ready_54 : decode cX11_ready 54 = .ok (.istore 5, 2) := by decide +kernel
theorem dX11_ready_56 : decode cX11_ready 56 = .ok (.iconst 1, 1) := by decide +kernel
theorem dX11_ready_57 : decode cX11_ready 57 = .ok (.istore 6, 2) := by decide +kernel
theorem dX11_ready_59 : decode cX11_ready 59 = .ok (.iload 6, 2) := by decide +kernel
theorem dX11_ready_61 : decode cX11_ready 61 = .ok (.bipush 9, 2) := by decide +kernel
theorem dX11_ready_63 : decode cX11_ready 63 = .ok (.if_icmp .gt 45, 3) := by decide +kernel
theorem dX11_ready_66 : decode cX11_ready 66 = .ok (.aload_n 0, 1) := by decide +kernel
theorem dX11_ready_67 : decode cX11_ready 67 = .ok (.getfield 97, 3) := by decide +kernel
theorem dX11_ready_70 : decode cX11_ready 70 = .ok (.invokevirtual 345, 3) := by decide +kernel
theorem dX11_ready_73 : decode cX11_ready 73 = .ok (.aload_n 0, 1) := by decide +kernel
theorem dX11_ready_74 : decode cX11_ready 74 = .ok (.getfield 44, 3) := by decide +kernel
theorem dX11_ready_77 : decode cX11_ready 77 = .ok (.aload_n 0, 1) := by decide +kernel
theorem dX11_ready_78 : decode cX11_ready 78 = .ok (.getfield 97, 3) := by decide +kernel
theorem dX11_ready_81 : decode cX11_ready 81 = .ok (.iload_n 3, 1) := by decide +kernel
theorem dX11_ready_82 : decode cX11_ready 82 = .ok (.invokevirtual 210, 3) := by decide +kernel
theorem dX11_ready_85 : decode cX11_ready 85 = .ok (.istore 7, 2) := by decide +kernel
theorem dX11_ready_87 : decode cX11_ready 87 = .ok (.iload 7, 2) := by decide +kernel
theorem dX11_ready_89 : decode cX11_ready 89 = .ok (.iload 5, 2) := by decide +kernel
theorem dX11_ready_91 : decode cX11_ready 91 = .ok (.if_icmp .le 11, 3) := by decide +kernel
theorem dX11_ready_94 : decode cX11_ready 94 = .ok (.iload 6, 2) := by decide +kernel
theorem dX11_ready_96 : decode cX11_ready 96 = .ok (.istore 4, 2) := by decide +kernel
theorem dX11_ready_98 : decode cX11_ready 98 = .ok (.iload 7, 2) := by decide +kernel
theorem dX11_ready_100 : decode cX11_ready 100 = .ok (.istore 5, 2) := by decide +kernel
theorem dX11_ready_102 : decode cX11_ready 102 = .ok (.iinc 6 1, 3) := by decide +kernel
theorem dX11_ready_105 : decode cX11_ready 105 = .ok (.goto (-46), 3) := by decide +kernel
theorem dX11_ready_108 : decode cX11_ready 108 = .ok (.iload_n 2, 1) := by decide +kernel
theorem dX11_ready_109 : decode cX11_ready 109 = .ok (.ifCond .ne 8, 3) := by decide +kernel
theorem dX11_ready_112 : decode cX11_ready 112 = .ok (.iload 4, 2) := by decide +kernel
theorem dX11_ready_114 : decode cX11_ready 114 = .ok (.goto 5, 3) := by decide +kernel
theorem dX11_ready_117 : decode cX11_ready 117 = .ok (.iload 5, 2) := by decide +kernel
theorem dX11_ready_119 : decode cX11_ready 119 = .ok (.ireturn, 1) := by decide +kernel
theorem dX11_yields_0 : decode cX11_yields 0 = .ok (.aload_n 0, 1) := by decide +kernel
theorem dX11_yields_1 : decode cX11_yields 1 = .ok (.iload_n 1, 1) := by decide +kernel
theorem dX11_yields_2 : decode cX11_yields 2 = .ok (.invokevirtual 241, 3) := by decide +kernel
theorem dX11_yields_5 : decode cX11_yields 5 = .ok (.ifCond .eq 16, 3) := by decide +kernel
theorem dX11_yields_8 : decode cX11_yields 8 = .ok (.aload_n 0, 1) := by decide +kernel
theorem dX11_yields_9 : decode cX11_yields 9 = .ok (.iload_n 2, 1) := by decide +kernel
theorem dX11_yields_10 : decode cX11_yields 10 = .ok (.invokevirtual 241, 3) := by decide +kernel
theorem dX11_yields_13 : decode cX11_yields 13 = .ok (.ifCond .eq 8, 3) := by decide +kernel
theorem dX11_yields_16 : decode cX11_yields 16 = .ok (.iload_n 1, 1) := by decide +kernel
theorem dX11_yields_17 : decode cX11_yields 17 = .ok (.iload_n 2, 1) := by decide +kernel
theorem dX11_yields_18 : decode cX11_yields 18 = .ok (.if_icmp .ne 5, 3) := by decide +kernel
theorem dX11_yields_21 : decode cX11_yields 21 = .ok (.iconst (-1), 1) := by decide +kernel
theorem dX11_yields_22 : decode cX11_yields 22 = .ok (.ireturn, 1) := by decide +kernel
theorem dX11_yields_23 : decode cX11_yields 23 = .ok (.aload_n 0, 1) := by decide +kernel
theorem dX11_yields_24 : decode cX11_yields 24 = .ok (.getfield 55, 3) := by decide +kernel
theorem dX11_yields_27 : decode cX11_yields 27 = .ok (.aload_n 0, 1) := by decide +kernel
theorem dX11_yields_28 : decode cX11_yields 28 = .ok (.getfield 51, 3) := by decide +kernel
theorem dX11_yields_31 : decode cX11_yields 31 = .ok (.invokevirtual 280, 3) := by decide +kernel
theorem dX11_yields_34 : decode cX11_yields 34 = .ok (.aload_n 0, 1) := by decide +kernel
theorem dX11_yields_35 : decode cX11_yields 35 = .ok (.getfield 51, 3) := by decide +kernel
theorem dX11_yields_38 : decode cX11_yields 38 = .ok (.iload_n 1, 1) := by decide +kernel
theorem dX11_yields_39 : decode cX11_yields 39 = .ok (.invokevirtual 242, 3) := by decide +kernel
theorem dX11_yields_42 : decode cX11_yields 42 = .ok (.istore_n 3, 1) := by decide +kernel
theorem dX11_yields_43 : decode cX11_yields 43 = .ok (.iload_n 3, 1) := by decide +kernel
theorem dX11_yields_44 : decode cX11_yields 44 = .ok (.bipush 99, 2) := by decide +kernel
theorem dX11_yields_46 : decode cX11_yields 46 = .ok (.if_icmp .gt 32, 3) := by decide +kernel
theorem dX11_yields_49 : decode cX11_yields 49 = .ok (.aload_n 0, 1) := by decide +kernel
theorem dX11_yields_50 : decode cX11_yields 50 = .ok (.getfield 55, 3) := by decide +kernel
theorem dX11_yields_53 : decode cX11_yields 53 = .ok (.iload_n 1, 1) := by decide +kernel
theorem dX11_yields_54 : decode cX11_yields 54 = .ok (.iload_n 3, 1) := by decide +kernel
theorem dX11_yields_55 : decode cX11_yields 55 = .ok (.invokevirtual 248, 3) := by decide +kernel
theorem dX11_yields_58 : decode cX11_yields 58 = .ok (.aload_n 0, 1) := by decide +kernel
theorem dX11_yields_59 : decode cX11_yields 59 = .ok (.getfield 55, 3) := by decide +kernel
theorem dX11_yields_62 : decode cX11_yields 62 = .ok (.iload_n 2, 1) := by decide +kernel
theorem dX11_yields_63 : decode cX11_yields 63 = .ok (.iload_n 1, 1) := by decide +kernel
theorem dX11_yields_64 : decode cX11_yields 64 = .ok (.invokevirtual 347, 3) := by decide +kernel
theorem dX11_yields_67 : decode cX11_yields 67 = .ok (.ifCond .eq 5, 3) := by decide +kernel
theorem dX11_yields_70 : decode cX11_yields 70 = .ok (.iload_n 3, 1) := by decide +kernel
theorem dX11_yields_71 : decode cX11_yields 71 = .ok (.ireturn, 1) := by decide +kernel
theorem dX11_yields_72 : decode cX11_yields 72 = .ok (.iinc 3 1, 3) := by decide +kernel
theorem dX11_yields_75 : decode cX11_yields 75 = .ok (.goto (-32), 3) := by decide +kernel
theorem dX11_yields_78 : decode cX11_yields 78 = .ok (.iconst (-1), 1) := by decide +kernel
theorem dX11_yields_79 : decode cX11_yields 79 = .ok (.ireturn, 1) := by decide +kernel
theorem dX11_sheet_0 : decode cX11_sheet 0 = .ok (.iload_n 1, 1) := by decide +kernel
theorem dX11_sheet_1 : decode cX11_sheet 1 = .ok (.ifCond .lt 14, 3) := by decide +kernel
theorem dX11_sheet_4 : decode cX11_sheet 4 = .ok (.iload_n 1, 1) := by decide +kernel
theorem dX11_sheet_5 : decode cX11_sheet 5 = .ok (.aload_n 0, 1) := by decide +kernel
theorem dX11_sheet_6 : decode cX11_sheet 6 = .ok (.getfield 61, 3) := by decide +kernel
theorem dX11_sheet_9 : decode cX11_sheet 9 = .ok (.getfield 146, 3) := by decide +kernel
theorem dX11_sheet_12 : decode cX11_sheet 12 = .ok (.if_icmp .lt 5, 3) := by decide +kernel
theorem dX11_sheet_15 : decode cX11_sheet 15 = .ok (.iconst (-1), 1) := by decide +kernel
theorem dX11_sheet_16 : decode cX11_sheet 16 = .ok (.ireturn, 1) := by decide +kernel
theorem dX11_sheet_17 : decode cX11_sheet 17 = .ok (.iload_n 2, 1) := by decide +kernel
theorem dX11_sheet_18 : decode cX11_sheet 18 = .ok (.tableswitch 70 0 3 #[30, 40, 50, 60], 30) := by decide +kernel
theorem dX11_sheet_48 : decode cX11_sheet 48 = .ok (.aload_n 0, 1) := by decide +kernel
theorem dX11_sheet_49 : decode cX11_sheet 49 = .ok (.getfield 61, 3) := by decide +kernel
theorem dX11_sheet_52 : decode cX11_sheet 52 = .ok (.getfield 351, 3) := by decide +kernel
theorem dX11_sheet_55 : decode cX11_sheet 55 = .ok (.iload_n 1, 1) := by decide +kernel
theorem dX11_sheet_56 : decode cX11_sheet 56 = .ok (.iaload, 1) := by decide +kernel
theorem dX11_sheet_57 : decode cX11_sheet 57 = .ok (.ireturn, 1) := by decide +kernel
theorem dX11_sheet_58 : decode cX11_sheet 58 = .ok (.aload_n 0, 1) := by decide +kernel
theorem dX11_sheet_59 : decode cX11_sheet 59 = .ok (.getfield 61, 3) := by decide +kernel
theorem dX11_sheet_62 : decode cX11_sheet 62 = .ok (.getfield 354, 3) := by decide +kernel
theorem dX11_sheet_65 : decode cX11_sheet 65 = .ok (.iload_n 1, 1) := by decide +kernel
theorem dX11_sheet_66 : decode cX11_sheet 66 = .ok (.iaload, 1) := by decide +kernel
theorem dX11_sheet_67 : decode cX11_sheet 67 = .ok (.ireturn, 1) := by decide +kernel
theorem dX11_sheet_68 : decode cX11_sheet 68 = .ok (.aload_n 0, 1) := by decide +kernel
theorem dX11_sheet_69 : decode cX11_sheet 69 = .ok (.getfield 61, 3) := by decide +kernel
theorem dX11_sheet_72 : decode cX11_sheet 72 = .ok (.getfield 356, 3) := by decide +kernel
theorem dX11_sheet_75 : decode cX11_sheet 75 = .ok (.iload_n 1, 1) := by decide +kernel
theorem dX11_sheet_76 : decode cX11_sheet 76 = .ok (.iaload, 1) := by decide +kernel
theorem dX11_sheet_77 : decode cX11_sheet 77 = .ok (.ireturn, 1) := by decide +kernel
theorem dX11_sheet_78 : decode cX11_sheet 78 = .ok (.aload_n 0, 1) := by decide +kernel
theorem dX11_sheet_79 : decode cX11_sheet 79 = .ok (.getfield 61, 3) := by decide +kernel
theorem dX11_sheet_82 : decode cX11_sheet 82 = .ok (.getfield 359, 3) := by decide +kernel
theorem dX11_sheet_85 : decode cX11_sheet 85 = .ok (.iload_n 1, 1) := by decide +kernel
theorem dX11_sheet_86 : decode cX11_sheet 86 = .ok (.iaload, 1) := by decide +kernel
theorem dX11_sheet_87 : decode cX11_sheet 87 = .ok (.ireturn, 1) := by decide +kernel
theorem dX11_sheet_88 : decode cX11_sheet 88 = .ok (.iconst (-1), 1) := by decide +kernel
theorem dX11_sheet_89 : decode cX11_sheet 89 = .ok (.ireturn, 1) := by decide +kernel
theorem dX11_much_0 : decode cX11_much 0 = .ok (.aload_n 0, 1) := by decide +kernel
theorem dX11_much_1 : decode cX11_much 1 = .ok (.iload_n 1, 1) := by decide +kernel
theorem dX11_much_2 : decode cX11_much 2 = .ok (.invokevirtual 155, 3) := by decide +kernel
theorem dX11_much_5 : decode cX11_much 5 = .ok (.ifCond .eq 31, 3) := by decide +kernel
theorem dX11_much_8 : decode cX11_much 8 = .ok (.iload_n 2, 1) := by decide +kernel
theorem dX11_much_9 : decode cX11_much 9 = .ok (.invokestatic 299, 3) := by decide +kernel
theorem dX11_much_12 : decode cX11_much 12 = .ok (.ifCond .ne 24, 3) := by decide +kernel
theorem dX11_much_15 : decode cX11_much 15 = .ok (.iload_n 3, 1) := by decide +kernel
theorem dX11_much_16 : decode cX11_much 16 = .ok (.ifCond .lt 20, 3) := by decide +kernel
theorem dX11_much_19 : decode cX11_much 19 = .ok (.iload_n 3, 1) := by decide +kernel
theorem dX11_much_20 : decode cX11_much 20 = .ok (.bipush 20, 2) := by decide +kernel
theorem dX11_much_22 : decode cX11_much 22 = .ok (.if_icmp .gt 14, 3) := by decide +kernel
theorem dX11_much_25 : decode cX11_much 25 = .ok (.iload 4, 2) := by decide +kernel
theorem dX11_much_27 : decode cX11_much 27 = .ok (.ifCond .lt 9, 3) := by decide +kernel
theorem dX11_much_30 : decode cX11_much 30 = .ok (.iload 4, 2) := by decide +kernel
theorem dX11_much_32 : decode cX11_much 32 = .ok (.iconst 2, 1) := by decide +kernel
theorem dX11_much_33 : decode cX11_much 33 = .ok (.if_icmp .le 6, 3) := by decide +kernel
theorem dX11_much_36 : decode cX11_much 36 = .ok (.ldc 218, 2) := by decide +kernel
theorem dX11_much_38 : decode cX11_much 38 = .ok (.ireturn, 1) := by decide +kernel
theorem dX11_much_39 : decode cX11_much 39 = .ok (.iconst 0, 1) := by decide +kernel
theorem dX11_much_40 : decode cX11_much 40 = .ok (.aload_n 0, 1) := by decide +kernel
theorem dX11_much_41 : decode cX11_much 41 = .ok (.getfield 61, 3) := by decide +kernel
theorem dX11_much_44 : decode cX11_much 44 = .ok (.iload_n 1, 1) := by decide +kernel
theorem dX11_much_45 : decode cX11_much 45 = .ok (.iload_n 2, 1) := by decide +kernel
theorem dX11_much_46 : decode cX11_much 46 = .ok (.invokevirtual 361, 3) := by decide +kernel
theorem dX11_much_49 : decode cX11_much 49 = .ok (.iload_n 3, 1) := by decide +kernel
theorem dX11_much_50 : decode cX11_much 50 = .ok (.isub, 1) := by decide +kernel
theorem dX11_much_51 : decode cX11_much 51 = .ok (.invokestatic 364, 3) := by decide +kernel
theorem dX11_much_54 : decode cX11_much 54 = .ok (.istore 5, 2) := by decide +kernel
theorem dX11_much_56 : decode cX11_much 56 = .ok (.bipush 120, 2) := by decide +kernel
theorem dX11_much_58 : decode cX11_much 58 = .ok (.aload_n 0, 1) := by decide +kernel
theorem dX11_much_59 : decode cX11_much 59 = .ok (.getfield 61, 3) := by decide +kernel
theorem dX11_much_62 : decode cX11_much 62 = .ok (.iload_n 1, 1) := by decide +kernel
theorem dX11_much_63 : decode cX11_much 63 = .ok (.iload_n 2, 1) := by decide +kernel
theorem dX11_much_64 : decode cX11_much 64 = .ok (.invokevirtual 367, 3) := by decide +kernel
theorem dX11_much_67 : decode cX11_much 67 = .ok (.iload_n 3, 1) := by decide +kernel
theorem dX11_much_68 : decode cX11_much 68 = .ok (.iadd, 1) := by decide +kernel
theorem dX11_much_69 : decode cX11_much 69 = .ok (.invokestatic 302, 3) := by decide +kernel
theorem dX11_much_72 : decode cX11_much 72 = .ok (.istore 6, 2) := by decide +kernel
theorem dX11_much_74 : decode cX11_much 74 = .ok (.iload 4, 2) := by decide +kernel
theorem dX11_much_76 : decode cX11_much 76 = .ok (.ifCond .ne 15, 3) := by decide +kernel
theorem dX11_much_79 : decode cX11_much 79 = .ok (.iconst 0, 1) := by decide +kernel
theorem dX11_much_80 : decode cX11_much 80 = .ok (.iload 6, 2) := by decide +kernel
theorem dX11_much_82 : decode cX11_much 82 = .ok (.iload 5, 2) := by decide +kernel
theorem dX11_much_84 : decode cX11_much 84 = .ok (.isub, 1) := by decide +kernel
theorem dX11_much_85 : decode cX11_much 85 = .ok (.iconst 1, 1) := by decide +kernel
theorem dX11_much_86 : decode cX11_much 86 = .ok (.iadd, 1) := by decide +kernel
theorem dX11_much_87 : decode cX11_much 87 = .ok (.invokestatic 364, 3) := by decide +kernel
theorem dX11_much_90 : decode cX11_much 90 = .ok (.ireturn, 1) := by decide +kernel
theorem dX11_much_91 : decode cX11_much 91 = .ok (.iload 6, 2) := by decide +kernel
theorem dX11_much_93 : decode cX11_much 93 = .ok (.iload 5, 2) := by decide +kernel
theorem dX11_much_95 : decode cX11_much 95 = .ok (.if_icmp .ge 5, 3) := by decide +kernel
theorem dX11_much_98 : decode cX11_much 98 = .ok (.iconst (-1), 1) := by decide +kernel
theorem dX11_much_99 : decode cX11_much 99 = .ok (.ireturn, 1) := by decide +kernel
theorem dX11_much_100 : decode cX11_much 100 = .ok (.iload 4, 2) := by decide +kernel
theorem dX11_much_102 : decode cX11_much 102 = .ok (.iconst 1, 1) := by decide +kernel
theorem dX11_much_103 : decode cX11_much 103 = .ok (.if_icmp .ne 8, 3) := by decide +kernel
theorem dX11_much_106 : decode cX11_much 106 = .ok (.iload 5, 2) := by decide +kernel
theorem dX11_much_108 : decode cX11_much 108 = .ok (.goto 5, 3) := by decide +kernel
theorem dX11_much_111 : decode cX11_much 111 = .ok (.iload 6, 2) := by decide +kernel
theorem dX11_much_113 : decode cX11_much 113 = .ok (.ireturn, 1) := by decide +kernel
theorem dX11_lose_0 : decode cX11_lose 0 = .ok (.aload_n 0, 1) := by decide +kernel
theorem dX11_lose_1 : decode cX11_lose 1 = .ok (.iload_n 1, 1) := by decide +kernel
theorem dX11_lose_2 : decode cX11_lose 2 = .ok (.invokevirtual 155, 3) := by decide +kernel
theorem dX11_lose_5 : decode cX11_lose 5 = .ok (.ifCond .eq 14, 3) := by decide +kernel
theorem dX11_lose_8 : decode cX11_lose 8 = .ok (.aload_n 0, 1) := by decide +kernel
theorem dX11_lose_9 : decode cX11_lose 9 = .ok (.getfield 51, 3) := by decide +kernel
theorem dX11_lose_12 : decode cX11_lose 12 = .ok (.iload_n 1, 1) := by decide +kernel
theorem dX11_lose_13 : decode cX11_lose 13 = .ok (.invokevirtual 177, 3) := by decide +kernel
theorem dX11_lose_16 : decode cX11_lose 16 = .ok (.ifCond .ne 5, 3) := by decide +kernel
theorem dX11_lose_19 : decode cX11_lose 19 = .ok (.iconst (-1), 1) := by decide +kernel
theorem dX11_lose_20 : decode cX11_lose 20 = .ok (.ireturn, 1) := by decide +kernel
theorem dX11_lose_21 : decode cX11_lose 21 = .ok (.aload_n 0, 1) := by decide +kernel
theorem dX11_lose_22 : decode cX11_lose 22 = .ok (.getfield 19, 3) := by decide +kernel
theorem dX11_lose_25 : decode cX11_lose 25 = .ok (.iconst 2, 1) := by decide +kernel
theorem dX11_lose_26 : decode cX11_lose 26 = .ok (.iload_n 1, 1) := by decide +kernel
theorem dX11_lose_27 : decode cX11_lose 27 = .ok (.invokevirtual 166, 3) := by decide +kernel
theorem dX11_lose_30 : decode cX11_lose 30 = .ok (.istore_n 2, 1) := by decide +kernel
theorem dX11_lose_31 : decode cX11_lose 31 = .ok (.iload_n 2, 1) := by decide +kernel
theorem dX11_lose_32 : decode cX11_lose 32 = .ok (.iconst 1, 1) := by decide +kernel
theorem dX11_lose_33 : decode cX11_lose 33 = .ok (.iadd, 1) := by decide +kernel
theorem dX11_lose_34 : decode cX11_lose 34 = .ok (.istore_n 3, 1) := by decide +kernel
theorem dX11_lose_35 : decode cX11_lose 35 = .ok (.iconst 0, 1) := by decide +kernel
theorem dX11_lose_36 : decode cX11_lose 36 = .ok (.istore 4, 2) := by decide +kernel
theorem dX11_lose_38 : decode cX11_lose 38 = .ok (.iload 4, 2) := by decide +kernel
theorem dX11_lose_40 : decode cX11_lose 40 = .ok (.aload_n 0, 1) := by decide +kernel
theorem dX11_lose_41 : decode cX11_lose 41 = .ok (.getfield 19, 3) := by decide +kernel
theorem dX11_lose_44 : decode cX11_lose 44 = .ok (.getfield 154, 3) := by decide +kernel
theorem dX11_lose_47 : decode cX11_lose 47 = .ok (.if_icmp .ge 50, 3) := by decide +kernel
theorem dX11_lose_50 : decode cX11_lose 50 = .ok (.iload 4, 2) := by decide +kernel
theorem dX11_lose_52 : decode cX11_lose 52 = .ok (.iload_n 1, 1) := by decide +kernel
theorem dX11_lose_53 : decode cX11_lose 53 = .ok (.if_icmp .eq 38, 3) := by decide +kernel
theorem dX11_lose_56 : decode cX11_lose 56 = .ok (.aload_n 0, 1) := by decide +kernel
theorem dX11_lose_57 : decode cX11_lose 57 = .ok (.getfield 51, 3) := by decide +kernel
theorem dX11_lose_60 : decode cX11_lose 60 = .ok (.iload 4, 2) := by decide +kernel
theorem dX11_lose_62 : decode cX11_lose 62 = .ok (.invokevirtual 177, 3) := by decide +kernel
theorem dX11_lose_65 : decode cX11_lose 65 = .ok (.aload_n 0, 1) := by decide +kernel
theorem dX11_lose_66 : decode cX11_lose 66 = .ok (.getfield 51, 3) := by decide +kernel
theorem dX11_lose_69 : decode cX11_lose 69 = .ok (.iload_n 1, 1) := by decide +kernel
theorem dX11_lose_70 : decode cX11_lose 70 = .ok (.invokevirtual 177, 3) := by decide +kernel
theorem dX11_lose_73 : decode cX11_lose 73 = .ok (.if_icmp .ne 18, 3) := by decide +kernel
theorem dX11_lose_76 : decode cX11_lose 76 = .ok (.iload_n 3, 1) := by decide +kernel
theorem dX11_lose_77 : decode cX11_lose 77 = .ok (.aload_n 0, 1) := by decide +kernel
theorem dX11_lose_78 : decode cX11_lose 78 = .ok (.getfield 19, 3) := by decide +kernel
theorem dX11_lose_81 : decode cX11_lose 81 = .ok (.iconst 2, 1) := by decide +kernel
theorem dX11_lose_82 : decode cX11_lose 82 = .ok (.iload 4, 2) := by decide +kernel
theorem dX11_lose_84 : decode cX11_lose 84 = .ok (.invokevirtual 166, 3) := by decide +kernel
theorem dX11_lose_87 : decode cX11_lose 87 = .ok (.invokestatic 302, 3) := by decide +kernel
theorem dX11_lose_90 : decode cX11_lose 90 = .ok (.istore_n 3, 1) := by decide +kernel
theorem dX11_lose_91 : decode cX11_lose 91 = .ok (.iinc 4 1, 3) := by decide +kernel
theorem dX11_lose_94 : decode cX11_lose 94 = .ok (.goto (-56), 3) := by decide +kernel
theorem dX11_lose_97 : decode cX11_lose 97 = .ok (.iconst 0, 1) := by decide +kernel
theorem dX11_lose_98 : decode cX11_lose 98 = .ok (.iload_n 2, 1) := by decide +kernel
theorem dX11_lose_99 : decode cX11_lose 99 = .ok (.iload_n 3, 1) := by decide +kernel
theorem dX11_lose_100 : decode cX11_lose 100 = .ok (.isub, 1) := by decide +kernel
theorem dX11_lose_101 : decode cX11_lose 101 = .ok (.iconst 1, 1) := by decide +kernel
theorem dX11_lose_102 : decode cX11_lose 102 = .ok (.iadd, 1) := by decide +kernel
theorem dX11_lose_103 : decode cX11_lose 103 = .ok (.invokestatic 364, 3) := by decide +kernel
theorem dX11_lose_106 : decode cX11_lose 106 = .ok (.istore 4, 2) := by decide +kernel
theorem dX11_lose_108 : decode cX11_lose 108 = .ok (.iload 4, 2) := by decide +kernel
theorem dX11_lose_110 : decode cX11_lose 110 = .ok (.bipush 20, 2) := by decide +kernel
theorem dX11_lose_112 : decode cX11_lose 112 = .ok (.if_icmp .gt 11, 3) := by decide +kernel
theorem dX11_lose_115 : decode cX11_lose 115 = .ok (.iload_n 2, 1) := by decide +kernel
theorem dX11_lose_116 : decode cX11_lose 116 = .ok (.iload 4, 2) := by decide +kernel
theorem dX11_lose_118 : decode cX11_lose 118 = .ok (.isub, 1) := by decide +kernel
theorem dX11_lose_119 : decode cX11_lose 119 = .ok (.iconst 1, 1) := by decide +kernel
theorem dX11_lose_120 : decode cX11_lose 120 = .ok (.if_icmp .ge 7, 3) := by decide +kernel
theorem dX11_lose_123 : decode cX11_lose 123 = .ok (.iconst (-1), 1) := by decide +kernel
theorem dX11_lose_124 : decode cX11_lose 124 = .ok (.goto 5, 3) := by decide +kernel
theorem dX11_lose_127 : decode cX11_lose 127 = .ok (.iload 4, 2) := by decide +kernel
theorem dX11_lose_129 : decode cX11_lose 129 = .ok (.ireturn, 1) := by decide +kernel
theorem dX11_judge_0 : decode cX11_judge 0 = .ok (.aload_n 0, 1) := by decide +kernel
theorem dX11_judge_1 : decode cX11_judge 1 = .ok (.getfield 19, 3) := by decide +kernel
theorem dX11_judge_4 : decode cX11_judge 4 = .ok (.getfield 154, 3) := by decide +kernel
theorem dX11_judge_7 : decode cX11_judge 7 = .ok (.ifCond .eq 19, 3) := by decide +kernel
theorem dX11_judge_10 : decode cX11_judge 10 = .ok (.iload_n 1, 1) := by decide +kernel
theorem dX11_judge_11 : decode cX11_judge 11 = .ok (.ifCond .lt 15, 3) := by decide +kernel
theorem dX11_judge_14 : decode cX11_judge 14 = .ok (.iload_n 1, 1) := by decide +kernel
theorem dX11_judge_15 : decode cX11_judge 15 = .ok (.iconst 2, 1) := by decide +kernel
theorem dX11_judge_16 : decode cX11_judge 16 = .ok (.if_icmp .gt 10, 3) := by decide +kernel
theorem dX11_judge_19 : decode cX11_judge 19 = .ok (.iload_n 2, 1) := by decide +kernel
theorem dX11_judge_20 : decode cX11_judge 20 = .ok (.invokestatic 299, 3) := by decide +kernel
theorem dX11_judge_23 : decode cX11_judge 23 = .ok (.ifCond .eq 5, 3) := by decide +kernel
theorem dX11_judge_26 : decode cX11_judge 26 = .ok (.iconst (-1), 1) := by decide +kernel
theorem dX11_judge_27 : decode cX11_judge 27 = .ok (.ireturn, 1) := by decide +kernel
theorem dX11_judge_28 : decode cX11_judge 28 = .ok (.iload_n 2, 1) := by decide +kernel
theorem dX11_judge_29 : decode cX11_judge 29 = .ok (.ifCond .ne 14, 3) := by decide +kernel
theorem dX11_judge_32 : decode cX11_judge 32 = .ok (.aload_n 0, 1) := by decide +kernel
theorem dX11_judge_33 : decode cX11_judge 33 = .ok (.getfield 61, 3) := by decide +kernel
theorem dX11_judge_36 : decode cX11_judge 36 = .ok (.iload_n 1, 1) := by decide +kernel
theorem dX11_judge_37 : decode cX11_judge 37 = .ok (.invokevirtual 370, 3) := by decide +kernel
theorem dX11_judge_40 : decode cX11_judge 40 = .ok (.goto 11, 3) := by decide +kernel
theorem dX11_judge_43 : decode cX11_judge 43 = .ok (.aload_n 0, 1) := by decide +kernel
theorem dX11_judge_44 : decode cX11_judge 44 = .ok (.getfield 61, 3) := by decide +kernel
theorem dX11_judge_47 : decode cX11_judge 47 = .ok (.iload_n 1, 1) := by decide +kernel
theorem dX11_judge_48 : decode cX11_judge 48 = .ok (.invokevirtual 373, 3) := by decide +kernel
theorem dX11_judge_51 : decode cX11_judge 51 = .ok (.ireturn, 1) := by decide +kernel
theorem dX11_goods_0 : decode cX11_goods 0 = .ok (.aload_n 0, 1) := by decide +kernel
theorem dX11_goods_1 : decode cX11_goods 1 = .ok (.iload_n 1, 1) := by decide +kernel
theorem dX11_goods_2 : decode cX11_goods 2 = .ok (.invokevirtual 155, 3) := by decide +kernel
theorem dX11_goods_5 : decode cX11_goods 5 = .ok (.ifCond .eq 22, 3) := by decide +kernel
theorem dX11_goods_8 : decode cX11_goods 8 = .ok (.iload_n 2, 1) := by decide +kernel
theorem dX11_goods_9 : decode cX11_goods 9 = .ok (.invokestatic 299, 3) := by decide +kernel
theorem dX11_goods_12 : decode cX11_goods 12 = .ok (.ifCond .ne 15, 3) := by decide +kernel
theorem dX11_goods_15 : decode cX11_goods 15 = .ok (.aload_n 0, 1) := by decide +kernel
theorem dX11_goods_16 : decode cX11_goods 16 = .ok (.getfield 61, 3) := by decide +kernel
theorem dX11_goods_19 : decode cX11_goods 19 = .ok (.iload_n 1, 1) := by decide +kernel
theorem dX11_goods_20 : decode cX11_goods 20 = .ok (.iload_n 2, 1) := by decide +kernel
theorem dX11_goods_21 : decode cX11_goods 21 = .ok (.invokevirtual 376, 3) := by decide +kernel
theorem dX11_goods_24 : decode cX11_goods 24 = .ok (.goto 4, 3) := by decide +kernel
theorem dX11_goods_27 : decode cX11_goods 27 = .ok (.iconst (-1), 1) := by decide +kernel
theorem dX11_goods_28 : decode cX11_goods 28 = .ok (.ireturn, 1) := by decide +kernel
theorem dX11_kilos_0 : decode cX11_kilos 0 = .ok (.aload_n 0, 1) := by decide +kernel
theorem dX11_kilos_1 : decode cX11_kilos 1 = .ok (.iload_n 1, 1) := by decide +kernel
theorem dX11_kilos_2 : decode cX11_kilos 2 = .ok (.invokevirtual 155, 3) := by decide +kernel
theorem dX11_kilos_5 : decode cX11_kilos 5 = .ok (.ifCond .eq 22, 3) := by decide +kernel
theorem dX11_kilos_8 : decode cX11_kilos 8 = .ok (.iload_n 2, 1) := by decide +kernel
theorem dX11_kilos_9 : decode cX11_kilos 9 = .ok (.invokestatic 299, 3) := by decide +kernel
theorem dX11_kilos_12 : decode cX11_kilos 12 = .ok (.ifCond .ne 15, 3) := by decide +kernel
theorem dX11_kilos_15 : decode cX11_kilos 15 = .ok (.aload_n 0, 1) := by decide +kernel
theorem dX11_kilos_16 : decode cX11_kilos 16 = .ok (.getfield 61, 3) := by decide +kernel
theorem dX11_kilos_19 : decode cX11_kilos 19 = .ok (.iload_n 1, 1) := by decide +kernel
theorem dX11_kilos_20 : decode cX11_kilos 20 = .ok (.iload_n 2, 1) := by decide +kernel
theorem dX11_kilos_21 : decode cX11_kilos 21 = .ok (.invokevirtual 379, 3) := by decide +kernel
theorem dX11_kilos_24 : decode cX11_kilos 24 = .ok (.goto 4, 3) := by decide +kernel
theorem dX11_kilos_27 : decode cX11_kilos 27 = .ok (.iconst (-1), 1) := by decide +kernel
theorem dX11_kilos_28 : decode cX11_kilos 28 = .ok (.ireturn, 1) := by decide +kernel
theorem dX11_heaviest_0 : decode cX11_heaviest 0 = .ok (.iload_n 1, 1) := by decide +kernel
theorem dX11_heaviest_1 : decode cX11_heaviest 1 = .ok (.invokestatic 299, 3) := by decide +kernel
theorem dX11_heaviest_4 : decode cX11_heaviest 4 = .ok (.ifCond .ne 10, 3) := by decide +kernel
theorem dX11_heaviest_7 : decode cX11_heaviest 7 = .ok (.iload_n 2, 1) := by decide +kernel
theorem dX11_heaviest_8 : decode cX11_heaviest 8 = .ok (.invokestatic 299, 3) := by decide +kernel
theorem dX11_heaviest_11 : decode cX11_heaviest 11 = .ok (.ifCond .eq 5, 3) := by decide +kernel
theorem dX11_heaviest_14 : decode cX11_heaviest 14 = .ok (.iconst (-1), 1) := by decide +kernel
theorem dX11_heaviest_15 : decode cX11_heaviest 15 = .ok (.ireturn, 1) := by decide +kernel
theorem dX11_heaviest_16 : decode cX11_heaviest 16 = .ok (.aload_n 0, 1) := by decide +kernel
theorem dX11_heaviest_17 : decode cX11_heaviest 17 = .ok (.getfield 61, 3) := by decide +kernel
theorem dX11_heaviest_20 : decode cX11_heaviest 20 = .ok (.iload_n 1, 1) := by decide +kernel
theorem dX11_heaviest_21 : decode cX11_heaviest 21 = .ok (.invokevirtual 382, 3) := by decide +kernel
theorem dX11_heaviest_24 : decode cX11_heaviest 24 = .ok (.istore_n 3, 1) := by decide +kernel
theorem dX11_heaviest_25 : decode cX11_heaviest 25 = .ok (.iload_n 3, 1) := by decide +kernel
theorem dX11_heaviest_26 : decode cX11_heaviest 26 = .ok (.iconst (-1), 1) := by decide +kernel
theorem dX11_heaviest_27 : decode cX11_heaviest 27 = .ok (.if_icmp .ne 5, 3) := by decide +kernel
theorem dX11_heaviest_30 : decode cX11_heaviest 30 = .ok (.iconst (-1), 1) := by decide +kernel
theorem dX11_heaviest_31 : decode cX11_heaviest 31 = .ok (.ireturn, 1) := by decide +kernel
theorem dX11_heaviest_32 : decode cX11_heaviest 32 = .ok (.iload_n 2, 1) := by decide +kernel
theorem dX11_heaviest_33 : decode cX11_heaviest 33 = .ok (.ifCond .ne 15, 3) := by decide +kernel
theorem dX11_heaviest_36 : decode cX11_heaviest 36 = .ok (.aload_n 0, 1) := by decide +kernel
theorem dX11_heaviest_37 : decode cX11_heaviest 37 = .ok (.getfield 61, 3) := by decide +kernel
theorem dX11_heaviest_40 : decode cX11_heaviest 40 = .ok (.getfield 351, 3) := by decide +kernel
theorem dX11_heaviest_43 : decode cX11_heaviest 43 = .ok (.iload_n 3, 1) := by decide +kernel
theorem dX11_heaviest_44 : decode cX11_heaviest 44 = .ok (.iaload, 1) := by decide +kernel
theorem dX11_heaviest_45 : decode cX11_heaviest 45 = .ok (.goto 12, 3) := by decide +kernel
theorem dX11_heaviest_48 : decode cX11_heaviest 48 = .ok (.aload_n 0, 1) := by decide +kernel
theorem dX11_heaviest_49 : decode cX11_heaviest 49 = .ok (.getfield 61, 3) := by decide +kernel
theorem dX11_heaviest_52 : decode cX11_heaviest 52 = .ok (.getfield 354, 3) := by decide +kernel
theorem dX11_heaviest_55 : decode cX11_heaviest 55 = .ok (.iload_n 3, 1) := by decide +kernel
theorem dX11_heaviest_56 : decode cX11_heaviest 56 = .ok (.iaload, 1) := by decide +kernel
theorem dX11_heaviest_57 : decode cX11_heaviest 57 = .ok (.ireturn, 1) := by decide +kernel
theorem dX11_idle_0 : decode cX11_idle 0 = .ok (.aload_n 0, 1) := by decide +kernel
theorem dX11_idle_1 : decode cX11_idle 1 = .ok (.iload_n 1, 1) := by decide +kernel
theorem dX11_idle_2 : decode cX11_idle 2 = .ok (.invokevirtual 155, 3) := by decide +kernel
theorem dX11_idle_5 : decode cX11_idle 5 = .ok (.ifCond .eq 22, 3) := by decide +kernel
theorem dX11_idle_8 : decode cX11_idle 8 = .ok (.iload_n 2, 1) := by decide +kernel
theorem dX11_idle_9 : decode cX11_idle 9 = .ok (.invokestatic 299, 3) := by decide +kernel
theorem dX11_idle_12 : decode cX11_idle 12 = .ok (.ifCond .ne 15, 3) := by decide +kernel
theorem dX11_idle_15 : decode cX11_idle 15 = .ok (.aload_n 0, 1) := by decide +kernel
theorem dX11_idle_16 : decode cX11_idle 16 = .ok (.getfield 61, 3) := by decide +kernel
theorem dX11_idle_19 : decode cX11_idle 19 = .ok (.iload_n 1, 1) := by decide +kernel
theorem dX11_idle_20 : decode cX11_idle 20 = .ok (.iload_n 2, 1) := by decide +kernel
theorem dX11_idle_21 : decode cX11_idle 21 = .ok (.invokevirtual 385, 3) := by decide +kernel
theorem dX11_idle_24 : decode cX11_idle 24 = .ok (.goto 4, 3) := by decide +kernel
theorem dX11_idle_27 : decode cX11_idle 27 = .ok (.iconst (-1), 1) := by decide +kernel
theorem dX11_idle_28 : decode cX11_idle 28 = .ok (.ireturn, 1) := by decide +kernel
theorem dX11_calls_0 : decode cX11_calls 0 = .ok (.iload_n 2, 1) := by decide +kernel
theorem dX11_calls_1 : decode cX11_calls 1 = .ok (.iconst 1, 1) := by decide +kernel
theorem dX11_calls_2 : decode cX11_calls 2 = .ok (.if_icmp .lt 55, 3) := by decide +kernel
theorem dX11_calls_5 : decode cX11_calls 5 = .ok (.iload_n 2, 1) := by decide +kernel
theorem dX11_calls_6 : decode cX11_calls 6 = .ok (.bipush 95, 2) := by decide +kernel
theorem dX11_calls_8 : decode cX11_calls 8 = .ok (.if_icmp .gt 49, 3) := by decide +kernel
theorem dX11_calls_11 : decode cX11_calls 11 = .ok (.iload_n 3, 1) := by decide +kernel
theorem dX11_calls_12 : decode cX11_calls 12 = .ok (.iconst 1, 1) := by decide +kernel
theorem dX11_calls_13 : decode cX11_calls 13 = .ok (.if_icmp .lt 44, 3) := by decide +kernel
theorem dX11_calls_16 : decode cX11_calls 16 = .ok (.iload_n 3, 1) := by decide +kernel
theorem dX11_calls_17 : decode cX11_calls 17 = .ok (.iconst 5, 1) := by decide +kernel
theorem dX11_calls_18 : decode cX11_calls 18 = .ok (.if_icmp .gt 39, 3) := by decide +kernel
theorem dX11_calls_21 : decode cX11_calls 21 = .ok (.aload_n 0, 1) := by decide +kernel
theorem dX11_calls_22 : decode cX11_calls 22 = .ok (.getfield 19, 3) := by decide +kernel
theorem dX11_calls_25 : decode cX11_calls 25 = .ok (.getfield 154, 3) := by decide +kernel
theorem dX11_calls_28 : decode cX11_calls 28 = .ok (.iconst 1, 1) := by decide +kernel
theorem dX11_calls_29 : decode cX11_calls 29 = .ok (.if_icmp .lt 28, 3) := by decide +kernel
theorem dX11_calls_32 : decode cX11_calls 32 = .ok (.aload_n 0, 1) := by decide +kernel
theorem dX11_calls_33 : decode cX11_calls 33 = .ok (.getfield 19, 3) := by decide +kernel
theorem dX11_calls_36 : decode cX11_calls 36 = .ok (.getfield 154, 3) := by decide +kernel
theorem dX11_calls_39 : decode cX11_calls 39 = .ok (.iconst 4, 1) := by decide +kernel
theorem dX11_calls_40 : decode cX11_calls 40 = .ok (.if_icmp .gt 17, 3) := by decide +kernel
theorem dX11_calls_43 : decode cX11_calls 43 = .ok (.iload_n 1, 1) := by decide +kernel
theorem dX11_calls_44 : decode cX11_calls 44 = .ok (.aload_n 0, 1) := by decide +kernel
theorem dX11_calls_45 : decode cX11_calls 45 = .ok (.getfield 19, 3) := by decide +kernel
theorem dX11_calls_48 : decode cX11_calls 48 = .ok (.getfield 154, 3) := by decide +kernel
theorem dX11_calls_51 : decode cX11_calls 51 = .ok (.invokestatic 388, 3) := by decide +kernel
theorem dX11_calls_54 : decode cX11_calls 54 = .ok (.ifCond .ne 5, 3) := by decide +kernel
theorem dX11_calls_57 : decode cX11_calls 57 = .ok (.iconst (-1), 1) := by decide +kernel
theorem dX11_calls_58 : decode cX11_calls 58 = .ok (.ireturn, 1) := by decide +kernel
theorem dX11_calls_59 : decode cX11_calls 59 = .ok (.aload_n 0, 1) := by decide +kernel
theorem dX11_calls_60 : decode cX11_calls 60 = .ok (.iload_n 1, 1) := by decide +kernel
theorem dX11_calls_61 : decode cX11_calls 61 = .ok (.iload_n 3, 1) := by decide +kernel
theorem dX11_calls_62 : decode cX11_calls 62 = .ok (.iload 4, 2) := by decide +kernel
theorem dX11_calls_64 : decode cX11_calls 64 = .ok (.invokevirtual 391, 3) := by decide +kernel
theorem dX11_calls_67 : decode cX11_calls 67 = .ok (.ireturn, 1) := by decide +kernel
theorem dX11_other_0 : decode cX11_other 0 = .ok (.aload_n 0, 1) := by decide +kernel
theorem dX11_other_1 : decode cX11_other 1 = .ok (.getfield 19, 3) := by decide +kernel
theorem dX11_other_4 : decode cX11_other 4 = .ok (.getfield 154, 3) := by decide +kernel
theorem dX11_other_7 : decode cX11_other 7 = .ok (.ifCond .eq 19, 3) := by decide +kernel
theorem dX11_other_10 : decode cX11_other 10 = .ok (.iload_n 1, 1) := by decide +kernel
theorem dX11_other_11 : decode cX11_other 11 = .ok (.ifCond .lt 15, 3) := by decide +kernel
theorem dX11_other_14 : decode cX11_other 14 = .ok (.iload_n 1, 1) := by decide +kernel
theorem dX11_other_15 : decode cX11_other 15 = .ok (.iconst 3, 1) := by decide +kernel
theorem dX11_other_16 : decode cX11_other 16 = .ok (.if_icmp .gt 10, 3) := by decide +kernel
theorem dX11_other_19 : decode cX11_other 19 = .ok (.iload_n 2, 1) := by decide +kernel
theorem dX11_other_20 : decode cX11_other 20 = .ok (.invokestatic 299, 3) := by decide +kernel
theorem dX11_other_23 : decode cX11_other 23 = .ok (.ifCond .eq 5, 3) := by decide +kernel
theorem dX11_other_26 : decode cX11_other 26 = .ok (.iconst (-1), 1) := by decide +kernel
theorem dX11_other_27 : decode cX11_other 27 = .ok (.ireturn, 1) := by decide +kernel
theorem dX11_other_28 : decode cX11_other 28 = .ok (.iconst 0, 1) := by decide +kernel
theorem dX11_other_29 : decode cX11_other 29 = .ok (.istore_n 3, 1) := by decide +kernel
theorem dX11_other_30 : decode cX11_other 30 = .ok (.iconst 1, 1) := by decide +kernel
theorem dX11_other_31 : decode cX11_other 31 = .ok (.istore 4, 2) := by decide +kernel
theorem dX11_other_33 : decode cX11_other 33 = .ok (.iload 4, 2) := by decide +kernel
theorem dX11_other_35 : decode cX11_other 35 = .ok (.aload_n 0, 1) := by decide +kernel
theorem dX11_other_36 : decode cX11_other 36 = .ok (.getfield 19, 3) := by decide +kernel
theorem dX11_other_39 : decode cX11_other 39 = .ok (.getfield 154, 3) := by decide +kernel
theorem dX11_other_42 : decode cX11_other 42 = .ok (.if_icmp .ge 32, 3) := by decide +kernel
theorem dX11_other_45 : decode cX11_other 45 = .ok (.aload_n 0, 1) := by decide +kernel
theorem dX11_other_46 : decode cX11_other 46 = .ok (.iload_n 1, 1) := by decide +kernel
theorem dX11_other_47 : decode cX11_other 47 = .ok (.iload 4, 2) := by decide +kernel
theorem dX11_other_49 : decode cX11_other 49 = .ok (.invokevirtual 395, 3) := by decide +kernel
theorem dX11_other_52 : decode cX11_other 52 = .ok (.aload_n 0, 1) := by decide +kernel
theorem dX11_other_53 : decode cX11_other 53 = .ok (.iload_n 1, 1) := by decide +kernel
theorem dX11_other_54 : decode cX11_other 54 = .ok (.iload_n 3, 1) := by decide +kernel
theorem dX11_other_55 : decode cX11_other 55 = .ok (.invokevirtual 395, 3) := by decide +kernel
theorem dX11_other_58 : decode cX11_other 58 = .ok (.if_icmp .le 8, 3) := by decide +kernel
theorem dX11_other_61 : decode cX11_other 61 = .ok (.iload 4, 2) := by decide +kernel
theorem dX11_other_63 : decode cX11_other 63 = .ok (.goto 4, 3) := by decide +kernel
theorem dX11_other_66 : decode cX11_other 66 = .ok (.iload_n 3, 1) := by decide +kernel
theorem dX11_other_67 : decode cX11_other 67 = .ok (.istore_n 3, 1) := by decide +kernel
theorem dX11_other_68 : decode cX11_other 68 = .ok (.iinc 4 1, 3) := by decide +kernel
theorem dX11_other_71 : decode cX11_other 71 = .ok (.goto (-38), 3) := by decide +kernel
theorem dX11_other_74 : decode cX11_other 74 = .ok (.iload_n 2, 1) := by decide +kernel
theorem dX11_other_75 : decode cX11_other 75 = .ok (.ifCond .ne 7, 3) := by decide +kernel
theorem dX11_other_78 : decode cX11_other 78 = .ok (.iload_n 3, 1) := by decide +kernel
theorem dX11_other_79 : decode cX11_other 79 = .ok (.goto 9, 3) := by decide +kernel
theorem dX11_other_82 : decode cX11_other 82 = .ok (.aload_n 0, 1) := by decide +kernel
theorem dX11_other_83 : decode cX11_other 83 = .ok (.iload_n 1, 1) := by decide +kernel
theorem dX11_other_84 : decode cX11_other 84 = .ok (.iload_n 3, 1) := by decide +kernel
theorem dX11_other_85 : decode cX11_other 85 = .ok (.invokevirtual 395, 3) := by decide +kernel
theorem dX11_other_88 : decode cX11_other 88 = .ok (.ireturn, 1) := by decide +kernel
theorem dX11_scoreBy_0 : decode cX11_scoreBy 0 = .ok (.iload_n 1, 1) := by decide +kernel
theorem dX11_scoreBy_1 : decode cX11_scoreBy 1 = .ok (.tableswitch 89 0 2 #[27, 37, 63], 27) := by decide +kernel
theorem dX11_scoreBy_28 : decode cX11_scoreBy 28 = .ok (.aload_n 0, 1) := by decide +kernel
theorem dX11_scoreBy_29 : decode cX11_scoreBy 29 = .ok (.getfield 51, 3) := by decide +kernel
theorem dX11_scoreBy_32 : decode cX11_scoreBy 32 = .ok (.iconst 1, 1) := by decide +kernel
theorem dX11_scoreBy_33 : decode cX11_scoreBy 33 = .ok (.iload_n 2, 1) := by decide +kernel
theorem dX11_scoreBy_34 : decode cX11_scoreBy 34 = .ok (.invokevirtual 174, 3) := by decide +kernel
theorem dX11_scoreBy_37 : decode cX11_scoreBy 37 = .ok (.ireturn, 1) := by decide +kernel
theorem dX11_scoreBy_38 : decode cX11_scoreBy 38 = .ok (.aload_n 0, 1) := by decide +kernel
theorem dX11_scoreBy_39 : decode cX11_scoreBy 39 = .ok (.getfield 51, 3) := by decide +kernel
theorem dX11_scoreBy_42 : decode cX11_scoreBy 42 = .ok (.iload_n 2, 1) := by decide +kernel
theorem dX11_scoreBy_43 : decode cX11_scoreBy 43 = .ok (.invokevirtual 177, 3) := by decide +kernel
theorem dX11_scoreBy_46 : decode cX11_scoreBy 46 = .ok (.bipush 100, 2) := by decide +kernel
theorem dX11_scoreBy_48 : decode cX11_scoreBy 48 = .ok (.imul, 1) := by decide +kernel
theorem dX11_scoreBy_49 : decode cX11_scoreBy 49 = .ok (.iconst 1, 1) := by decide +kernel
theorem dX11_scoreBy_50 : decode cX11_scoreBy 50 = .ok (.aload_n 0, 1) := by decide +kernel
theorem dX11_scoreBy_51 : decode cX11_scoreBy 51 = .ok (.getfield 19, 3) := by decide +kernel
theorem dX11_scoreBy_54 : decode cX11_scoreBy 54 = .ok (.iconst 2, 1) := by decide +kernel
theorem dX11_scoreBy_55 : decode cX11_scoreBy 55 = .ok (.iload_n 2, 1) := by decide +kernel
theorem dX11_scoreBy_56 : decode cX11_scoreBy 56 = .ok (.invokevirtual 166, 3) := by decide +kernel
theorem dX11_scoreBy_59 : decode cX11_scoreBy 59 = .ok (.invokestatic 364, 3) := by decide +kernel
theorem dX11_scoreBy_62 : decode cX11_scoreBy 62 = .ok (.idiv, 1) := by decide +kernel
theorem dX11_scoreBy_63 : decode cX11_scoreBy 63 = .ok (.ireturn, 1) := by decide +kernel
theorem dX11_scoreBy_64 : decode cX11_scoreBy 64 = .ok (.aload_n 0, 1) := by decide +kernel
theorem dX11_scoreBy_65 : decode cX11_scoreBy 65 = .ok (.getfield 61, 3) := by decide +kernel
theorem dX11_scoreBy_68 : decode cX11_scoreBy 68 = .ok (.iload_n 2, 1) := by decide +kernel
theorem dX11_scoreBy_69 : decode cX11_scoreBy 69 = .ok (.iconst 0, 1) := by decide +kernel
theorem dX11_scoreBy_70 : decode cX11_scoreBy 70 = .ok (.invokevirtual 376, 3) := by decide +kernel
theorem dX11_scoreBy_73 : decode cX11_scoreBy 73 = .ok (.invokestatic 398, 3) := by decide +kernel
theorem dX11_scoreBy_76 : decode cX11_scoreBy 76 = .ok (.aload_n 0, 1) := by decide +kernel
theorem dX11_scoreBy_77 : decode cX11_scoreBy 77 = .ok (.getfield 61, 3) := by decide +kernel
theorem dX11_scoreBy_80 : decode cX11_scoreBy 80 = .ok (.iload_n 2, 1) := by decide +kernel
theorem dX11_scoreBy_81 : decode cX11_scoreBy 81 = .ok (.iconst 1, 1) := by decide +kernel
theorem dX11_scoreBy_82 : decode cX11_scoreBy 82 = .ok (.invokevirtual 376, 3) := by decide +kernel
theorem dX11_scoreBy_85 : decode cX11_scoreBy 85 = .ok (.invokestatic 398, 3) := by decide +kernel
theorem dX11_scoreBy_88 : decode cX11_scoreBy 88 = .ok (.iadd, 1) := by decide +kernel
theorem dX11_scoreBy_89 : decode cX11_scoreBy 89 = .ok (.ireturn, 1) := by decide +kernel
theorem dX11_scoreBy_90 : decode cX11_scoreBy 90 = .ok (.aload_n 0, 1) := by decide +kernel
theorem dX11_scoreBy_91 : decode cX11_scoreBy 91 = .ok (.getfield 61, 3) := by decide +kernel
theorem dX11_scoreBy_94 : decode cX11_scoreBy 94 = .ok (.iload_n 2, 1) := by decide +kernel
theorem dX11_scoreBy_95 : decode cX11_scoreBy 95 = .ok (.iconst 0, 1) := by decide +kernel
theorem dX11_scoreBy_96 : decode cX11_scoreBy 96 = .ok (.invokevirtual 379, 3) := by decide +kernel
theorem dX11_scoreBy_99 : decode cX11_scoreBy 99 = .ok (.aload_n 0, 1) := by decide +kernel
theorem dX11_scoreBy_100 : decode cX11_scoreBy 100 = .ok (.getfield 61, 3) := by decide +kernel
theorem dX11_scoreBy_103 : decode cX11_scoreBy 103 = .ok (.iload_n 2, 1) := by decide +kernel
theorem dX11_scoreBy_104 : decode cX11_scoreBy 104 = .ok (.iconst 1, 1) := by decide +kernel
theorem dX11_scoreBy_105 : decode cX11_scoreBy 105 = .ok (.invokevirtual 379, 3) := by decide +kernel
theorem dX11_scoreBy_108 : decode cX11_scoreBy 108 = .ok (.iadd, 1) := by decide +kernel
theorem dX11_scoreBy_109 : decode cX11_scoreBy 109 = .ok (.ireturn, 1) := by decide +kernel
theorem dX11_liftBy_0 : decode cX11_liftBy 0 = .ok (.aload_n 0, 1) := by decide +kernel
theorem dX11_liftBy_1 : decode cX11_liftBy 1 = .ok (.invokevirtual 245, 3) := by decide +kernel
theorem dX11_liftBy_4 : decode cX11_liftBy 4 = .ok (.aload_n 0, 1) := by decide +kernel
theorem dX11_liftBy_5 : decode cX11_liftBy 5 = .ok (.getfield 51, 3) := by decide +kernel
theorem dX11_liftBy_8 : decode cX11_liftBy 8 = .ok (.invokevirtual 219, 3) := by decide +kernel
theorem dX11_liftBy_11 : decode cX11_liftBy 11 = .ok (.istore_n 3, 1) := by decide +kernel
theorem dX11_liftBy_12 : decode cX11_liftBy 12 = .ok (.aload_n 0, 1) := by decide +kernel
theorem dX11_liftBy_13 : decode cX11_liftBy 13 = .ok (.getfield 51, 3) := by decide +kernel
theorem dX11_liftBy_16 : decode cX11_liftBy 16 = .ok (.iconst 5, 1) := by decide +kernel
theorem dX11_liftBy_17 : decode cX11_liftBy 17 = .ok (.iload_n 1, 1) := by decide +kernel
theorem dX11_liftBy_18 : decode cX11_liftBy 18 = .ok (.invokevirtual 170, 3) := by decide +kernel
theorem dX11_liftBy_21 : decode cX11_liftBy 21 = .ok (.istore 4, 2) := by decide +kernel
theorem dX11_liftBy_23 : decode cX11_liftBy 23 = .ok (.aload_n 0, 1) := by decide +kernel
theorem dX11_liftBy_24 : decode cX11_liftBy 24 = .ok (.getfield 61, 3) := by decide +kernel
theorem dX11_liftBy_27 : decode cX11_liftBy 27 = .ok (.iload_n 1, 1) := by decide +kernel
theorem dX11_liftBy_28 : decode cX11_liftBy 28 = .ok (.iload 4, 2) := by decide +kernel
theorem dX11_liftBy_30 : decode cX11_liftBy 30 = .ok (.iload_n 2, 1) := by decide +kernel
theorem dX11_liftBy_31 : decode cX11_liftBy 31 = .ok (.iload_n 3, 1) := by decide +kernel
theorem dX11_liftBy_32 : decode cX11_liftBy 32 = .ok (.aload_n 0, 1) := by decide +kernel
theorem dX11_liftBy_33 : decode cX11_liftBy 33 = .ok (.getfield 51, 3) := by decide +kernel
theorem dX11_liftBy_36 : decode cX11_liftBy 36 = .ok (.iload_n 1, 1) := by decide +kernel
theorem dX11_liftBy_37 : decode cX11_liftBy 37 = .ok (.iload_n 2, 1) := by decide +kernel
theorem dX11_liftBy_38 : decode cX11_liftBy 38 = .ok (.invokestatic 238, 3) := by decide +kernel
theorem dX11_liftBy_41 : decode cX11_liftBy 41 = .ok (.invokevirtual 339, 3) := by decide +kernel
theorem dX11_liftBy_44 : decode cX11_liftBy 44 = .ok (.invokevirtual 403, 3) := by decide +kernel
theorem dX11_liftBy_47 : decode cX11_liftBy 47 = .ok (.return_, 1) := by decide +kernel
theorem dX11_keepPast_0 : decode cX11_keepPast 0 = .ok (.aload_n 0, 1) := by decide +kernel
theorem dX11_keepPast_1 : decode cX11_keepPast 1 = .ok (.getfield 51, 3) := by decide +kernel
theorem dX11_keepPast_4 : decode cX11_keepPast 4 = .ok (.getfield 271, 3) := by decide +kernel
theorem dX11_keepPast_7 : decode cX11_keepPast 7 = .ok (.iconst 0, 1) := by decide +kernel
theorem dX11_keepPast_8 : decode cX11_keepPast 8 = .ok (.aload_n 0, 1) := by decide +kernel
theorem dX11_keepPast_9 : decode cX11_keepPast 9 = .ok (.getfield 103, 3) := by decide +kernel
theorem dX11_keepPast_12 : decode cX11_keepPast 12 = .ok (.aload_n 0, 1) := by decide +kernel
theorem dX11_keepPast_13 : decode cX11_keepPast 13 = .ok (.getfield 268, 3) := by decide +kernel
theorem dX11_keepPast_16 : decode cX11_keepPast 16 = .ok (.aaload, 1) := by decide +kernel
theorem dX11_keepPast_17 : decode cX11_keepPast 17 = .ok (.iconst 0, 1) := by decide +kernel
theorem dX11_keepPast_18 : decode cX11_keepPast 18 = .ok (.bipush 71, 2) := by decide +kernel
theorem dX11_keepPast_20 : decode cX11_keepPast 20 = .ok (.invokestatic 274, 3) := by decide +kernel
theorem dX11_keepPast_23 : decode cX11_keepPast 23 = .ok (.aload_n 0, 1) := by decide +kernel
theorem dX11_keepPast_24 : decode cX11_keepPast 24 = .ok (.aload_n 0, 1) := by decide +kernel
theorem dX11_keepPast_25 : decode cX11_keepPast 25 = .ok (.getfield 268, 3) := by decide +kernel
theorem dX11_keepPast_28 : decode cX11_keepPast 28 = .ok (.iconst 1, 1) := by decide +kernel
theorem dX11_keepPast_29 : decode cX11_keepPast 29 = .ok (.iadd, 1) := by decide +kernel
theorem dX11_keepPast_30 : decode cX11_keepPast 30 = .ok (.bipush 40, 2) := by decide +kernel
theorem dX11_keepPast_32 : decode cX11_keepPast 32 = .ok (.irem, 1) := by decide +kernel
theorem dX11_keepPast_33 : decode cX11_keepPast 33 = .ok (.putfield 268, 3) := by decide +kernel
theorem dX11_keepPast_36 : decode cX11_keepPast 36 = .ok (.aload_n 0, 1) := by decide +kernel
theorem dX11_keepPast_37 : decode cX11_keepPast 37 = .ok (.bipush 40, 2) := by decide +kernel
theorem dX11_keepPast_39 : decode cX11_keepPast 39 = .ok (.aload_n 0, 1) := by decide +kernel
theorem dX11_keepPast_40 : decode cX11_keepPast 40 = .ok (.getfield 147, 3) := by decide +kernel
theorem dX11_keepPast_43 : decode cX11_keepPast 43 = .ok (.iconst 1, 1) := by decide +kernel
theorem dX11_keepPast_44 : decode cX11_keepPast 44 = .ok (.iadd, 1) := by decide +kernel
theorem dX11_keepPast_45 : decode cX11_keepPast 45 = .ok (.invokestatic 302, 3) := by decide +kernel
theorem dX11_keepPast_48 : decode cX11_keepPast 48 = .ok (.putfield 147, 3) := by decide +kernel
theorem dX11_keepPast_51 : decode cX11_keepPast 51 = .ok (.return_, 1) := by decide +kernel
theorem dX11_nowOf_0 : decode cX11_nowOf 0 = .ok (.aload_n 0, 1) := by decide +kernel
theorem dX11_nowOf_1 : decode cX11_nowOf 1 = .ok (.getfield 97, 3) := by decide +kernel
theorem dX11_nowOf_4 : decode cX11_nowOf 4 = .ok (.aload_n 0, 1) := by decide +kernel
theorem dX11_nowOf_5 : decode cX11_nowOf 5 = .ok (.getfield 51, 3) := by decide +kernel
theorem dX11_nowOf_8 : decode cX11_nowOf 8 = .ok (.iload_n 1, 1) := by decide +kernel
theorem dX11_nowOf_9 : decode cX11_nowOf 9 = .ok (.invokevirtual 206, 3) := by decide +kernel
theorem dX11_nowOf_12 : decode cX11_nowOf 12 = .ok (.aload_n 0, 1) := by decide +kernel
theorem dX11_nowOf_13 : decode cX11_nowOf 13 = .ok (.getfield 97, 3) := by decide +kernel
theorem dX11_nowOf_16 : decode cX11_nowOf 16 = .ok (.invokevirtual 406, 3) := by decide +kernel
theorem dX11_nowOf_19 : decode cX11_nowOf 19 = .ok (.ireturn, 1) := by decide +kernel
theorem dX11_isLifter_0 : decode cX11_isLifter 0 = .ok (.iload_n 1, 1) := by decide +kernel
theorem dX11_isLifter_1 : decode cX11_isLifter 1 = .ok (.ifCond .lt 18, 3) := by decide +kernel
theorem dX11_isLifter_4 : decode cX11_isLifter 4 = .ok (.iload_n 1, 1) := by decide +kernel
theorem dX11_isLifter_5 : decode cX11_isLifter 5 = .ok (.aload_n 0, 1) := by decide +kernel
theorem dX11_isLifter_6 : decode cX11_isLifter 6 = .ok (.getfield 19, 3) := by decide +kernel
theorem dX11_isLifter_9 : decode cX11_isLifter 9 = .ok (.getfield 154, 3) := by decide +kernel
theorem dX11_isLifter_12 : decode cX11_isLifter 12 = .ok (.if_icmp .ge 7, 3) := by decide +kernel
theorem dX11_isLifter_15 : decode cX11_isLifter 15 = .ok (.iconst 1, 1) := by decide +kernel
theorem dX11_isLifter_16 : decode cX11_isLifter 16 = .ok (.goto 4, 3) := by decide +kernel
theorem dX11_isLifter_19 : decode cX11_isLifter 19 = .ok (.iconst 0, 1) := by decide +kernel
theorem dX11_isLifter_20 : decode cX11_isLifter 20 = .ok (.ireturn, 1) := by decide +kernel
theorem dX11_isIn_0 : decode cX11_isIn 0 = .ok (.aload_n 0, 1) := by decide +kernel
theorem dX11_isIn_1 : decode cX11_isIn 1 = .ok (.iload_n 1, 1) := by decide +kernel
theorem dX11_isIn_2 : decode cX11_isIn 2 = .ok (.invokevirtual 155, 3) := by decide +kernel
theorem dX11_isIn_5 : decode cX11_isIn 5 = .ok (.ifCond .eq 18, 3) := by decide +kernel
theorem dX11_isIn_8 : decode cX11_isIn 8 = .ok (.aload_n 0, 1) := by decide +kernel
theorem dX11_isIn_9 : decode cX11_isIn 9 = .ok (.getfield 51, 3) := by decide +kernel
theorem dX11_isIn_12 : decode cX11_isIn 12 = .ok (.iload_n 1, 1) := by decide +kernel
theorem dX11_isIn_13 : decode cX11_isIn 13 = .ok (.invokevirtual 171, 3) := by decide +kernel
theorem dX11_isIn_16 : decode cX11_isIn 16 = .ok (.ifCond .eq 7, 3) := by decide +kernel
theorem dX11_isIn_19 : decode cX11_isIn 19 = .ok (.iconst 1, 1) := by decide +kernel
theorem dX11_isIn_20 : decode cX11_isIn 20 = .ok (.goto 4, 3) := by decide +kernel
theorem dX11_isIn_23 : decode cX11_isIn 23 = .ok (.iconst 0, 1) := by decide +kernel
theorem dX11_isIn_24 : decode cX11_isIn 24 = .ok (.ireturn, 1) := by decide +kernel
theorem dX11_isNoPair_0 : decode cX11_isNoPair 0 = .ok (.iload_n 0, 1) := by decide +kernel
theorem dX11_isNoPair_1 : decode cX11_isNoPair 1 = .ok (.ifCond .eq 12, 3) := by decide +kernel
theorem dX11_isNoPair_4 : decode cX11_isNoPair 4 = .ok (.iload_n 0, 1) := by decide +kernel
theorem dX11_isNoPair_5 : decode cX11_isNoPair 5 = .ok (.iconst 1, 1) := by decide +kernel
theorem dX11_isNoPair_6 : decode cX11_isNoPair 6 = .ok (.if_icmp .eq 7, 3) := by decide +kernel
theorem dX11_isNoPair_9 : decode cX11_isNoPair 9 = .ok (.iconst 1, 1) := by decide +kernel
theorem dX11_isNoPair_10 : decode cX11_isNoPair 10 = .ok (.goto 4, 3) := by decide +kernel
theorem dX11_isNoPair_13 : decode cX11_isNoPair 13 = .ok (.iconst 0, 1) := by decide +kernel
theorem dX11_isNoPair_14 : decode cX11_isNoPair 14 = .ok (.ireturn, 1) := by decide +kernel
theorem dX11_drawn_0 : decode cX11_drawn 0 = .ok (.lload_n 0, 1) := by decide +kernel
theorem dX11_drawn_1 : decode cX11_drawn 1 = .ok (.ldc2_w 409, 3) := by decide +kernel
theorem dX11_drawn_4 : decode cX11_drawn 4 = .ok (.lmul, 1) := by decide +kernel
theorem dX11_drawn_5 : decode cX11_drawn 5 = .ok (.ldc2_w 411, 3) := by decide +kernel
theorem dX11_drawn_8 : decode cX11_drawn 8 = .ok (.ladd, 1) := by decide +kernel
theorem dX11_drawn_9 : decode cX11_drawn 9 = .ok (.lreturn, 1) := by decide +kernel
theorem dX11_below_0 : decode cX11_below 0 = .ok (.lload_n 0, 1) := by decide +kernel
theorem dX11_below_1 : decode cX11_below 1 = .ok (.bipush 33, 2) := by decide +kernel
theorem dX11_below_3 : decode cX11_below 3 = .ok (.lushr, 1) := by decide +kernel
theorem dX11_below_4 : decode cX11_below 4 = .ok (.ldc2_w 413, 3) := by decide +kernel
theorem dX11_below_7 : decode cX11_below 7 = .ok (.lrem, 1) := by decide +kernel
theorem dX11_below_8 : decode cX11_below 8 = .ok (.iload_n 2, 1) := by decide +kernel
theorem dX11_below_9 : decode cX11_below 9 = .ok (.i2l, 1) := by decide +kernel
theorem dX11_below_10 : decode cX11_below 10 = .ok (.lcmp, 1) := by decide +kernel
theorem dX11_below_11 : decode cX11_below 11 = .ok (.ifCond .ge 7, 3) := by decide +kernel
theorem dX11_below_14 : decode cX11_below 14 = .ok (.iconst 1, 1) := by decide +kernel
theorem dX11_below_15 : decode cX11_below 15 = .ok (.goto 4, 3) := by decide +kernel
theorem dX11_below_18 : decode cX11_below 18 = .ok (.iconst 0, 1) := by decide +kernel
theorem dX11_below_19 : decode cX11_below 19 = .ok (.ireturn, 1) := by decide +kernel
theorem dX11_openings_0 : decode cX11_openings 0 = .ok (.iconst 1, 1) := by decide +kernel
theorem dX11_openings_1 : decode cX11_openings 1 = .ok (.istore 4, 2) := by decide +kernel
theorem dX11_openings_3 : decode cX11_openings 3 = .ok (.iconst 0, 1) := by decide +kernel
theorem dX11_openings_4 : decode cX11_openings 4 = .ok (.istore 5, 2) := by decide +kernel
theorem dX11_openings_6 : decode cX11_openings 6 = .ok (.iload 5, 2) := by decide +kernel
theorem dX11_openings_8 : decode cX11_openings 8 = .ok (.aload_n 0, 1) := by decide +kernel
theorem dX11_openings_9 : decode cX11_openings 9 = .ok (.getfield 19, 3) := by decide +kernel
theorem dX11_openings_12 : decode cX11_openings 12 = .ok (.getfield 154, 3) := by decide +kernel
theorem dX11_openings_15 : decode cX11_openings 15 = .ok (.if_icmp .ge 15, 3) := by decide +kernel
theorem dX11_openings_18 : decode cX11_openings 18 = .ok (.iload 4, 2) := by decide +kernel
theorem dX11_openings_20 : decode cX11_openings 20 = .ok (.iload_n 2, 1) := by decide +kernel
theorem dX11_openings_21 : decode cX11_openings 21 = .ok (.imul, 1) := by decide +kernel
theorem dX11_openings_22 : decode cX11_openings 22 = .ok (.istore 4, 2) := by decide +kernel
theorem dX11_openings_24 : decode cX11_openings 24 = .ok (.iinc 5 1, 3) := by decide +kernel
theorem dX11_openings_27 : decode cX11_openings 27 = .ok (.goto (-21), 3) := by decide +kernel
theorem dX11_openings_30 : decode cX11_openings 30 = .ok (.iconst 0, 1) := by decide +kernel
theorem dX11_openings_31 : decode cX11_openings 31 = .ok (.istore 5, 2) := by decide +kernel
theorem dX11_openings_33 : decode cX11_openings 33 = .ok (.iconst 0, 1) := by decide +kernel
theorem dX11_openings_34 : decode cX11_openings 34 = .ok (.istore 6, 2) := by decide +kernel
theorem dX11_openings_36 : decode cX11_openings 36 = .ok (.iload 6, 2) := by decide +kernel
theorem dX11_openings_38 : decode cX11_openings 38 = .ok (.iload 4, 2) := by decide +kernel
theorem dX11_openings_40 : decode cX11_openings 40 = .ok (.if_icmp .ge 52, 3) := by decide +kernel
theorem dX11_openings_43 : decode cX11_openings 43 = .ok (.iload 6, 2) := by decide +kernel
theorem dX11_openings_45 : decode cX11_openings 45 = .ok (.aload_n 0, 1) := by decide +kernel
theorem dX11_openings_46 : decode cX11_openings 46 = .ok (.getfield 19, 3) := by decide +kernel
theorem dX11_openings_49 : decode cX11_openings 49 = .ok (.getfield 154, 3) := by decide +kernel
theorem dX11_openings_52 : decode cX11_openings 52 = .ok (.iload_n 2, 1) := by decide +kernel
theorem dX11_openings_53 : decode cX11_openings 53 = .ok (.invokestatic 415, 3) := by decide +kernel
theorem dX11_openings_56 : decode cX11_openings 56 = .ok (.istore 7, 2) := by decide +kernel
theorem dX11_openings_58 : decode cX11_openings 58 = .ok (.iload 7, 2) := by decide +kernel
theorem dX11_openings_60 : decode cX11_openings 60 = .ok (.iload_n 1, 1) := by decide +kernel
theorem dX11_openings_61 : decode cX11_openings 61 = .ok (.aload_n 0, 1) := by decide +kernel
theorem dX11_openings_62 : decode cX11_openings 62 = .ok (.getfield 19, 3) := by decide +kernel
theorem dX11_openings_65 : decode cX11_openings 65 = .ok (.getfield 154, 3) := by decide +kernel
theorem dX11_openings_68 : decode cX11_openings 68 = .ok (.invokestatic 418, 3) := by decide +kernel
theorem dX11_openings_71 : decode cX11_openings 71 = .ok (.ifCond .eq 15, 3) := by decide +kernel
theorem dX11_openings_74 : decode cX11_openings 74 = .ok (.iload 5, 2) := by decide +kernel
theorem dX11_openings_76 : decode cX11_openings 76 = .ok (.iload_n 3, 1) := by decide +kernel
theorem dX11_openings_77 : decode cX11_openings 77 = .ok (.if_icmp .ne 6, 3) := by decide +kernel
theorem dX11_openings_80 : decode cX11_openings 80 = .ok (.iload 7, 2) := by decide +kernel
theorem dX11_openings_82 : decode cX11_openings 82 = .ok (.ireturn, 1) := by decide +kernel
theorem dX11_openings_83 : decode cX11_openings 83 = .ok (.iinc 5 1, 3) := by decide +kernel
theorem dX11_openings_86 : decode cX11_openings 86 = .ok (.iinc 6 1, 3) := by decide +kernel
theorem dX11_openings_89 : decode cX11_openings 89 = .ok (.goto (-53), 3) := by decide +kernel
theorem dX11_openings_92 : decode cX11_openings 92 = .ok (.iload_n 3, 1) := by decide +kernel
theorem dX11_openings_93 : decode cX11_openings 93 = .ok (.iconst (-1), 1) := by decide +kernel
theorem dX11_openings_94 : decode cX11_openings 94 = .ok (.if_icmp .ne 8, 3) := by decide +kernel
theorem dX11_openings_97 : decode cX11_openings 97 = .ok (.iload 5, 2) := by decide +kernel
theorem dX11_openings_99 : decode cX11_openings 99 = .ok (.goto 4, 3) := by decide +kernel
theorem dX11_openings_102 : decode cX11_openings 102 = .ok (.iconst (-1), 1) := by decide +kernel
theorem dX11_openings_103 : decode cX11_openings 103 = .ok (.ireturn, 1) := by decide +kernel
theorem dX11_isOrder_0 : decode cX11_isOrder 0 = .ok (.iconst 0, 1) := by decide +kernel
theorem dX11_isOrder_1 : decode cX11_isOrder 1 = .ok (.istore_n 2, 1) := by decide +kernel
theorem dX11_isOrder_2 : decode cX11_isOrder 2 = .ok (.iload_n 0, 1) := by decide +kernel
theorem dX11_isOrder_3 : decode cX11_isOrder 3 = .ok (.istore_n 3, 1) := by decide +kernel
theorem dX11_isOrder_4 : decode cX11_isOrder 4 = .ok (.iconst 0, 1) := by decide +kernel
theorem dX11_isOrder_5 : decode cX11_isOrder 5 = .ok (.istore 4, 2) := by decide +kernel
theorem dX11_isOrder_7 : decode cX11_isOrder 7 = .ok (.iload 4, 2) := by decide +kernel
theorem dX11_isOrder_9 : decode cX11_isOrder 9 = .ok (.iload_n 1, 1) := by decide +kernel
theorem dX11_isOrder_10 : decode cX11_isOrder 10 = .ok (.if_icmp .ge 27, 3) := by decide +kernel
theorem dX11_isOrder_13 : decode cX11_isOrder 13 = .ok (.iload_n 2, 1) := by decide +kernel
theorem dX11_isOrder_14 : decode cX11_isOrder 14 = .ok (.iconst 1, 1) := by decide +kernel
theorem dX11_isOrder_15 : decode cX11_isOrder 15 = .ok (.iload_n 3, 1) := by decide +kernel
theorem dX11_isOrder_16 : decode cX11_isOrder 16 = .ok (.bipush 10, 2) := by decide +kernel
theorem dX11_isOrder_18 : decode cX11_isOrder 18 = .ok (.invokestatic 422, 3) := by decide +kernel
theorem dX11_isOrder_21 : decode cX11_isOrder 21 = .ok (.ishl, 1) := by decide +kernel
theorem dX11_isOrder_22 : decode cX11_isOrder 22 = .ok (.ior, 1) := by decide +kernel
theorem dX11_isOrder_23 : decode cX11_isOrder 23 = .ok (.istore_n 2, 1) := by decide +kernel
theorem dX11_isOrder_24 : decode cX11_isOrder 24 = .ok (.iload_n 3, 1) := by decide +kernel
theorem dX11_isOrder_25 : decode cX11_isOrder 25 = .ok (.bipush 10, 2) := by decide +kernel
theorem dX11_isOrder_27 : decode cX11_isOrder 27 = .ok (.invokestatic 425, 3) := by decide +kernel
theorem dX11_isOrder_30 : decode cX11_isOrder 30 = .ok (.istore_n 3, 1) := by decide +kernel
theorem dX11_isOrder_31 : decode cX11_isOrder 31 = .ok (.iinc 4 1, 3) := by decide +kernel
theorem dX11_isOrder_34 : decode cX11_isOrder 34 = .ok (.goto (-27), 3) := by decide +kernel
theorem dX11_isOrder_37 : decode cX11_isOrder 37 = .ok (.iload_n 3, 1) := by decide +kernel
theorem dX11_isOrder_38 : decode cX11_isOrder 38 = .ok (.ifCond .ne 16, 3) := by decide +kernel
theorem dX11_isOrder_41 : decode cX11_isOrder 41 = .ok (.iload_n 2, 1) := by decide +kernel
theorem dX11_isOrder_42 : decode cX11_isOrder 42 = .ok (.iconst 1, 1) := by decide +kernel
theorem dX11_isOrder_43 : decode cX11_isOrder 43 = .ok (.iload_n 1, 1) := by decide +kernel
theorem dX11_isOrder_44 : decode cX11_isOrder 44 = .ok (.ishl, 1) := by decide +kernel
theorem dX11_isOrder_45 : decode cX11_isOrder 45 = .ok (.iconst 1, 1) := by decide +kernel
theorem dX11_isOrder_46 : decode cX11_isOrder 46 = .ok (.isub, 1) := by decide +kernel
theorem dX11_isOrder_47 : decode cX11_isOrder 47 = .ok (.if_icmp .ne 7, 3) := by decide +kernel
theorem dX11_isOrder_50 : decode cX11_isOrder 50 = .ok (.iconst 1, 1) := by decide +kernel
theorem dX11_isOrder_51 : decode cX11_isOrder 51 = .ok (.goto 4, 3) := by decide +kernel
theorem dX11_isOrder_54 : decode cX11_isOrder 54 = .ok (.iconst 0, 1) := by decide +kernel
theorem dX11_isOrder_55 : decode cX11_isOrder 55 = .ok (.ireturn, 1) := by decide +kernel
theorem dX11_asDigits_0 : decode cX11_asDigits 0 = .ok (.iconst 0, 1) := by decide +kernel
theorem dX11_asDigits_1 : decode cX11_asDigits 1 = .ok (.istore_n 3, 1) := by decide +kernel
theorem dX11_asDigits_2 : decode cX11_asDigits 2 = .ok (.iload_n 0, 1) := by decide +kernel
theorem dX11_asDigits_3 : decode cX11_asDigits 3 = .ok (.istore 4, 2) := by decide +kernel
theorem dX11_asDigits_5 : decode cX11_asDigits 5 = .ok (.iconst 1, 1) := by decide +kernel
theorem dX11_asDigits_6 : decode cX11_asDigits 6 = .ok (.istore 5, 2) := by decide +kernel
theorem dX11_asDigits_8 : decode cX11_asDigits 8 = .ok (.iconst 0, 1) := by decide +kernel
theorem dX11_asDigits_9 : decode cX11_asDigits 9 = .ok (.istore 6, 2) := by decide +kernel
theorem dX11_asDigits_11 : decode cX11_asDigits 11 = .ok (.iload 6, 2) := by decide +kernel
theorem dX11_asDigits_13 : decode cX11_asDigits 13 = .ok (.iload_n 1, 1) := by decide +kernel
theorem dX11_asDigits_14 : decode cX11_asDigits 14 = .ok (.if_icmp .ge 32, 3) := by decide +kernel
theorem dX11_asDigits_17 : decode cX11_asDigits 17 = .ok (.iload_n 3, 1) := by decide +kernel
theorem dX11_asDigits_18 : decode cX11_asDigits 18 = .ok (.iload 4, 2) := by decide +kernel
theorem dX11_asDigits_20 : decode cX11_asDigits 20 = .ok (.iload_n 2, 1) := by decide +kernel
theorem dX11_asDigits_21 : decode cX11_asDigits 21 = .ok (.irem, 1) := by decide +kernel
theorem dX11_asDigits_22 : decode cX11_asDigits 22 = .ok (.iload 5, 2) := by decide +kernel
theorem dX11_asDigits_24 : decode cX11_asDigits 24 = .ok (.imul, 1) := by decide +kernel
theorem dX11_asDigits_25 : decode cX11_asDigits 25 = .ok (.iadd, 1) := by decide +kernel
theorem dX11_asDigits_26 : decode cX11_asDigits 26 = .ok (.istore_n 3, 1) := by decide +kernel
theorem dX11_asDigits_27 : decode cX11_asDigits 27 = .ok (.iload 4, 2) := by decide +kernel
theorem dX11_asDigits_29 : decode cX11_asDigits 29 = .ok (.iload_n 2, 1) := by decide +kernel
theorem dX11_asDigits_30 : decode cX11_asDigits 30 = .ok (.idiv, 1) := by decide +kernel
theorem dX11_asDigits_31 : decode cX11_asDigits 31 = .ok (.istore 4, 2) := by decide +kernel
theorem dX11_asDigits_33 : decode cX11_asDigits 33 = .ok (.iload 5, 2) := by decide +kernel
theorem dX11_asDigits_35 : decode cX11_asDigits 35 = .ok (.bipush 10, 2) := by decide +kernel
theorem dX11_asDigits_37 : decode cX11_asDigits 37 = .ok (.imul, 1) := by decide +kernel
theorem dX11_asDigits_38 : decode cX11_asDigits 38 = .ok (.istore 5, 2) := by decide +kernel
theorem dX11_asDigits_40 : decode cX11_asDigits 40 = .ok (.iinc 6 1, 3) := by decide +kernel
theorem dX11_asDigits_43 : decode cX11_asDigits 43 = .ok (.goto (-32), 3) := by decide +kernel
theorem dX11_asDigits_46 : decode cX11_asDigits 46 = .ok (.iload_n 3, 1) := by decide +kernel
theorem dX11_asDigits_47 : decode cX11_asDigits 47 = .ok (.ireturn, 1) := by decide +kernel
theorem dX11_digitAt_0 : decode cX11_digitAt 0 = .ok (.iload_n 0, 1) := by decide +kernel
theorem dX11_digitAt_1 : decode cX11_digitAt 1 = .ok (.istore_n 3, 1) := by decide +kernel
theorem dX11_digitAt_2 : decode cX11_digitAt 2 = .ok (.iload_n 2, 1) := by decide +kernel
theorem dX11_digitAt_3 : decode cX11_digitAt 3 = .ok (.iconst 1, 1) := by decide +kernel
theorem dX11_digitAt_4 : decode cX11_digitAt 4 = .ok (.iadd, 1) := by decide +kernel
theorem dX11_digitAt_5 : decode cX11_digitAt 5 = .ok (.istore 4, 2) := by decide +kernel
theorem dX11_digitAt_7 : decode cX11_digitAt 7 = .ok (.iload 4, 2) := by decide +kernel
theorem dX11_digitAt_9 : decode cX11_digitAt 9 = .ok (.iload_n 1, 1) := by decide +kernel
theorem dX11_digitAt_10 : decode cX11_digitAt 10 = .ok (.if_icmp .ge 14, 3) := by decide +kernel
theorem dX11_digitAt_13 : decode cX11_digitAt 13 = .ok (.iload_n 3, 1) := by decide +kernel
theorem dX11_digitAt_14 : decode cX11_digitAt 14 = .ok (.bipush 10, 2) := by decide +kernel
theorem dX11_digitAt_16 : decode cX11_digitAt 16 = .ok (.idiv, 1) := by decide +kernel
theorem dX11_digitAt_17 : decode cX11_digitAt 17 = .ok (.istore_n 3, 1) := by decide +kernel
theorem dX11_digitAt_18 : decode cX11_digitAt 18 = .ok (.iinc 4 1, 3) := by decide +kernel
theorem dX11_digitAt_21 : decode cX11_digitAt 21 = .ok (.goto (-14), 3) := by decide +kernel
theorem dX11_digitAt_24 : decode cX11_digitAt 24 = .ok (.iload_n 3, 1) := by decide +kernel
theorem dX11_digitAt_25 : decode cX11_digitAt 25 = .ok (.bipush 10, 2) := by decide +kernel
theorem dX11_digitAt_27 : decode cX11_digitAt 27 = .ok (.irem, 1) := by decide +kernel
theorem dX11_digitAt_28 : decode cX11_digitAt 28 = .ok (.ireturn, 1) := by decide +kernel
theorem dX11_isCalledSo_0 : decode cX11_isCalledSo 0 = .ok (.iconst 1, 1) := by decide +kernel
theorem dX11_isCalledSo_1 : decode cX11_isCalledSo 1 = .ok (.istore_n 3, 1) := by decide +kernel
theorem dX11_isCalledSo_2 : decode cX11_isCalledSo 2 = .ok (.iload_n 3, 1) := by decide +kernel
theorem dX11_isCalledSo_3 : decode cX11_isCalledSo 3 = .ok (.iload_n 2, 1) := by decide +kernel
theorem dX11_isCalledSo_4 : decode cX11_isCalledSo 4 = .ok (.if_icmp .ge 68, 3) := by decide +kernel
theorem dX11_isCalledSo_7 : decode cX11_isCalledSo 7 = .ok (.iload_n 1, 1) := by decide +kernel
theorem dX11_isCalledSo_8 : decode cX11_isCalledSo 8 = .ok (.iload_n 2, 1) := by decide +kernel
theorem dX11_isCalledSo_9 : decode cX11_isCalledSo 9 = .ok (.iload_n 3, 1) := by decide +kernel
theorem dX11_isCalledSo_10 : decode cX11_isCalledSo 10 = .ok (.iconst 1, 1) := by decide +kernel
theorem dX11_isCalledSo_11 : decode cX11_isCalledSo 11 = .ok (.isub, 1) := by decide +kernel
theorem dX11_isCalledSo_12 : decode cX11_isCalledSo 12 = .ok (.invokestatic 428, 3) := by decide +kernel
theorem dX11_isCalledSo_15 : decode cX11_isCalledSo 15 = .ok (.istore 4, 2) := by decide +kernel
theorem dX11_isCalledSo_17 : decode cX11_isCalledSo 17 = .ok (.iload_n 1, 1) := by decide +kernel
theorem dX11_isCalledSo_18 : decode cX11_isCalledSo 18 = .ok (.iload_n 2, 1) := by decide +kernel
theorem dX11_isCalledSo_19 : decode cX11_isCalledSo 19 = .ok (.iload_n 3, 1) := by decide +kernel
theorem dX11_isCalledSo_20 : decode cX11_isCalledSo 20 = .ok (.invokestatic 428, 3) := by decide +kernel
theorem dX11_isCalledSo_23 : decode cX11_isCalledSo 23 = .ok (.istore 5, 2) := by decide +kernel
theorem dX11_isCalledSo_25 : decode cX11_isCalledSo 25 = .ok (.iload_n 0, 1) := by decide +kernel
theorem dX11_isCalledSo_26 : decode cX11_isCalledSo 26 = .ok (.iload_n 2, 1) := by decide +kernel
theorem dX11_isCalledSo_27 : decode cX11_isCalledSo 27 = .ok (.iload 4, 2) := by decide +kernel
theorem dX11_isCalledSo_29 : decode cX11_isCalledSo 29 = .ok (.invokestatic 428, 3) := by decide +kernel
theorem dX11_isCalledSo_32 : decode cX11_isCalledSo 32 = .ok (.istore 6, 2) := by decide +kernel
theorem dX11_isCalledSo_34 : decode cX11_isCalledSo 34 = .ok (.iload_n 0, 1) := by decide +kernel
theorem dX11_isCalledSo_35 : decode cX11_isCalledSo 35 = .ok (.iload_n 2, 1) := by decide +kernel
theorem dX11_isCalledSo_36 : decode cX11_isCalledSo 36 = .ok (.iload 5, 2) := by decide +kernel
theorem dX11_isCalledSo_38 : decode cX11_isCalledSo 38 = .ok (.invokestatic 428, 3) := by decide +kernel
theorem dX11_isCalledSo_41 : decode cX11_isCalledSo 41 = .ok (.istore 7, 2) := by decide +kernel
theorem dX11_isCalledSo_43 : decode cX11_isCalledSo 43 = .ok (.iload 6, 2) := by decide +kernel
theorem dX11_isCalledSo_45 : decode cX11_isCalledSo 45 = .ok (.iload 7, 2) := by decide +kernel
theorem dX11_isCalledSo_47 : decode cX11_isCalledSo 47 = .ok (.if_icmp .gt 17, 3) := by decide +kernel
theorem dX11_isCalledSo_50 : decode cX11_isCalledSo 50 = .ok (.iload 6, 2) := by decide +kernel
theorem dX11_isCalledSo_52 : decode cX11_isCalledSo 52 = .ok (.iload 7, 2) := by decide +kernel
theorem dX11_isCalledSo_54 : decode cX11_isCalledSo 54 = .ok (.if_icmp .ne 12, 3) := by decide +kernel
theorem dX11_isCalledSo_57 : decode cX11_isCalledSo 57 = .ok (.iload 4, 2) := by decide +kernel
theorem dX11_isCalledSo_59 : decode cX11_isCalledSo 59 = .ok (.iload 5, 2) := by decide +kernel
theorem dX11_isCalledSo_61 : decode cX11_isCalledSo 61 = .ok (.if_icmp .le 5, 3) := by decide +kernel
theorem dX11_isCalledSo_64 : decode cX11_isCalledSo 64 = .ok (.iconst 0, 1) := by decide +kernel
theorem dX11_isCalledSo_65 : decode cX11_isCalledSo 65 = .ok (.ireturn, 1) := by decide +kernel
theorem dX11_isCalledSo_66 : decode cX11_isCalledSo 66 = .ok (.iinc 3 1, 3) := by decide +kernel
theorem dX11_isCalledSo_69 : decode cX11_isCalledSo 69 = .ok (.goto (-67), 3) := by decide +kernel
theorem dX11_isCalledSo_72 : decode cX11_isCalledSo 72 = .ok (.iconst 1, 1) := by decide +kernel
theorem dX11_isCalledSo_73 : decode cX11_isCalledSo 73 = .ok (.ireturn, 1) := by decide +kernel
theorem dX12_init_0 : decode cX12_init 0 = .ok (.aload_n 0, 1) := by decide +kernel
theorem dX12_init_1 : decode cX12_init 1 = .ok (.invokespecial 3, 3) := by decide +kernel
theorem dX12_init_4 : decode cX12_init 4 = .ok (.aload_n 0, 1) := by decide +kernel
theorem dX12_init_5 : decode cX12_init 5 = .ok (.sipush 240, 3) := by decide +kernel
theorem dX12_init_8 : decode cX12_init 8 = .ok (.newarray .byte, 2) := by decide +kernel
theorem dX12_init_10 : decode cX12_init 10 = .ok (.putfield 9, 3) := by decide +kernel
theorem dX12_init_13 : decode cX12_init 13 = .ok (.aload_n 0, 1) := by decide +kernel
theorem dX12_init_14 : decode cX12_init 14 = .ok (.sipush 1440, 3) := by decide +kernel
theorem dX12_init_17 : decode cX12_init 17 = .ok (.newarray .byte, 2) := by decide +kernel
theorem dX12_init_19 : decode cX12_init 19 = .ok (.putfield 13, 3) := by decide +kernel
theorem dX12_init_22 : decode cX12_init 22 = .ok (.aload_n 0, 1) := by decide +kernel
theorem dX12_init_23 : decode cX12_init 23 = .ok (.bipush 6, 2) := by decide +kernel
theorem dX12_init_25 : decode cX12_init 25 = .ok (.newarray .int, 2) := by decide +kernel
theorem dX12_init_27 : decode cX12_init 27 = .ok (.putfield 16, 3) := by decide +kernel
theorem dX12_init_30 : decode cX12_init 30 = .ok (.aload_n 0, 1) := by decide +kernel
theorem dX12_init_31 : decode cX12_init 31 = .ok (.sipush 128, 3) := by decide +kernel
theorem dX12_init_34 : decode cX12_init 34 = .ok (.newarray .int, 2) := by decide +kernel
theorem dX12_init_36 : decode cX12_init 36 = .ok (.putfield 20, 3) := by decide +kernel
theorem dX12_init_39 : decode cX12_init 39 = .ok (.aload_n 0, 1) := by decide +kernel
theorem dX12_init_40 : decode cX12_init 40 = .ok (.aload_n 0, 1) := by decide +kernel
theorem dX12_init_41 : decode cX12_init 41 = .ok (.getfield 9, 3) := by decide +kernel
theorem dX12_init_44 : decode cX12_init 44 = .ok (.putfield 23, 3) := by decide +kernel
theorem dX12_init_47 : decode cX12_init 47 = .ok (.aload_n 0, 1) := by decide +kernel
theorem dX12_init_48 : decode cX12_init 48 = .ok (.ldc 26, 2) := by decide +kernel
theorem dX12_init_50 : decode cX12_init 50 = .ok (.putfield 28, 3) := by decide +kernel
theorem dX12_init_53 : decode cX12_init 53 = .ok (.aload_n 0, 1) := by decide +kernel
theorem dX12_init_54 : decode cX12_init 54 = .ok (.ldc 32, 2) := by decide +kernel
theorem dX12_init_56 : decode cX12_init 56 = .ok (.putfield 34, 3) := by decide +kernel
theorem dX12_init_59 : decode cX12_init 59 = .ok (.aload_n 0, 1) := by decide +kernel
theorem dX12_init_60 : decode cX12_init 60 = .ok (.bipush 60, 2) := by decide +kernel
theorem dX12_init_62 : decode cX12_init 62 = .ok (.newarray .int, 2) := by decide +kernel
theorem dX12_init_64 : decode cX12_init 64 = .ok (.putfield 37, 3) := by decide +kernel
theorem dX12_init_67 : decode cX12_init 67 = .ok (.aload_n 0, 1) := by decide +kernel
theorem dX12_init_68 : decode cX12_init 68 = .ok (.bipush 60, 2) := by decide +kernel
theorem dX12_init_70 : decode cX12_init 70 = .ok (.newarray .int, 2) := by decide +kernel
theorem dX12_init_72 : decode cX12_init 72 = .ok (.putfield 40, 3) := by decide +kernel
theorem dX12_init_75 : decode cX12_init 75 = .ok (.aload_n 0, 1) := by decide +kernel
theorem dX12_init_76 : decode cX12_init 76 = .ok (.iconst 4, 1) := by decide +kernel
theorem dX12_init_77 : decode cX12_init 77 = .ok (.newarray .int, 2) := by decide +kernel
theorem dX12_init_79 : decode cX12_init 79 = .ok (.putfield 43, 3) := by decide +kernel
theorem dX12_init_82 : decode cX12_init 82 = .ok (.aload_n 0, 1) := by decide +kernel
theorem dX12_init_83 : decode cX12_init 83 = .ok (.iconst 4, 1) := by decide +kernel
theorem dX12_init_84 : decode cX12_init 84 = .ok (.newarray .int, 2) := by decide +kernel
theorem dX12_init_86 : decode cX12_init 86 = .ok (.putfield 46, 3) := by decide +kernel
theorem dX12_init_89 : decode cX12_init 89 = .ok (.aload_n 0, 1) := by decide +kernel
theorem dX12_init_90 : decode cX12_init 90 = .ok (.sipush 251, 3) := by decide +kernel
theorem dX12_init_93 : decode cX12_init 93 = .ok (.newarray .int, 2) := by decide +kernel
theorem dX12_init_95 : decode cX12_init 95 = .ok (.putfield 49, 3) := by decide +kernel
theorem dX12_init_98 : decode cX12_init 98 = .ok (.aload_n 0, 1) := by decide +kernel
theorem dX12_init_99 : decode cX12_init 99 = .ok (.sipush 251, 3) := by decide +kernel
theorem dX12_init_102 : decode cX12_init 102 = .ok (.newarray .int, 2) := by decide +kernel
theorem dX12_init_104 : decode cX12_init 104 = .ok (.putfield 52, 3) := by decide +kernel
theorem dX12_init_107 : decode cX12_init 107 = .ok (.aload_n 0, 1) := by decide +kernel
theorem dX12_init_108 : decode cX12_init 108 = .ok (.iconst (-1), 1) := by decide +kernel
theorem dX12_init_109 : decode cX12_init 109 = .ok (.putfield 55, 3) := by decide +kernel
theorem dX12_init_112 : decode cX12_init 112 = .ok (.aload_n 0, 1) := by decide +kernel
theorem dX12_init_113 : decode cX12_init 113 = .ok (.iconst (-1), 1) := by decide +kernel
theorem dX12_init_114 : decode cX12_init 114 = .ok (.putfield 59, 3) := by decide +kernel
theorem dX12_init_117 : decode cX12_init 117 = .ok (.aload_n 0, 1) := by decide +kernel
theorem dX12_init_118 : decode cX12_init 118 = .ok (.sipush 8191, 3) := by decide +kernel
theorem dX12_init_121 : decode cX12_init 121 = .ok (.newarray .long, 2) := by decide +kernel
theorem dX12_init_123 : decode cX12_init 123 = .ok (.putfield 62, 3) := by decide +kernel
theorem dX12_init_126 : decode cX12_init 126 = .ok (.aload_n 0, 1) := by decide +kernel
theorem dX12_init_127 : decode cX12_init 127 = .ok (.sipush 8191, 3) := by decide +kernel
theorem dX12_init_130 : decode cX12_init 130 = .ok (.newarray .int, 2) := by decide +kernel
theorem dX12_init_132 : decode cX12_init 132 = .ok (.putfield 66, 3) := by decide +kernel
theorem dX12_init_135 : decode cX12_init 135 = .ok (.aload_n 0, 1) := by decide +kernel
theorem dX12_init_136 : decode cX12_init 136 = .ok (.sipush 10040, 3) := by decide +kernel
theorem dX12_init_139 : decode cX12_init 139 = .ok (.newarray .int, 2) := by decide +kernel
theorem dX12_init_141 : decode cX12_init 141 = .ok (.putfield 69, 3) := by decide +kernel
theorem dX12_init_144 : decode cX12_init 144 = .ok (.aload_n 0, 1) := by decide +kernel
theorem dX12_init_145 : decode cX12_init 145 = .ok (.sipush 3514, 3) := by decide +kernel
theorem dX12_init_148 : decode cX12_init 148 = .ok (.newarray .int, 2) := by decide +kernel
theorem dX12_init_150 : decode cX12_init 150 = .ok (.putfield 72, 3) := by decide +kernel
theorem dX12_init_153 : decode cX12_init 153 = .ok (.aload_n 0, 1) := by decide +kernel
theorem dX12_init_154 : decode cX12_init 154 = .ok (.bipush 42, 2) := by decide +kernel
theorem dX12_init_156 : decode cX12_init 156 = .ok (.newarray .long, 2) := by decide +kernel
theorem dX12_init_158 : decode cX12_init 158 = .ok (.putfield 75, 3) := by decide +kernel
theorem dX12_init_161 : decode cX12_init 161 = .ok (.aload_n 0, 1) := by decide +kernel
theorem dX12_init_162 : decode cX12_init 162 = .ok (.bipush 6, 2) := by decide +kernel
theorem dX12_init_164 : decode cX12_init 164 = .ok (.newarray .long, 2) := by decide +kernel
theorem dX12_init_166 : decode cX12_init 166 = .ok (.putfield 78, 3) := by decide +kernel
theorem dX12_init_169 : decode cX12_init 169 = .ok (.aload_n 0, 1) := by decide +kernel
theorem dX12_init_170 : decode cX12_init 170 = .ok (.sipush 251, 3) := by decide +kernel
theorem dX12_init_173 : decode cX12_init 173 = .ok (.newarray .int, 2) := by decide +kernel
theorem dX12_init_175 : decode cX12_init 175 = .ok (.putfield 81, 3) := by decide +kernel
theorem dX12_init_178 : decode cX12_init 178 = .ok (.aload_n 0, 1) := by decide +kernel
theorem dX12_init_179 : decode cX12_init 179 = .ok (.bipush 6, 2) := by decide +kernel
theorem dX12_init_181 : decode cX12_init 181 = .ok (.newarray .int, 2) := by decide +kernel
theorem dX12_init_183 : decode cX12_init 183 = .ok (.putfield 84, 3) := by decide +kernel
theorem dX12_init_186 : decode cX12_init 186 = .ok (.aload_n 0, 1) := by decide +kernel
theorem dX12_init_187 : decode cX12_init 187 = .ok (.sipush 192, 3) := by decide +kernel
theorem dX12_init_190 : decode cX12_init 190 = .ok (.newarray .int, 2) := by decide +kernel
theorem dX12_init_192 : decode cX12_init 192 = .ok (.putfield 87, 3) := by decide +kernel
theorem dX12_init_195 : decode cX12_init 195 = .ok (.aload_n 0, 1) := by decide +kernel
theorem dX12_init_196 : decode cX12_init 196 = .ok (.ldc 90, 2) := by decide +kernel
theorem dX12_init_198 : decode cX12_init 198 = .ok (.newarray .int, 2) := by decide +kernel
theorem dX12_init_200 : decode cX12_init 200 = .ok (.putfield 91, 3) := by decide +kernel
theorem dX12_init_203 : decode cX12_init 203 = .ok (.aload_n 0, 1) := by decide +kernel
theorem dX12_init_204 : decode cX12_init 204 = .ok (.bipush 6, 2) := by decide +kernel
theorem dX12_init_206 : decode cX12_init 206 = .ok (.newarray .int, 2) := by decide +kernel
theorem dX12_init_208 : decode cX12_init 208 = .ok (.putfield 94, 3) := by decide +kernel
theorem dX12_init_211 : decode cX12_init 211 = .ok (.aload_n 0, 1) := by decide +kernel
theorem dX12_init_212 : decode cX12_init 212 = .ok (.bipush 6, 2) := by decide +kernel
theorem dX12_init_214 : decode cX12_init 214 = .ok (.newarray .int, 2) := by decide +kernel
theorem dX12_init_216 : decode cX12_init 216 = .ok (.putfield 97, 3) := by decide +kernel
theorem dX12_init_219 : decode cX12_init 219 = .ok (.aload_n 0, 1) := by decide +kernel
theorem dX12_init_220 : decode cX12_init 220 = .ok (.sipush 251, 3) := by decide +kernel
theorem dX12_init_223 : decode cX12_init 223 = .ok (.newarray .int, 2) := by decide +kernel
theorem dX12_init_225 : decode cX12_init 225 = .ok (.putfield 100, 3) := by decide +kernel
theorem dX12_init_228 : decode cX12_init 228 = .ok (.return_, 1) := by decide +kernel
theorem dX12_thrown_0 : decode cX12_thrown 0 = .ok (.aload_n 0, 1) := by decide +kernel
theorem dX12_thrown_1 : decode cX12_thrown 1 = .ok (.getfield 103, 3) := by decide +kernel
theorem dX12_thrown_4 : decode cX12_thrown 4 = .ok (.ireturn, 1) := by decide +kernel
theorem dX12_isIn_0 : decode cX12_isIn 0 = .ok (.lload_n 0, 1) := by decide +kernel
theorem dX12_isIn_1 : decode cX12_isIn 1 = .ok (.lload_n 2, 1) := by decide +kernel
theorem dX12_isIn_2 : decode cX12_isIn 2 = .ok (.lcmp, 1) := by decide +kernel
theorem dX12_isIn_3 : decode cX12_isIn 3 = .ok (.ifCond .lt 14, 3) := by decide +kernel
theorem dX12_isIn_6 : decode cX12_isIn 6 = .ok (.lload_n 0, 1) := by decide +kernel
theorem dX12_isIn_7 : decode cX12_isIn 7 = .ok (.lload 4, 2) := by decide +kernel
theorem dX12_isIn_9 : decode cX12_isIn 9 = .ok (.lcmp, 1) := by decide +kernel
theorem dX12_isIn_10 : decode cX12_isIn 10 = .ok (.ifCond .gt 7, 3) := by decide +kernel
theorem dX12_isIn_13 : decode cX12_isIn 13 = .ok (.iconst 1, 1) := by decide +kernel
theorem dX12_isIn_14 : decode cX12_isIn 14 = .ok (.goto 4, 3) := by decide +kernel
theorem dX12_isIn_17 : decode cX12_isIn 17 = .ok (.iconst 0, 1) := by decide +kernel
theorem dX12_isIn_18 : decode cX12_isIn 18 = .ok (.ireturn, 1) := by decide +kernel
theorem dX12_has_0 : decode cX12_has 0 = .ok (.iload_n 0, 1) := by decide +kernel
theorem dX12_has_1 : decode cX12_has 1 = .ok (.iload_n 1, 1) := by decide +kernel
theorem dX12_has_2 : decode cX12_has 2 = .ok (.ishr, 1) := by decide +kernel
theorem dX12_has_3 : decode cX12_has 3 = .ok (.iconst 1, 1) := by decide +kernel
theorem dX12_has_4 : decode cX12_has 4 = .ok (.iand, 1) := by decide +kernel
theorem dX12_has_5 : decode cX12_has 5 = .ok (.iconst 1, 1) := by decide +kernel
theorem dX12_has_6 : decode cX12_has 6 = .ok (.if_icmp .ne 7, 3) := by decide +kernel
theorem dX12_has_9 : decode cX12_has 9 = .ok (.iconst 1, 1) := by decide +kernel
theorem dX12_has_10 : decode cX12_has 10 = .ok (.goto 4, 3) := by decide +kernel
theorem dX12_has_13 : decode cX12_has 13 = .ok (.iconst 0, 1) := by decide +kernel
theorem dX12_has_14 : decode cX12_has 14 = .ok (.ireturn, 1) := by decide +kernel
theorem dX12_isAmong_0 : decode cX12_isAmong 0 = .ok (.iconst 0, 1) := by decide +kernel
theorem dX12_isAmong_1 : decode cX12_isAmong 1 = .ok (.istore_n 2, 1) := by decide +kernel
theorem dX12_isAmong_2 : decode cX12_isAmong 2 = .ok (.iload_n 2, 1) := by decide +kernel
theorem dX12_isAmong_3 : decode cX12_isAmong 3 = .ok (.aload_n 0, 1) := by decide +kernel
theorem dX12_isAmong_4 : decode cX12_isAmong 4 = .ok (.invokevirtual 106, 3) := by decide +kernel
theorem dX12_isAmong_7 : decode cX12_isAmong 7 = .ok (.if_icmp .ge 20, 3) := by decide +kernel
theorem dX12_isAmong_10 : decode cX12_isAmong 10 = .ok (.aload_n 0, 1) := by decide +kernel
theorem dX12_isAmong_11 : decode cX12_isAmong 11 = .ok (.iload_n 2, 1) := by decide +kernel
theorem dX12_isAmong_12 : decode cX12_isAmong 12 = .ok (.invokevirtual 112, 3) := by decide +kernel
theorem dX12_isAmong_15 : decode cX12_isAmong 15 = .ok (.iload_n 1, 1) := by decide +kernel
theorem dX12_isAmong_16 : decode cX12_isAmong 16 = .ok (.if_icmp .ne 5, 3) := by decide +kernel
theorem dX12_isAmong_19 : decode cX12_isAmong 19 = .ok (.iconst 1, 1) := by decide +kernel
theorem dX12_isAmong_20 : decode cX12_isAmong 20 = .ok (.ireturn, 1) := by decide +kernel
theorem dX12_isAmong_21 : decode cX12_isAmong 21 = .ok (.iinc 2 1, 3) := by decide +kernel
theorem dX12_isAmong_24 : decode cX12_isAmong 24 = .ok (.goto (-22), 3) := by decide +kernel
theorem dX12_isAmong_27 : decode cX12_isAmong 27 = .ok (.iconst 0, 1) := by decide +kernel
theorem dX12_isAmong_28 : decode cX12_isAmong 28 = .ok (.ireturn, 1) := by decide +kernel
theorem dX12_bytesIn_0 : decode cX12_bytesIn 0 = .ok (.iconst 0, 1) := by decide +kernel
theorem dX12_bytesIn_1 : decode cX12_bytesIn 1 = .ok (.istore_n 1, 1) := by decide +kernel
theorem dX12_bytesIn_2 : decode cX12_bytesIn 2 = .ok (.bipush 24, 2) := by decide +kernel
theorem dX12_bytesIn_4 : decode cX12_bytesIn 4 = .ok (.istore_n 2, 1) := by decide +kernel
theorem dX12_bytesIn_5 : decode cX12_bytesIn 5 = .ok (.iload_n 2, 1) := by decide +kernel
theorem dX12_bytesIn_6 : decode cX12_bytesIn 6 = .ok (.ifCond .lt 27, 3) := by decide +kernel
theorem dX12_bytesIn_9 : decode cX12_bytesIn 9 = .ok (.iload_n 1, 1) := by decide +kernel
theorem dX12_bytesIn_10 : decode cX12_bytesIn 10 = .ok (.iload_n 0, 1) := by decide +kernel
theorem dX12_bytesIn_11 : decode cX12_bytesIn 11 = .ok (.iload_n 2, 1) := by decide +kernel
theorem dX12_bytesIn_12 : decode cX12_bytesIn 12 = .ok (.ishr, 1) := by decide +kernel
theorem dX12_bytesIn_13 : decode cX12_bytesIn 13 = .ok (.sipush 255, 3) := by decide +kernel
theorem dX12_bytesIn_16 : decode cX12_bytesIn 16 = .ok (.iand, 1) := by decide +kernel
theorem dX12_bytesIn_17 : decode cX12_bytesIn 17 = .ok (.ifCond .eq 7, 3) := by decide +kernel
theorem dX12_bytesIn_20 : decode cX12_bytesIn 20 = .ok (.iconst 1, 1) := by decide +kernel
theorem dX12_bytesIn_21 : decode cX12_bytesIn 21 = .ok (.goto 4, 3) := by decide +kernel
theorem dX12_bytesIn_24 : decode cX12_bytesIn 24 = .ok (.iconst 0, 1) := by decide +kernel
theorem dX12_bytesIn_25 : decode cX12_bytesIn 25 = .ok (.iadd, 1) := by decide +kernel
theorem dX12_bytesIn_26 : decode cX12_bytesIn 26 = .ok (.istore_n 1, 1) := by decide +kernel
theorem dX12_bytesIn_27 : decode cX12_bytesIn 27 = .ok (.iinc 2 (-8), 3) := by decide +kernel
theorem dX12_bytesIn_30 : decode cX12_bytesIn 30 = .ok (.goto (-25), 3) := by decide +kernel
theorem dX12_bytesIn_33 : decode cX12_bytesIn 33 = .ok (.iload_n 1, 1) := by decide +kernel
theorem dX12_bytesIn_34 : decode cX12_bytesIn 34 = .ok (.ireturn, 1) := by decide +kernel
theorem dX12_put_0 : decode cX12_put 0 = .ok (.bipush 24, 2) := by decide +kernel
theorem dX12_put_2 : decode cX12_put 2 = .ok (.istore_n 2, 1) := by decide +kernel
theorem dX12_put_3 : decode cX12_put 3 = .ok (.iload_n 2, 1) := by decide +kernel
theorem dX12_put_4 : decode cX12_put 4 = .ok (.ifCond .lt 45, 3) := by decide +kernel
theorem dX12_put_7 : decode cX12_put 7 = .ok (.iload_n 1, 1) := by decide +kernel
theorem dX12_put_8 : decode cX12_put 8 = .ok (.iload_n 2, 1) := by decide +kernel
theorem dX12_put_9 : decode cX12_put 9 = .ok (.ishr, 1) := by decide +kernel
theorem dX12_put_10 : decode cX12_put 10 = .ok (.sipush 255, 3) := by decide +kernel
theorem dX12_put_13 : decode cX12_put 13 = .ok (.iand, 1) := by decide +kernel
theorem dX12_put_14 : decode cX12_put 14 = .ok (.ifCond .ne 6, 3) := by decide +kernel
theorem dX12_put_17 : decode cX12_put 17 = .ok (.goto 26, 3) := by decide +kernel
theorem dX12_put_20 : decode cX12_put 20 = .ok (.aload_n 0, 1) := by decide +kernel
theorem dX12_put_21 : decode cX12_put 21 = .ok (.getfield 9, 3) := by decide +kernel
theorem dX12_put_24 : decode cX12_put 24 = .ok (.aload_n 0, 1) := by decide +kernel
theorem dX12_put_25 : decode cX12_put 25 = .ok (.getfield 116, 3) := by decide +kernel
theorem dX12_put_28 : decode cX12_put 28 = .ok (.iload_n 1, 1) := by decide +kernel
theorem dX12_put_29 : decode cX12_put 29 = .ok (.iload_n 2, 1) := by decide +kernel
theorem dX12_put_30 : decode cX12_put 30 = .ok (.ishr, 1) := by decide +kernel
theorem dX12_put_31 : decode cX12_put 31 = .ok (.i2b, 1) := by decide +kernel
theorem dX12_put_32 : decode cX12_put 32 = .ok (.bastore, 1) := by decide +kernel
theorem dX12_put_33 : decode cX12_put 33 = .ok (.aload_n 0, 1) := by decide +kernel
theorem dX12_put_34 : decode cX12_put 34 = .ok (.dup, 1) := by decide +kernel
theorem dX12_put_35 : decode cX12_put 35 = .ok (.getfield 116, 3) := by decide +kernel
theorem dX12_put_38 : decode cX12_put 38 = .ok (.iconst 1, 1) := by decide +kernel
theorem dX12_put_39 : decode cX12_put 39 = .ok (.iadd, 1) := by decide +kernel
theorem dX12_put_40 : decode cX12_put 40 = .ok (.putfield 116, 3) := by decide +kernel
theorem dX12_put_43 : decode cX12_put 43 = .ok (.iinc 2 (-8), 3) := by decide +kernel
theorem dX12_put_46 : decode cX12_put 46 = .ok (.goto (-43), 3) := by decide +kernel
theorem dX12_put_49 : decode cX12_put 49 = .ok (.return_, 1) := by decide +kernel
theorem dX12_feed_0 : decode cX12_feed 0 = .ok (.aload_n 0, 1) := by decide +kernel
theorem dX12_feed_1 : decode cX12_feed 1 = .ok (.iconst 0, 1) := by decide +kernel
theorem dX12_feed_2 : decode cX12_feed 2 = .ok (.putfield 103, 3) := by decide +kernel
theorem dX12_feed_5 : decode cX12_feed 5 = .ok (.aload_n 0, 1) := by decide +kernel
theorem dX12_feed_6 : decode cX12_feed 6 = .ok (.getfield 116, 3) := by decide +kernel
theorem dX12_feed_9 : decode cX12_feed 9 = .ok (.iload_n 1, 1) := by decide +kernel
theorem dX12_feed_10 : decode cX12_feed 10 = .ok (.invokestatic 118, 3) := by decide +kernel
theorem dX12_feed_13 : decode cX12_feed 13 = .ok (.iadd, 1) := by decide +kernel
theorem dX12_feed_14 : decode cX12_feed 14 = .ok (.iload_n 2, 1) := by decide +kernel
theorem dX12_feed_15 : decode cX12_feed 15 = .ok (.invokestatic 118, 3) := by decide +kernel
theorem dX12_feed_18 : decode cX12_feed 18 = .ok (.iadd, 1) := by decide +kernel
theorem dX12_feed_19 : decode cX12_feed 19 = .ok (.iload_n 3, 1) := by decide +kernel
theorem dX12_feed_20 : decode cX12_feed 20 = .ok (.invokestatic 118, 3) := by decide +kernel
theorem dX12_feed_23 : decode cX12_feed 23 = .ok (.iadd, 1) := by decide +kernel
theorem dX12_feed_24 : decode cX12_feed 24 = .ok (.iload 4, 2) := by decide +kernel
theorem dX12_feed_26 : decode cX12_feed 26 = .ok (.invokestatic 118, 3) := by decide +kernel
theorem dX12_feed_29 : decode cX12_feed 29 = .ok (.iadd, 1) := by decide +kernel
theorem dX12_feed_30 : decode cX12_feed 30 = .ok (.iload 5, 2) := by decide +kernel
theorem dX12_feed_32 : decode cX12_feed 32 = .ok (.invokestatic 118, 3) := by decide +kernel
theorem dX12_feed_35 : decode cX12_feed 35 = .ok (.iadd, 1) := by decide +kernel
theorem dX12_feed_36 : decode cX12_feed 36 = .ok (.sipush 240, 3) := by decide +kernel
theorem dX12_feed_39 : decode cX12_feed 39 = .ok (.if_icmp .le 5, 3) := by decide +kernel
theorem dX12_feed_42 : decode cX12_feed 42 = .ok (.iconst (-1), 1) := by decide +kernel
theorem dX12_feed_43 : decode cX12_feed 43 = .ok (.ireturn, 1) := by decide +kernel
theorem dX12_feed_44 : decode cX12_feed 44 = .ok (.aload_n 0, 1) := by decide +kernel
theorem dX12_feed_45 : decode cX12_feed 45 = .ok (.iload_n 1, 1) := by decide +kernel
theorem dX12_feed_46 : decode cX12_feed 46 = .ok (.invokevirtual 122, 3) := by decide +kernel
theorem dX12_feed_49 : decode cX12_feed 49 = .ok (.aload_n 0, 1) := by decide +kernel
theorem dX12_feed_50 : decode cX12_feed 50 = .ok (.iload_n 2, 1) := by decide +kernel
theorem dX12_feed_51 : decode cX12_feed 51 = .ok (.invokevirtual 122, 3) := by decide +kernel
theorem dX12_feed_54 : decode cX12_feed 54 = .ok (.aload_n 0, 1) := by decide +kernel
theorem dX12_feed_55 : decode cX12_feed 55 = .ok (.iload_n 3, 1) := by decide +kernel
theorem dX12_feed_56 : decode cX12_feed 56 = .ok (.invokevirtual 122, 3) := by decide +kernel
theorem dX12_feed_59 : decode cX12_feed 59 = .ok (.aload_n 0, 1) := by decide +kernel
theorem dX12_feed_60 : decode cX12_feed 60 = .ok (.iload 4, 2) := by decide +kernel
theorem dX12_feed_62 : decode cX12_feed 62 = .ok (.invokevirtual 122, 3) := by decide +kernel
theorem dX12_feed_65 : decode cX12_feed 65 = .ok (.aload_n 0, 1) := by decide +kernel
theorem dX12_feed_66 : decode cX12_feed 66 = .ok (.iload 5, 2) := by decide +kernel
theorem dX12_feed_68 : decode cX12_feed 68 = .ok (.invokevirtual 122, 3) := by decide +kernel
theorem dX12_feed_71 : decode cX12_feed 71 = .ok (.aload_n 0, 1) := by decide +kernel
theorem dX12_feed_72 : decode cX12_feed 72 = .ok (.getfield 116, 3) := by decide +kernel
theorem dX12_feed_75 : decode cX12_feed 75 = .ok (.ireturn, 1) := by decide +kernel
theorem dX12_end_0 : decode cX12_end 0 = .ok (.aload_n 0, 1) := by decide +kernel
theorem dX12_end_1 : decode cX12_end 1 = .ok (.iconst 0, 1) := by decide +kernel
theorem dX12_end_2 : decode cX12_end 2 = .ok (.putfield 103, 3) := by decide +kernel
theorem dX12_end_5 : decode cX12_end 5 = .ok (.iload_n 1, 1) := by decide +kernel
theorem dX12_end_6 : decode cX12_end 6 = .ok (.ifCond .lt 11, 3) := by decide +kernel
theorem dX12_end_9 : decode cX12_end 9 = .ok (.iload_n 1, 1) := by decide +kernel
theorem dX12_end_10 : decode cX12_end 10 = .ok (.aload_n 0, 1) := by decide +kernel
theorem dX12_end_11 : decode cX12_end 11 = .ok (.getfield 116, 3) := by decide +kernel
theorem dX12_end_14 : decode cX12_end 14 = .ok (.if_icmp .le 5, 3) := by decide +kernel
theorem dX12_end_17 : decode cX12_end 17 = .ok (.iconst 0, 1) := by decide +kernel
theorem dX12_end_18 : decode cX12_end 18 = .ok (.ireturn, 1) := by decide +kernel
theorem dX12_end_19 : decode cX12_end 19 = .ok (.aload_n 0, 1) := by decide +kernel
theorem dX12_end_20 : decode cX12_end 20 = .ok (.iload_n 1, 1) := by decide +kernel
theorem dX12_end_21 : decode cX12_end 21 = .ok (.putfield 116, 3) := by decide +kernel
theorem dX12_end_24 : decode cX12_end 24 = .ok (.iconst 1, 1) := by decide +kernel
theorem dX12_end_25 : decode cX12_end 25 = .ok (.ireturn, 1) := by decide +kernel
theorem dX12_look_0 : decode cX12_look 0 = .ok (.aload_n 0, 1) := by decide +kernel
theorem dX12_look_1 : decode cX12_look 1 = .ok (.getfield 126, 3) := by decide +kernel
theorem dX12_look_4 : decode cX12_look 4 = .ok (.aload_n 0, 1) := by decide +kernel
theorem dX12_look_5 : decode cX12_look 5 = .ok (.getfield 129, 3) := by decide +kernel
theorem dX12_look_8 : decode cX12_look 8 = .ok (.if_icmp .ge 35, 3) := by decide +kernel
theorem dX12_look_11 : decode cX12_look 11 = .ok (.aload_n 0, 1) := by decide +kernel
theorem dX12_look_12 : decode cX12_look 12 = .ok (.getfield 23, 3) := by decide +kernel
theorem dX12_look_15 : decode cX12_look 15 = .ok (.aload_n 0, 1) := by decide +kernel
theorem dX12_look_16 : decode cX12_look 16 = .ok (.getfield 132, 3) := by decide +kernel
theorem dX12_look_19 : decode cX12_look 19 = .ok (.aload_n 0, 1) := by decide +kernel
theorem dX12_look_20 : decode cX12_look 20 = .ok (.getfield 126, 3) := by decide +kernel
theorem dX12_look_23 : decode cX12_look 23 = .ok (.iadd, 1) := by decide +kernel
theorem dX12_look_24 : decode cX12_look 24 = .ok (.baload, 1) := by decide +kernel
theorem dX12_look_25 : decode cX12_look 25 = .ok (.bipush 32, 2) := by decide +kernel
theorem dX12_look_27 : decode cX12_look 27 = .ok (.if_icmp .ne 16, 3) := by decide +kernel
theorem dX12_look_30 : decode cX12_look 30 = .ok (.aload_n 0, 1) := by decide +kernel
theorem dX12_look_31 : decode cX12_look 31 = .ok (.dup, 1) := by decide +kernel
theorem dX12_look_32 : decode cX12_look 32 = .ok (.getfield 126, 3) := by decide +kernel
theorem dX12_look_35 : decode cX12_look 35 = .ok (.iconst 1, 1) := by decide +kernel
theorem dX12_look_36 : decode cX12_look 36 = .ok (.iadd, 1) := by decide +kernel
theorem dX12_look_37 : decode cX12_look 37 = .ok (.putfield 126, 3) := by decide +kernel
theorem dX12_look_40 : decode cX12_look 40 = .ok (.goto (-40), 3) := by decide +kernel
theorem dX12_look_43 : decode cX12_look 43 = .ok (.aload_n 0, 1) := by decide +kernel
theorem dX12_look_44 : decode cX12_look 44 = .ok (.getfield 126, 3) := by decide +kernel
theorem dX12_look_47 : decode cX12_look 47 = .ok (.aload_n 0, 1) := by decide +kernel
theorem dX12_look_48 : decode cX12_look 48 = .ok (.getfield 129, 3) := by decide +kernel
theorem dX12_look_51 : decode cX12_look 51 = .ok (.if_icmp .ge 24, 3) := by decide +kernel
theorem dX12_look_54 : decode cX12_look 54 = .ok (.aload_n 0, 1) := by decide +kernel
theorem dX12_look_55 : decode cX12_look 55 = .ok (.getfield 23, 3) := by decide +kernel
theorem dX12_look_58 : decode cX12_look 58 = .ok (.aload_n 0, 1) := by decide +kernel
theorem dX12_look_59 : decode cX12_look 59 = .ok (.getfield 132, 3) := by decide +kernel
theorem dX12_look_62 : decode cX12_look 62 = .ok (.aload_n 0, 1) := by decide +kernel
theorem dX12_look_63 : decode cX12_look 63 = .ok (.getfield 126, 3) := by decide +kernel
theorem dX12_look_66 : decode cX12_look 66 = .ok (.iadd, 1) := by decide +kernel
theorem dX12_look_67 : decode cX12_look 67 = .ok (.baload, 1) := by decide +kernel
theorem dX12_look_68 : decode cX12_look 68 = .ok (.sipush 255, 3) := by decide +kernel
theorem dX12_look_71 : decode cX12_look 71 = .ok (.iand, 1) := by decide +kernel
theorem dX12_look_72 : decode cX12_look 72 = .ok (.goto 4, 3) := by decide +kernel
theorem dX12_look_75 : decode cX12_look 75 = .ok (.iconst (-1), 1) := by decide +kernel
theorem dX12_look_76 : decode cX12_look 76 = .ok (.ireturn, 1) := by decide +kernel
theorem dX12_fails_0 : decode cX12_fails 0 = .ok (.aload_n 0, 1) := by decide +kernel
theorem dX12_fails_1 : decode cX12_fails 1 = .ok (.getfield 135, 3) := by decide +kernel
theorem dX12_fails_4 : decode cX12_fails 4 = .ok (.iconst (-1), 1) := by decide +kernel
theorem dX12_fails_5 : decode cX12_fails 5 = .ok (.if_icmp .ne 11, 3) := by decide +kernel
theorem dX12_fails_8 : decode cX12_fails 8 = .ok (.aload_n 0, 1) := by decide +kernel
theorem dX12_fails_9 : decode cX12_fails 9 = .ok (.aload_n 0, 1) := by decide +kernel
theorem dX12_fails_10 : decode cX12_fails 10 = .ok (.getfield 126, 3) := by decide +kernel
theorem dX12_fails_13 : decode cX12_fails 13 = .ok (.putfield 135, 3) := by decide +kernel
theorem dX12_fails_16 : decode cX12_fails 16 = .ok (.iconst 0, 1) := by decide +kernel
theorem dX12_fails_17 : decode cX12_fails 17 = .ok (.ireturn, 1) := by decide +kernel
theorem dX12_goesIn_0 : decode cX12_goesIn 0 = .ok (.aload_n 0, 1) := by decide +kernel
theorem dX12_goesIn_1 : decode cX12_goesIn 1 = .ok (.getfield 138, 3) := by decide +kernel
theorem dX12_goesIn_4 : decode cX12_goesIn 4 = .ok (.bipush 6, 2) := by decide +kernel
theorem dX12_goesIn_6 : decode cX12_goesIn 6 = .ok (.if_icmp .ne 8, 3) := by decide +kernel
theorem dX12_goesIn_9 : decode cX12_goesIn 9 = .ok (.aload_n 0, 1) := by decide +kernel
theorem dX12_goesIn_10 : decode cX12_goesIn 10 = .ok (.invokevirtual 141, 3) := by decide +kernel
theorem dX12_goesIn_13 : decode cX12_goesIn 13 = .ok (.ireturn, 1) := by decide +kernel
theorem dX12_goesIn_14 : decode cX12_goesIn 14 = .ok (.aload_n 0, 1) := by decide +kernel
theorem dX12_goesIn_15 : decode cX12_goesIn 15 = .ok (.dup, 1) := by decide +kernel
theorem dX12_goesIn_16 : decode cX12_goesIn 16 = .ok (.getfield 138, 3) := by decide +kernel
theorem dX12_goesIn_19 : decode cX12_goesIn 19 = .ok (.iconst 1, 1) := by decide +kernel
theorem dX12_goesIn_20 : decode cX12_goesIn 20 = .ok (.iadd, 1) := by decide +kernel
theorem dX12_goesIn_21 : decode cX12_goesIn 21 = .ok (.putfield 138, 3) := by decide +kernel
theorem dX12_goesIn_24 : decode cX12_goesIn 24 = .ok (.aload_n 0, 1) := by decide +kernel
theorem dX12_goesIn_25 : decode cX12_goesIn 25 = .ok (.dup, 1) := by decide +kernel
theorem dX12_goesIn_26 : decode cX12_goesIn 26 = .ok (.getfield 126, 3) := by decide +kernel
theorem dX12_goesIn_29 : decode cX12_goesIn 29 = .ok (.iconst 1, 1) := by decide +kernel
theorem dX12_goesIn_30 : decode cX12_goesIn 30 = .ok (.iadd, 1) := by decide +kernel
theorem dX12_goesIn_31 : decode cX12_goesIn 31 = .ok (.putfield 126, 3) := by decide +kernel
theorem dX12_goesIn_34 : decode cX12_goesIn 34 = .ok (.iconst 1, 1) := by decide +kernel
theorem dX12_goesIn_35 : decode cX12_goesIn 35 = .ok (.ireturn, 1) := by decide +kernel
theorem dX12_takes_0 : decode cX12_takes 0 = .ok (.aload_n 0, 1) := by decide +kernel
theorem dX12_takes_1 : decode cX12_takes 1 = .ok (.getfield 135, 3) := by decide +kernel
theorem dX12_takes_4 : decode cX12_takes 4 = .ok (.iconst (-1), 1) := by decide +kernel
theorem dX12_takes_5 : decode cX12_takes 5 = .ok (.if_icmp .ne 11, 3) := by decide +kernel
theorem dX12_takes_8 : decode cX12_takes 8 = .ok (.aload_n 0, 1) := by decide +kernel
theorem dX12_takes_9 : decode cX12_takes 9 = .ok (.invokevirtual 145, 3) := by decide +kernel
theorem dX12_takes_12 : decode cX12_takes 12 = .ok (.iload_n 1, 1) := by decide +kernel
theorem dX12_takes_13 : decode cX12_takes 13 = .ok (.if_icmp .eq 8, 3) := by decide +kernel
theorem dX12_takes_16 : decode cX12_takes 16 = .ok (.aload_n 0, 1) := by decide +kernel
theorem dX12_takes_17 : decode cX12_takes 17 = .ok (.invokevirtual 141, 3) := by decide +kernel
theorem dX12_takes_20 : decode cX12_takes 20 = .ok (.ireturn, 1) := by decide +kernel
theorem dX12_takes_21 : decode cX12_takes 21 = .ok (.aload_n 0, 1) := by decide +kernel
theorem dX12_takes_22 : decode cX12_takes 22 = .ok (.dup, 1) := by decide +kernel
theorem dX12_takes_23 : decode cX12_takes 23 = .ok (.getfield 126, 3) := by decide +kernel
theorem dX12_takes_26 : decode cX12_takes 26 = .ok (.iconst 1, 1) := by decide +kernel
theorem dX12_takes_27 : decode cX12_takes 27 = .ok (.iadd, 1) := by decide +kernel
theorem dX12_takes_28 : decode cX12_takes 28 = .ok (.putfield 126, 3) := by decide +kernel
theorem dX12_takes_31 : decode cX12_takes 31 = .ok (.iconst 1, 1) := by decide +kernel
theorem dX12_takes_32 : decode cX12_takes 32 = .ok (.ireturn, 1) := by decide +kernel
theorem dX12_isDigit_0 : decode cX12_isDigit 0 = .ok (.aload_n 0, 1) := by decide +kernel
theorem dX12_isDigit_1 : decode cX12_isDigit 1 = .ok (.getfield 126, 3) := by decide +kernel
theorem dX12_isDigit_4 : decode cX12_isDigit 4 = .ok (.aload_n 0, 1) := by decide +kernel
theorem dX12_isDigit_5 : decode cX12_isDigit 5 = .ok (.getfield 129, 3) := by decide +kernel
theorem dX12_isDigit_8 : decode cX12_isDigit 8 = .ok (.if_icmp .ge 45, 3) := by decide +kernel
theorem dX12_isDigit_11 : decode cX12_isDigit 11 = .ok (.aload_n 0, 1) := by decide +kernel
theorem dX12_isDigit_12 : decode cX12_isDigit 12 = .ok (.getfield 23, 3) := by decide +kernel
theorem dX12_isDigit_15 : decode cX12_isDigit 15 = .ok (.aload_n 0, 1) := by decide +kernel
theorem dX12_isDigit_16 : decode cX12_isDigit 16 = .ok (.getfield 132, 3) := by decide +kernel
theorem dX12_isDigit_19 : decode cX12_isDigit 19 = .ok (.aload_n 0, 1) := by decide +kernel
theorem dX12_isDigit_20 : decode cX12_isDigit 20 = .ok (.getfield 126, 3) := by decide +kernel
theorem dX12_isDigit_23 : decode cX12_isDigit 23 = .ok (.iadd, 1) := by decide +kernel
theorem dX12_isDigit_24 : decode cX12_isDigit 24 = .ok (.baload, 1) := by decide +kernel
theorem dX12_isDigit_25 : decode cX12_isDigit 25 = .ok (.bipush 48, 2) := by decide +kernel
theorem dX12_isDigit_27 : decode cX12_isDigit 27 = .ok (.if_icmp .lt 26, 3) := by decide +kernel
theorem dX12_isDigit_30 : decode cX12_isDigit 30 = .ok (.aload_n 0, 1) := by decide +kernel
theorem dX12_isDigit_31 : decode cX12_isDigit 31 = .ok (.getfield 23, 3) := by decide +kernel
theorem dX12_isDigit_34 : decode cX12_isDigit 34 = .ok (.aload_n 0, 1) := by decide +kernel
theorem dX12_isDigit_35 : decode cX12_isDigit 35 = .ok (.getfield 132, 3) := by decide +kernel
theorem dX12_isDigit_38 : decode cX12_isDigit 38 = .ok (.aload_n 0, 1) := by decide +kernel
theorem dX12_isDigit_39 : decode cX12_isDigit 39 = .ok (.getfield 126, 3) := by decide +kernel
theorem dX12_isDigit_42 : decode cX12_isDigit 42 = .ok (.iadd, 1) := by decide +kernel
theorem dX12_isDigit_43 : decode cX12_isDigit 43 = .ok (.baload, 1) := by decide +kernel
theorem dX12_isDigit_44 : decode cX12_isDigit 44 = .ok (.bipush 57, 2) := by decide +kernel
theorem dX12_isDigit_46 : decode cX12_isDigit 46 = .ok (.if_icmp .gt 7, 3) := by decide +kernel
theorem dX12_isDigit_49 : decode cX12_isDigit 49 = .ok (.iconst 1, 1) := by decide +kernel
theorem dX12_isDigit_50 : decode cX12_isDigit 50 = .ok (.goto 4, 3) := by decide +kernel
theorem dX12_isDigit_53 : decode cX12_isDigit 53 = .ok (.iconst 0, 1) := by decide +kernel
theorem dX12_isDigit_54 : decode cX12_isDigit 54 = .ok (.ireturn, 1) := by decide +kernel
theorem dX12_within_0 : decode cX12_within 0 = .ok (.ldc2_w 148, 3) := by decide +kernel
theorem dX12_within_3 : decode cX12_within 3 = .ok (.ldc2_w 150, 3) := by decide +kernel
theorem dX12_within_6 : decode cX12_within 6 = .ok (.lload_n 0, 1) := by decide +kernel
theorem dX12_within_7 : decode cX12_within 7 = .ok (.invokestatic 152, 3) := by decide +kernel
theorem dX12_within_10 : decode cX12_within 10 = .ok (.invokestatic 158, 3) := by decide +kernel
theorem dX12_within_13 : decode cX12_within 13 = .ok (.l2i, 1) := by decide +kernel
theorem dX12_within_14 : decode cX12_within 14 = .ok (.ireturn, 1) := by decide +kernel
theorem dX12_atom_0 : decode cX12_atom 0 = .ok (.aload_n 0, 1) := by decide +kernel
theorem dX12_atom_1 : decode cX12_atom 1 = .ok (.invokevirtual 145, 3) := by decide +kernel
theorem dX12_atom_4 : decode cX12_atom 4 = .ok (.istore_n 1, 1) := by decide +kernel
theorem dX12_atom_5 : decode cX12_atom 5 = .ok (.ldc 32, 2) := by decide +kernel
theorem dX12_atom_7 : decode cX12_atom 7 = .ok (.iload_n 1, 1) := by decide +kernel
theorem dX12_atom_8 : decode cX12_atom 8 = .ok (.invokestatic 161, 3) := by decide +kernel
theorem dX12_atom_11 : decode cX12_atom 11 = .ok (.ifCond .eq 20, 3) := by decide +kernel
theorem dX12_atom_14 : decode cX12_atom 14 = .ok (.aload_n 0, 1) := by decide +kernel
theorem dX12_atom_15 : decode cX12_atom 15 = .ok (.dup, 1) := by decide +kernel
theorem dX12_atom_16 : decode cX12_atom 16 = .ok (.getfield 126, 3) := by decide +kernel
theorem dX12_atom_19 : decode cX12_atom 19 = .ok (.iconst 1, 1) := by decide +kernel
theorem dX12_atom_20 : decode cX12_atom 20 = .ok (.iadd, 1) := by decide +kernel
theorem dX12_atom_21 : decode cX12_atom 21 = .ok (.putfield 126, 3) := by decide +kernel
theorem dX12_atom_24 : decode cX12_atom 24 = .ok (.aload_n 0, 1) := by decide +kernel
theorem dX12_atom_25 : decode cX12_atom 25 = .ok (.getfield 20, 3) := by decide +kernel
theorem dX12_atom_28 : decode cX12_atom 28 = .ok (.iload_n 1, 1) := by decide +kernel
theorem dX12_atom_29 : decode cX12_atom 29 = .ok (.iaload, 1) := by decide +kernel
theorem dX12_atom_30 : decode cX12_atom 30 = .ok (.ireturn, 1) := by decide +kernel
theorem dX12_atom_31 : decode cX12_atom 31 = .ok (.iload_n 1, 1) := by decide +kernel
theorem dX12_atom_32 : decode cX12_atom 32 = .ok (.bipush 91, 2) := by decide +kernel
theorem dX12_atom_34 : decode cX12_atom 34 = .ok (.if_icmp .ne 40, 3) := by decide +kernel
theorem dX12_atom_37 : decode cX12_atom 37 = .ok (.aload_n 0, 1) := by decide +kernel
theorem dX12_atom_38 : decode cX12_atom 38 = .ok (.invokevirtual 165, 3) := by decide +kernel
theorem dX12_atom_41 : decode cX12_atom 41 = .ok (.ifCond .ne 5, 3) := by decide +kernel
theorem dX12_atom_44 : decode cX12_atom 44 = .ok (.iconst 0, 1) := by decide +kernel
theorem dX12_atom_45 : decode cX12_atom 45 = .ok (.ireturn, 1) := by decide +kernel
theorem dX12_atom_46 : decode cX12_atom 46 = .ok (.aload_n 0, 1) := by decide +kernel
theorem dX12_atom_47 : decode cX12_atom 47 = .ok (.invokevirtual 168, 3) := by decide +kernel
theorem dX12_atom_50 : decode cX12_atom 50 = .ok (.istore_n 2, 1) := by decide +kernel
theorem dX12_atom_51 : decode cX12_atom 51 = .ok (.aload_n 0, 1) := by decide +kernel
theorem dX12_atom_52 : decode cX12_atom 52 = .ok (.bipush 93, 2) := by decide +kernel
theorem dX12_atom_54 : decode cX12_atom 54 = .ok (.invokevirtual 171, 3) := by decide +kernel
theorem dX12_atom_57 : decode cX12_atom 57 = .ok (.ifCond .ne 5, 3) := by decide +kernel
theorem dX12_atom_60 : decode cX12_atom 60 = .ok (.iconst 0, 1) := by decide +kernel
theorem dX12_atom_61 : decode cX12_atom 61 = .ok (.ireturn, 1) := by decide +kernel
theorem dX12_atom_62 : decode cX12_atom 62 = .ok (.aload_n 0, 1) := by decide +kernel
theorem dX12_atom_63 : decode cX12_atom 63 = .ok (.dup, 1) := by decide +kernel
theorem dX12_atom_64 : decode cX12_atom 64 = .ok (.getfield 138, 3) := by decide +kernel
theorem dX12_atom_67 : decode cX12_atom 67 = .ok (.iconst 1, 1) := by decide +kernel
theorem dX12_atom_68 : decode cX12_atom 68 = .ok (.isub, 1) := by decide +kernel
theorem dX12_atom_69 : decode cX12_atom 69 = .ok (.putfield 138, 3) := by decide +kernel
theorem dX12_atom_72 : decode cX12_atom 72 = .ok (.iload_n 2, 1) := by decide +kernel
theorem dX12_atom_73 : decode cX12_atom 73 = .ok (.ireturn, 1) := by decide +kernel
theorem dX12_atom_74 : decode cX12_atom 74 = .ok (.aload_n 0, 1) := by decide +kernel
theorem dX12_atom_75 : decode cX12_atom 75 = .ok (.invokevirtual 175, 3) := by decide +kernel
theorem dX12_atom_78 : decode cX12_atom 78 = .ok (.ifCond .ne 8, 3) := by decide +kernel
theorem dX12_atom_81 : decode cX12_atom 81 = .ok (.aload_n 0, 1) := by decide +kernel
theorem dX12_atom_82 : decode cX12_atom 82 = .ok (.invokevirtual 141, 3) := by decide +kernel
theorem dX12_atom_85 : decode cX12_atom 85 = .ok (.pop, 1) := by decide +kernel
theorem dX12_atom_86 : decode cX12_atom 86 = .ok (.iconst 0, 1) := by decide +kernel
theorem dX12_atom_87 : decode cX12_atom 87 = .ok (.istore_n 2, 1) := by decide +kernel
theorem dX12_atom_88 : decode cX12_atom 88 = .ok (.iconst 0, 1) := by decide +kernel
theorem dX12_atom_89 : decode cX12_atom 89 = .ok (.istore_n 3, 1) := by decide +kernel
theorem dX12_atom_90 : decode cX12_atom 90 = .ok (.aload_n 0, 1) := by decide +kernel
theorem dX12_atom_91 : decode cX12_atom 91 = .ok (.invokevirtual 175, 3) := by decide +kernel
theorem dX12_atom_94 : decode cX12_atom 94 = .ok (.ifCond .eq 62, 3) := by decide +kernel
theorem dX12_atom_97 : decode cX12_atom 97 = .ok (.aload_n 0, 1) := by decide +kernel
theorem dX12_atom_98 : decode cX12_atom 98 = .ok (.getfield 135, 3) := by decide +kernel
theorem dX12_atom_101 : decode cX12_atom 101 = .ok (.iconst (-1), 1) := by decide +kernel
theorem dX12_atom_102 : decode cX12_atom 102 = .ok (.if_icmp .ne 54, 3) := by decide +kernel
theorem dX12_atom_105 : decode cX12_atom 105 = .ok (.iload_n 3, 1) := by decide +kernel
theorem dX12_atom_106 : decode cX12_atom 106 = .ok (.iconst 4, 1) := by decide +kernel
theorem dX12_atom_107 : decode cX12_atom 107 = .ok (.if_icmp .ne 10, 3) := by decide +kernel
theorem dX12_atom_110 : decode cX12_atom 110 = .ok (.aload_n 0, 1) := by decide +kernel
theorem dX12_atom_111 : decode cX12_atom 111 = .ok (.invokevirtual 141, 3) := by decide +kernel
theorem dX12_atom_114 : decode cX12_atom 114 = .ok (.pop, 1) := by decide +kernel
theorem dX12_atom_115 : decode cX12_atom 115 = .ok (.iconst 0, 1) := by decide +kernel
theorem dX12_atom_116 : decode cX12_atom 116 = .ok (.ireturn, 1) := by decide +kernel
theorem dX12_atom_117 : decode cX12_atom 117 = .ok (.bipush 10, 2) := by decide +kernel
theorem dX12_atom_119 : decode cX12_atom 119 = .ok (.iload_n 2, 1) := by decide +kernel
theorem dX12_atom_120 : decode cX12_atom 120 = .ok (.imul, 1) := by decide +kernel
theorem dX12_atom_121 : decode cX12_atom 121 = .ok (.aload_n 0, 1) := by decide +kernel
theorem dX12_atom_122 : decode cX12_atom 122 = .ok (.getfield 23, 3) := by decide +kernel
theorem dX12_atom_125 : decode cX12_atom 125 = .ok (.aload_n 0, 1) := by decide +kernel
theorem dX12_atom_126 : decode cX12_atom 126 = .ok (.getfield 132, 3) := by decide +kernel
theorem dX12_atom_129 : decode cX12_atom 129 = .ok (.aload_n 0, 1) := by decide +kernel
theorem dX12_atom_130 : decode cX12_atom 130 = .ok (.getfield 126, 3) := by decide +kernel
theorem dX12_atom_133 : decode cX12_atom 133 = .ok (.iadd, 1) := by decide +kernel
theorem dX12_atom_134 : decode cX12_atom 134 = .ok (.baload, 1) := by decide +kernel
theorem dX12_atom_135 : decode cX12_atom 135 = .ok (.iadd, 1) := by decide +kernel
theorem dX12_atom_136 : decode cX12_atom 136 = .ok (.bipush 48, 2) := by decide +kernel
theorem dX12_atom_138 : decode cX12_atom 138 = .ok (.isub, 1) := by decide +kernel
theorem dX12_atom_139 : decode cX12_atom 139 = .ok (.istore_n 2, 1) := by decide +kernel
theorem dX12_atom_140 : decode cX12_atom 140 = .ok (.aload_n 0, 1) := by decide +kernel
theorem dX12_atom_141 : decode cX12_atom 141 = .ok (.dup, 1) := by decide +kernel
theorem dX12_atom_142 : decode cX12_atom 142 = .ok (.getfield 126, 3) := by decide +kernel
theorem dX12_atom_145 : decode cX12_atom 145 = .ok (.iconst 1, 1) := by decide +kernel
theorem dX12_atom_146 : decode cX12_atom 146 = .ok (.iadd, 1) := by decide +kernel
theorem dX12_atom_147 : decode cX12_atom 147 = .ok (.putfield 126, 3) := by decide +kernel
theorem dX12_atom_150 : decode cX12_atom 150 = .ok (.iinc 3 1, 3) := by decide +kernel
theorem dX12_atom_153 : decode cX12_atom 153 = .ok (.goto (-63), 3) := by decide +kernel
theorem dX12_atom_156 : decode cX12_atom 156 = .ok (.iload_n 2, 1) := by decide +kernel
theorem dX12_atom_157 : decode cX12_atom 157 = .ok (.ireturn, 1) := by decide +kernel
theorem dX12_term_0 : decode cX12_term 0 = .ok (.aload_n 0, 1) := by decide +kernel
theorem dX12_term_1 : decode cX12_term 1 = .ok (.invokevirtual 178, 3) := by decide +kernel
theorem dX12_term_4 : decode cX12_term 4 = .ok (.istore_n 1, 1) := by decide +kernel
theorem dX12_term_5 : decode cX12_term 5 = .ok (.aload_n 0, 1) := by decide +kernel
theorem dX12_term_6 : decode cX12_term 6 = .ok (.getfield 135, 3) := by decide +kernel
theorem dX12_term_9 : decode cX12_term 9 = .ok (.iconst (-1), 1) := by decide +kernel
theorem dX12_term_10 : decode cX12_term 10 = .ok (.if_icmp .ne 84, 3) := by decide +kernel
theorem dX12_term_13 : decode cX12_term 13 = .ok (.aload_n 0, 1) := by decide +kernel
theorem dX12_term_14 : decode cX12_term 14 = .ok (.invokevirtual 145, 3) := by decide +kernel
theorem dX12_term_17 : decode cX12_term 17 = .ok (.bipush 42, 2) := by decide +kernel
theorem dX12_term_19 : decode cX12_term 19 = .ok (.if_icmp .eq 12, 3) := by decide +kernel
theorem dX12_term_22 : decode cX12_term 22 = .ok (.aload_n 0, 1) := by decide +kernel
theorem dX12_term_23 : decode cX12_term 23 = .ok (.invokevirtual 145, 3) := by decide +kernel
theorem dX12_term_26 : decode cX12_term 26 = .ok (.bipush 47, 2) := by decide +kernel
theorem dX12_term_28 : decode cX12_term 28 = .ok (.if_icmp .ne 66, 3) := by decide +kernel
theorem dX12_term_31 : decode cX12_term 31 = .ok (.aload_n 0, 1) := by decide +kernel
theorem dX12_term_32 : decode cX12_term 32 = .ok (.invokevirtual 145, 3) := by decide +kernel
theorem dX12_term_35 : decode cX12_term 35 = .ok (.bipush 42, 2) := by decide +kernel
theorem dX12_term_37 : decode cX12_term 37 = .ok (.if_icmp .ne 7, 3) := by decide +kernel
theorem dX12_term_40 : decode cX12_term 40 = .ok (.iconst 1, 1) := by decide +kernel
theorem dX12_term_41 : decode cX12_term 41 = .ok (.goto 4, 3) := by decide +kernel
theorem dX12_term_44 : decode cX12_term 44 = .ok (.iconst 0, 1) := by decide +kernel
theorem dX12_term_45 : decode cX12_term 45 = .ok (.istore_n 2, 1) := by decide +kernel
theorem dX12_term_46 : decode cX12_term 46 = .ok (.aload_n 0, 1) := by decide +kernel
theorem dX12_term_47 : decode cX12_term 47 = .ok (.dup, 1) := by decide +kernel
theorem dX12_term_48 : decode cX12_term 48 = .ok (.getfield 126, 3) := by decide +kernel
theorem dX12_term_51 : decode cX12_term 51 = .ok (.iconst 1, 1) := by decide +kernel
theorem dX12_term_52 : decode cX12_term 52 = .ok (.iadd, 1) := by decide +kernel
theorem dX12_term_53 : decode cX12_term 53 = .ok (.putfield 126, 3) := by decide +kernel
theorem dX12_term_56 : decode cX12_term 56 = .ok (.aload_n 0, 1) := by decide +kernel
theorem dX12_term_57 : decode cX12_term 57 = .ok (.invokevirtual 178, 3) := by decide +kernel
theorem dX12_term_60 : decode cX12_term 60 = .ok (.i2l, 1) := by decide +kernel
theorem dX12_term_61 : decode cX12_term 61 = .ok (.lstore_n 3, 1) := by decide +kernel
theorem dX12_term_62 : decode cX12_term 62 = .ok (.iload_n 2, 1) := by decide +kernel
theorem dX12_term_63 : decode cX12_term 63 = .ok (.ifCond .eq 10, 3) := by decide +kernel
theorem dX12_term_66 : decode cX12_term 66 = .ok (.iload_n 1, 1) := by decide +kernel
theorem dX12_term_67 : decode cX12_term 67 = .ok (.i2l, 1) := by decide +kernel
theorem dX12_term_68 : decode cX12_term 68 = .ok (.lload_n 3, 1) := by decide +kernel
theorem dX12_term_69 : decode cX12_term 69 = .ok (.lmul, 1) := by decide +kernel
theorem dX12_term_70 : decode cX12_term 70 = .ok (.goto 17, 3) := by decide +kernel
theorem dX12_term_73 : decode cX12_term 73 = .ok (.lload_n 3, 1) := by decide +kernel
theorem dX12_term_74 : decode cX12_term 74 = .ok (.lconst 0, 1) := by decide +kernel
theorem dX12_term_75 : decode cX12_term 75 = .ok (.lcmp, 1) := by decide +kernel
theorem dX12_term_76 : decode cX12_term 76 = .ok (.ifCond .ne 7, 3) := by decide +kernel
theorem dX12_term_79 : decode cX12_term 79 = .ok (.lconst 0, 1) := by decide +kernel
theorem dX12_term_80 : decode cX12_term 80 = .ok (.goto 7, 3) := by decide +kernel
theorem dX12_term_83 : decode cX12_term 83 = .ok (.iload_n 1, 1) := by decide +kernel
theorem dX12_term_84 : decode cX12_term 84 = .ok (.i2l, 1) := by decide +kernel
theorem dX12_term_85 : decode cX12_term 85 = .ok (.lload_n 3, 1) := by decide +kernel
theorem dX12_term_86 : decode cX12_term 86 = .ok (.ldiv, 1) := by decide +kernel
theorem dX12_term_87 : decode cX12_term 87 = .ok (.invokestatic 181, 3) := by decide +kernel
theorem dX12_term_90 : decode cX12_term 90 = .ok (.istore_n 1, 1) := by decide +kernel
theorem dX12_term_91 : decode cX12_term 91 = .ok (.goto (-86), 3) := by decide +kernel
theorem dX12_term_94 : decode cX12_term 94 = .ok (.iload_n 1, 1) := by decide +kernel
theorem dX12_term_95 : decode cX12_term 95 = .ok (.ireturn, 1) := by decide +kernel
theorem dX12_sum_0 : decode cX12_sum 0 = .ok (.aload_n 0, 1) := by decide +kernel
theorem dX12_sum_1 : decode cX12_sum 1 = .ok (.invokevirtual 185, 3) := by decide +kernel
theorem dX12_sum_4 : decode cX12_sum 4 = .ok (.istore_n 1, 1) := by decide +kernel
theorem dX12_sum_5 : decode cX12_sum 5 = .ok (.aload_n 0, 1) := by decide +kernel
theorem dX12_sum_6 : decode cX12_sum 6 = .ok (.getfield 135, 3) := by decide +kernel
theorem dX12_sum_9 : decode cX12_sum 9 = .ok (.iconst (-1), 1) := by decide +kernel
theorem dX12_sum_10 : decode cX12_sum 10 = .ok (.if_icmp .ne 74, 3) := by decide +kernel
theorem dX12_sum_13 : decode cX12_sum 13 = .ok (.aload_n 0, 1) := by decide +kernel
theorem dX12_sum_14 : decode cX12_sum 14 = .ok (.invokevirtual 145, 3) := by decide +kernel
theorem dX12_sum_17 : decode cX12_sum 17 = .ok (.bipush 43, 2) := by decide +kernel
theorem dX12_sum_19 : decode cX12_sum 19 = .ok (.if_icmp .eq 12, 3) := by decide +kernel
theorem dX12_sum_22 : decode cX12_sum 22 = .ok (.aload_n 0, 1) := by decide +kernel
theorem dX12_sum_23 : decode cX12_sum 23 = .ok (.invokevirtual 145, 3) := by decide +kernel
theorem dX12_sum_26 : decode cX12_sum 26 = .ok (.bipush 45, 2) := by decide +kernel
theorem dX12_sum_28 : decode cX12_sum 28 = .ok (.if_icmp .ne 56, 3) := by decide +kernel
theorem dX12_sum_31 : decode cX12_sum 31 = .ok (.aload_n 0, 1) := by decide +kernel
theorem dX12_sum_32 : decode cX12_sum 32 = .ok (.invokevirtual 145, 3) := by decide +kernel
theorem dX12_sum_35 : decode cX12_sum 35 = .ok (.bipush 43, 2) := by decide +kernel
theorem dX12_sum_37 : decode cX12_sum 37 = .ok (.if_icmp .ne 7, 3) := by decide +kernel
theorem dX12_sum_40 : decode cX12_sum 40 = .ok (.iconst 1, 1) := by decide +kernel
theorem dX12_sum_41 : decode cX12_sum 41 = .ok (.goto 4, 3) := by decide +kernel
theorem dX12_sum_44 : decode cX12_sum 44 = .ok (.iconst 0, 1) := by decide +kernel
theorem dX12_sum_45 : decode cX12_sum 45 = .ok (.istore_n 2, 1) := by decide +kernel
theorem dX12_sum_46 : decode cX12_sum 46 = .ok (.aload_n 0, 1) := by decide +kernel
theorem dX12_sum_47 : decode cX12_sum 47 = .ok (.dup, 1) := by decide +kernel
theorem dX12_sum_48 : decode cX12_sum 48 = .ok (.getfield 126, 3) := by decide +kernel
theorem dX12_sum_51 : decode cX12_sum 51 = .ok (.iconst 1, 1) := by decide +kernel
theorem dX12_sum_52 : decode cX12_sum 52 = .ok (.iadd, 1) := by decide +kernel
theorem dX12_sum_53 : decode cX12_sum 53 = .ok (.putfield 126, 3) := by decide +kernel
theorem dX12_sum_56 : decode cX12_sum 56 = .ok (.aload_n 0, 1) := by decide +kernel
theorem dX12_sum_57 : decode cX12_sum 57 = .ok (.invokevirtual 185, 3) := by decide +kernel
theorem dX12_sum_60 : decode cX12_sum 60 = .ok (.i2l, 1) := by decide +kernel
theorem dX12_sum_61 : decode cX12_sum 61 = .ok (.lstore_n 3, 1) := by decide +kernel
theorem dX12_sum_62 : decode cX12_sum 62 = .ok (.iload_n 2, 1) := by decide +kernel
theorem dX12_sum_63 : decode cX12_sum 63 = .ok (.ifCond .eq 10, 3) := by decide +kernel
theorem dX12_sum_66 : decode cX12_sum 66 = .ok (.iload_n 1, 1) := by decide +kernel
theorem dX12_sum_67 : decode cX12_sum 67 = .ok (.i2l, 1) := by decide +kernel
theorem dX12_sum_68 : decode cX12_sum 68 = .ok (.lload_n 3, 1) := by decide +kernel
theorem dX12_sum_69 : decode cX12_sum 69 = .ok (.ladd, 1) := by decide +kernel
theorem dX12_sum_70 : decode cX12_sum 70 = .ok (.goto 7, 3) := by decide +kernel
theorem dX12_sum_73 : decode cX12_sum 73 = .ok (.iload_n 1, 1) := by decide +kernel
theorem dX12_sum_74 : decode cX12_sum 74 = .ok (.i2l, 1) := by decide +kernel
theorem dX12_sum_75 : decode cX12_sum 75 = .ok (.lload_n 3, 1) := by decide +kernel
theorem dX12_sum_76 : decode cX12_sum 76 = .ok (.lsub, 1) := by decide +kernel
theorem dX12_sum_77 : decode cX12_sum 77 = .ok (.invokestatic 181, 3) := by decide +kernel
theorem dX12_sum_80 : decode cX12_sum 80 = .ok (.istore_n 1, 1) := by decide +kernel
theorem dX12_sum_81 : decode cX12_sum 81 = .ok (.goto (-76), 3) := by decide +kernel
theorem dX12_sum_84 : decode cX12_sum 84 = .ok (.iload_n 1, 1) := by decide +kernel
theorem dX12_sum_85 : decode cX12_sum 85 = .ok (.ireturn, 1) := by decide +kernel
theorem dX12_isSign_0 : decode cX12_isSign 0 = .ok (.iload_n 0, 1) := by decide +kernel
theorem dX12_isSign_1 : decode cX12_isSign 1 = .ok (.bipush 61, 2) := by decide +kernel
theorem dX12_isSign_3 : decode cX12_isSign 3 = .ok (.if_icmp .eq 15, 3) := by decide +kernel
theorem dX12_isSign_6 : decode cX12_isSign 6 = .ok (.iload_n 0, 1) := by decide +kernel
theorem dX12_isSign_7 : decode cX12_isSign 7 = .ok (.bipush 60, 2) := by decide +kernel
theorem dX12_isSign_9 : decode cX12_isSign 9 = .ok (.if_icmp .eq 9, 3) := by decide +kernel
theorem dX12_isSign_12 : decode cX12_isSign 12 = .ok (.iload_n 0, 1) := by decide +kernel
theorem dX12_isSign_13 : decode cX12_isSign 13 = .ok (.bipush 62, 2) := by decide +kernel
theorem dX12_isSign_15 : decode cX12_isSign 15 = .ok (.if_icmp .ne 7, 3) := by decide +kernel
theorem dX12_isSign_18 : decode cX12_isSign 18 = .ok (.iconst 1, 1) := by decide +kernel
theorem dX12_isSign_19 : decode cX12_isSign 19 = .ok (.goto 4, 3) := by decide +kernel
theorem dX12_isSign_22 : decode cX12_isSign 22 = .ok (.iconst 0, 1) := by decide +kernel
theorem dX12_isSign_23 : decode cX12_isSign 23 = .ok (.ireturn, 1) := by decide +kernel
theorem dX12_compares_0 : decode cX12_compares 0 = .ok (.iload_n 1, 1) := by decide +kernel
theorem dX12_compares_1 : decode cX12_compares 1 = .ok (.ifCond .eq 7, 3) := by decide +kernel
theorem dX12_compares_4 : decode cX12_compares 4 = .ok (.iload_n 2, 1) := by decide +kernel
theorem dX12_compares_5 : decode cX12_compares 5 = .ok (.goto 7, 3) := by decide +kernel
theorem dX12_compares_8 : decode cX12_compares 8 = .ok (.aload_n 0, 1) := by decide +kernel
theorem dX12_compares_9 : decode cX12_compares 9 = .ok (.invokevirtual 168, 3) := by decide +kernel
theorem dX12_compares_12 : decode cX12_compares 12 = .ok (.istore_n 3, 1) := by decide +kernel
theorem dX12_compares_13 : decode cX12_compares 13 = .ok (.aload_n 0, 1) := by decide +kernel
theorem dX12_compares_14 : decode cX12_compares 14 = .ok (.getfield 135, 3) := by decide +kernel
theorem dX12_compares_17 : decode cX12_compares 17 = .ok (.iconst (-1), 1) := by decide +kernel
theorem dX12_compares_18 : decode cX12_compares 18 = .ok (.if_icmp .eq 5, 3) := by decide +kernel
theorem dX12_compares_21 : decode cX12_compares 21 = .ok (.iconst 0, 1) := by decide +kernel
theorem dX12_compares_22 : decode cX12_compares 22 = .ok (.ireturn, 1) := by decide +kernel
theorem dX12_compares_23 : decode cX12_compares 23 = .ok (.aload_n 0, 1) := by decide +kernel
theorem dX12_compares_24 : decode cX12_compares 24 = .ok (.invokevirtual 145, 3) := by decide +kernel
theorem dX12_compares_27 : decode cX12_compares 27 = .ok (.istore 4, 2) := by decide +kernel
theorem dX12_compares_29 : decode cX12_compares 29 = .ok (.iload 4, 2) := by decide +kernel
theorem dX12_compares_31 : decode cX12_compares 31 = .ok (.invokestatic 188, 3) := by decide +kernel
theorem dX12_compares_34 : decode cX12_compares 34 = .ok (.ifCond .ne 8, 3) := by decide +kernel
theorem dX12_compares_37 : decode cX12_compares 37 = .ok (.aload_n 0, 1) := by decide +kernel
theorem dX12_compares_38 : decode cX12_compares 38 = .ok (.invokevirtual 141, 3) := by decide +kernel
theorem dX12_compares_41 : decode cX12_compares 41 = .ok (.ireturn, 1) := by decide +kernel
theorem dX12_compares_42 : decode cX12_compares 42 = .ok (.aload_n 0, 1) := by decide +kernel
theorem dX12_compares_43 : decode cX12_compares 43 = .ok (.dup, 1) := by decide +kernel
theorem dX12_compares_44 : decode cX12_compares 44 = .ok (.getfield 126, 3) := by decide +kernel
theorem dX12_compares_47 : decode cX12_compares 47 = .ok (.iconst 1, 1) := by decide +kernel
theorem dX12_compares_48 : decode cX12_compares 48 = .ok (.iadd, 1) := by decide +kernel
theorem dX12_compares_49 : decode cX12_compares 49 = .ok (.putfield 126, 3) := by decide +kernel
theorem dX12_compares_52 : decode cX12_compares 52 = .ok (.aload_n 0, 1) := by decide +kernel
theorem dX12_compares_53 : decode cX12_compares 53 = .ok (.invokevirtual 168, 3) := by decide +kernel
theorem dX12_compares_56 : decode cX12_compares 56 = .ok (.istore 5, 2) := by decide +kernel
theorem dX12_compares_58 : decode cX12_compares 58 = .ok (.iload 4, 2) := by decide +kernel
theorem dX12_compares_60 : decode cX12_compares 60 = .ok (.bipush 61, 2) := by decide +kernel
theorem dX12_compares_62 : decode cX12_compares 62 = .ok (.if_icmp .ne 17, 3) := by decide +kernel
theorem dX12_compares_65 : decode cX12_compares 65 = .ok (.iload_n 3, 1) := by decide +kernel
theorem dX12_compares_66 : decode cX12_compares 66 = .ok (.iload 5, 2) := by decide +kernel
theorem dX12_compares_68 : decode cX12_compares 68 = .ok (.if_icmp .ne 7, 3) := by decide +kernel
theorem dX12_compares_71 : decode cX12_compares 71 = .ok (.iconst 1, 1) := by decide +kernel
theorem dX12_compares_72 : decode cX12_compares 72 = .ok (.goto 39, 3) := by decide +kernel
theorem dX12_compares_75 : decode cX12_compares 75 = .ok (.iconst 0, 1) := by decide +kernel
theorem dX12_compares_76 : decode cX12_compares 76 = .ok (.goto 35, 3) := by decide +kernel
theorem dX12_compares_79 : decode cX12_compares 79 = .ok (.iload 4, 2) := by decide +kernel
theorem dX12_compares_81 : decode cX12_compares 81 = .ok (.bipush 60, 2) := by decide +kernel
theorem dX12_compares_83 : decode cX12_compares 83 = .ok (.if_icmp .ne 17, 3) := by decide +kernel
theorem dX12_compares_86 : decode cX12_compares 86 = .ok (.iload_n 3, 1) := by decide +kernel
theorem dX12_compares_87 : decode cX12_compares 87 = .ok (.iload 5, 2) := by decide +kernel
theorem dX12_compares_89 : decode cX12_compares 89 = .ok (.if_icmp .ge 7, 3) := by decide +kernel
theorem dX12_compares_92 : decode cX12_compares 92 = .ok (.iconst 1, 1) := by decide +kernel
theorem dX12_compares_93 : decode cX12_compares 93 = .ok (.goto 18, 3) := by decide +kernel
theorem dX12_compares_96 : decode cX12_compares 96 = .ok (.iconst 0, 1) := by decide +kernel
theorem dX12_compares_97 : decode cX12_compares 97 = .ok (.goto 14, 3) := by decide +kernel
theorem dX12_compares_100 : decode cX12_compares 100 = .ok (.iload_n 3, 1) := by decide +kernel
theorem dX12_compares_101 : decode cX12_compares 101 = .ok (.iload 5, 2) := by decide +kernel
theorem dX12_compares_103 : decode cX12_compares 103 = .ok (.if_icmp .le 7, 3) := by decide +kernel
theorem dX12_compares_106 : decode cX12_compares 106 = .ok (.iconst 1, 1) := by decide +kernel
theorem dX12_compares_107 : decode cX12_compares 107 = .ok (.goto 4, 3) := by decide +kernel
theorem dX12_compares_110 : decode cX12_compares 110 = .ok (.iconst 0, 1) := by decide +kernel
theorem dX12_compares_111 : decode cX12_compares 111 = .ok (.ireturn, 1) := by decide +kernel
theorem dX12_unit_0 : decode cX12_unit 0 = .ok (.aload_n 0, 1) := by decide +kernel
theorem dX12_unit_1 : decode cX12_unit 1 = .ok (.invokevirtual 145, 3) := by decide +kernel
theorem dX12_unit_4 : decode cX12_unit 4 = .ok (.istore_n 1, 1) := by decide +kernel
theorem dX12_unit_5 : decode cX12_unit 5 = .ok (.iload_n 1, 1) := by decide +kernel
theorem dX12_unit_6 : decode cX12_unit 6 = .ok (.bipush 33, 2) := by decide +kernel
theorem dX12_unit_8 : decode cX12_unit 8 = .ok (.if_icmp .ne 37, 3) := by decide +kernel
theorem dX12_unit_11 : decode cX12_unit 11 = .ok (.aload_n 0, 1) := by decide +kernel
theorem dX12_unit_12 : decode cX12_unit 12 = .ok (.invokevirtual 165, 3) := by decide +kernel
theorem dX12_unit_15 : decode cX12_unit 15 = .ok (.ifCond .ne 5, 3) := by decide +kernel
theorem dX12_unit_18 : decode cX12_unit 18 = .ok (.iconst 0, 1) := by decide +kernel
theorem dX12_unit_19 : decode cX12_unit 19 = .ok (.ireturn, 1) := by decide +kernel
theorem dX12_unit_20 : decode cX12_unit 20 = .ok (.aload_n 0, 1) := by decide +kernel
theorem dX12_unit_21 : decode cX12_unit 21 = .ok (.invokevirtual 191, 3) := by decide +kernel
theorem dX12_unit_24 : decode cX12_unit 24 = .ok (.istore_n 2, 1) := by decide +kernel
theorem dX12_unit_25 : decode cX12_unit 25 = .ok (.aload_n 0, 1) := by decide +kernel
theorem dX12_unit_26 : decode cX12_unit 26 = .ok (.dup, 1) := by decide +kernel
theorem dX12_unit_27 : decode cX12_unit 27 = .ok (.getfield 138, 3) := by decide +kernel
theorem dX12_unit_30 : decode cX12_unit 30 = .ok (.iconst 1, 1) := by decide +kernel
theorem dX12_unit_31 : decode cX12_unit 31 = .ok (.isub, 1) := by decide +kernel
theorem dX12_unit_32 : decode cX12_unit 32 = .ok (.putfield 138, 3) := by decide +kernel
theorem dX12_unit_35 : decode cX12_unit 35 = .ok (.iload_n 2, 1) := by decide +kernel
theorem dX12_unit_36 : decode cX12_unit 36 = .ok (.ifCond .ne 7, 3) := by decide +kernel
theorem dX12_unit_39 : decode cX12_unit 39 = .ok (.iconst 1, 1) := by decide +kernel
theorem dX12_unit_40 : decode cX12_unit 40 = .ok (.goto 4, 3) := by decide +kernel
theorem dX12_unit_43 : decode cX12_unit 43 = .ok (.iconst 0, 1) := by decide +kernel
theorem dX12_unit_44 : decode cX12_unit 44 = .ok (.ireturn, 1) := by decide +kernel
theorem dX12_unit_45 : decode cX12_unit 45 = .ok (.iload_n 1, 1) := by decide +kernel
theorem dX12_unit_46 : decode cX12_unit 46 = .ok (.bipush 40, 2) := by decide +kernel
theorem dX12_unit_48 : decode cX12_unit 48 = .ok (.if_icmp .ne 42, 3) := by decide +kernel
theorem dX12_unit_51 : decode cX12_unit 51 = .ok (.aload_n 0, 1) := by decide +kernel
theorem dX12_unit_52 : decode cX12_unit 52 = .ok (.invokevirtual 165, 3) := by decide +kernel
theorem dX12_unit_55 : decode cX12_unit 55 = .ok (.ifCond .ne 5, 3) := by decide +kernel
theorem dX12_unit_58 : decode cX12_unit 58 = .ok (.iconst 0, 1) := by decide +kernel
theorem dX12_unit_59 : decode cX12_unit 59 = .ok (.ireturn, 1) := by decide +kernel
theorem dX12_unit_60 : decode cX12_unit 60 = .ok (.aload_n 0, 1) := by decide +kernel
theorem dX12_unit_61 : decode cX12_unit 61 = .ok (.iconst 0, 1) := by decide +kernel
theorem dX12_unit_62 : decode cX12_unit 62 = .ok (.iconst 0, 1) := by decide +kernel
theorem dX12_unit_63 : decode cX12_unit 63 = .ok (.invokevirtual 194, 3) := by decide +kernel
theorem dX12_unit_66 : decode cX12_unit 66 = .ok (.istore_n 2, 1) := by decide +kernel
theorem dX12_unit_67 : decode cX12_unit 67 = .ok (.aload_n 0, 1) := by decide +kernel
theorem dX12_unit_68 : decode cX12_unit 68 = .ok (.bipush 41, 2) := by decide +kernel
theorem dX12_unit_70 : decode cX12_unit 70 = .ok (.invokevirtual 171, 3) := by decide +kernel
theorem dX12_unit_73 : decode cX12_unit 73 = .ok (.ifCond .ne 5, 3) := by decide +kernel
theorem dX12_unit_76 : decode cX12_unit 76 = .ok (.iconst 0, 1) := by decide +kernel
theorem dX12_unit_77 : decode cX12_unit 77 = .ok (.ireturn, 1) := by decide +kernel
theorem dX12_unit_78 : decode cX12_unit 78 = .ok (.aload_n 0, 1) := by decide +kernel
theorem dX12_unit_79 : decode cX12_unit 79 = .ok (.dup, 1) := by decide +kernel
theorem dX12_unit_80 : decode cX12_unit 80 = .ok (.getfield 138, 3) := by decide +kernel
theorem dX12_unit_83 : decode cX12_unit 83 = .ok (.iconst 1, 1) := by decide +kernel
theorem dX12_unit_84 : decode cX12_unit 84 = .ok (.isub, 1) := by decide +kernel
theorem dX12_unit_85 : decode cX12_unit 85 = .ok (.putfield 138, 3) := by decide +kernel
theorem dX12_unit_88 : decode cX12_unit 88 = .ok (.iload_n 2, 1) := by decide +kernel
theorem dX12_unit_89 : decode cX12_unit 89 = .ok (.ireturn, 1) := by decide +kernel
theorem dX12_unit_90 : decode cX12_unit 90 = .ok (.aload_n 0, 1) := by decide +kernel
theorem dX12_unit_91 : decode cX12_unit 91 = .ok (.iconst 0, 1) := by decide +kernel
theorem dX12_unit_92 : decode cX12_unit 92 = .ok (.iconst 0, 1) := by decide +kernel
theorem dX12_unit_93 : decode cX12_unit 93 = .ok (.invokevirtual 198, 3) := by decide +kernel
theorem dX12_unit_96 : decode cX12_unit 96 = .ok (.ireturn, 1) := by decide +kernel
theorem dX12_part_0 : decode cX12_part 0 = .ok (.iload_n 1, 1) := by decide +kernel
theorem dX12_part_1 : decode cX12_part 1 = .ok (.ifCond .eq 12, 3) := by decide +kernel
theorem dX12_part_4 : decode cX12_part 4 = .ok (.aload_n 0, 1) := by decide +kernel
theorem dX12_part_5 : decode cX12_part 5 = .ok (.iconst 1, 1) := by decide +kernel
theorem dX12_part_6 : decode cX12_part 6 = .ok (.iload_n 2, 1) := by decide +kernel
theorem dX12_part_7 : decode cX12_part 7 = .ok (.invokevirtual 198, 3) := by decide +kernel
theorem dX12_part_10 : decode cX12_part 10 = .ok (.goto 7, 3) := by decide +kernel
theorem dX12_part_13 : decode cX12_part 13 = .ok (.aload_n 0, 1) := by decide +kernel
theorem dX12_part_14 : decode cX12_part 14 = .ok (.invokevirtual 191, 3) := by decide +kernel
theorem dX12_part_17 : decode cX12_part 17 = .ok (.istore_n 3, 1) := by decide +kernel
theorem dX12_part_18 : decode cX12_part 18 = .ok (.aload_n 0, 1) := by decide +kernel
theorem dX12_part_19 : decode cX12_part 19 = .ok (.getfield 135, 3) := by decide +kernel
theorem dX12_part_22 : decode cX12_part 22 = .ok (.iconst (-1), 1) := by decide +kernel
theorem dX12_part_23 : decode cX12_part 23 = .ok (.if_icmp .ne 46, 3) := by decide +kernel
theorem dX12_part_26 : decode cX12_part 26 = .ok (.aload_n 0, 1) := by decide +kernel
theorem dX12_part_27 : decode cX12_part 27 = .ok (.invokevirtual 145, 3) := by decide +kernel
theorem dX12_part_30 : decode cX12_part 30 = .ok (.bipush 38, 2) := by decide +kernel
theorem dX12_part_32 : decode cX12_part 32 = .ok (.if_icmp .ne 37, 3) := by decide +kernel
theorem dX12_part_35 : decode cX12_part 35 = .ok (.aload_n 0, 1) := by decide +kernel
theorem dX12_part_36 : decode cX12_part 36 = .ok (.dup, 1) := by decide +kernel
theorem dX12_part_37 : decode cX12_part 37 = .ok (.getfield 126, 3) := by decide +kernel
theorem dX12_part_40 : decode cX12_part 40 = .ok (.iconst 1, 1) := by decide +kernel
theorem dX12_part_41 : decode cX12_part 41 = .ok (.iadd, 1) := by decide +kernel
theorem dX12_part_42 : decode cX12_part 42 = .ok (.putfield 126, 3) := by decide +kernel
theorem dX12_part_45 : decode cX12_part 45 = .ok (.aload_n 0, 1) := by decide +kernel
theorem dX12_part_46 : decode cX12_part 46 = .ok (.invokevirtual 191, 3) := by decide +kernel
theorem dX12_part_49 : decode cX12_part 49 = .ok (.istore 4, 2) := by decide +kernel
theorem dX12_part_51 : decode cX12_part 51 = .ok (.iload_n 3, 1) := by decide +kernel
theorem dX12_part_52 : decode cX12_part 52 = .ok (.ifCond .eq 12, 3) := by decide +kernel
theorem dX12_part_55 : decode cX12_part 55 = .ok (.iload 4, 2) := by decide +kernel
theorem dX12_part_57 : decode cX12_part 57 = .ok (.ifCond .eq 7, 3) := by decide +kernel
theorem dX12_part_60 : decode cX12_part 60 = .ok (.iconst 1, 1) := by decide +kernel
theorem dX12_part_61 : decode cX12_part 61 = .ok (.goto 4, 3) := by decide +kernel
theorem dX12_part_64 : decode cX12_part 64 = .ok (.iconst 0, 1) := by decide +kernel
theorem dX12_part_65 : decode cX12_part 65 = .ok (.istore_n 3, 1) := by decide +kernel
theorem dX12_part_66 : decode cX12_part 66 = .ok (.goto (-48), 3) := by decide +kernel
theorem dX12_part_69 : decode cX12_part 69 = .ok (.iload_n 3, 1) := by decide +kernel
theorem dX12_part_70 : decode cX12_part 70 = .ok (.ireturn, 1) := by decide +kernel
theorem dX12_condition_0 : decode cX12_condition 0 = .ok (.aload_n 0, 1) := by decide +kernel
theorem dX12_condition_1 : decode cX12_condition 1 = .ok (.iload_n 1, 1) := by decide +kernel
theorem dX12_condition_2 : decode cX12_condition 2 = .ok (.iload_n 2, 1) := by decide +kernel
theorem dX12_condition_3 : decode cX12_condition 3 = .ok (.invokevirtual 201, 3) := by decide +kernel
theorem dX12_condition_6 : decode cX12_condition 6 = .ok (.istore_n 3, 1) := by decide +kernel
theorem dX12_condition_7 : decode cX12_condition 7 = .ok (.aload_n 0, 1) := by decide +kernel
theorem dX12_condition_8 : decode cX12_condition 8 = .ok (.getfield 135, 3) := by decide +kernel
theorem dX12_condition_11 : decode cX12_condition 11 = .ok (.iconst (-1), 1) := by decide +kernel
theorem dX12_condition_12 : decode cX12_condition 12 = .ok (.if_icmp .ne 48, 3) := by decide +kernel
theorem dX12_condition_15 : decode cX12_condition 15 = .ok (.aload_n 0, 1) := by decide +kernel
theorem dX12_condition_16 : decode cX12_condition 16 = .ok (.invokevirtual 145, 3) := by decide +kernel
theorem dX12_condition_19 : decode cX12_condition 19 = .ok (.bipush 124, 2) := by decide +kernel
theorem dX12_condition_21 : decode cX12_condition 21 = .ok (.if_icmp .ne 39, 3) := by decide +kernel
theorem dX12_condition_24 : decode cX12_condition 24 = .ok (.aload_n 0, 1) := by decide +kernel
theorem dX12_condition_25 : decode cX12_condition 25 = .ok (.dup, 1) := by decide +kernel
theorem dX12_condition_26 : decode cX12_condition 26 = .ok (.getfield 126, 3) := by decide +kernel
theorem dX12_condition_29 : decode cX12_condition 29 = .ok (.iconst 1, 1) := by decide +kernel
theorem dX12_condition_30 : decode cX12_condition 30 = .ok (.iadd, 1) := by decide +kernel
theorem dX12_condition_31 : decode cX12_condition 31 = .ok (.putfield 126, 3) := by decide +kernel
theorem dX12_condition_34 : decode cX12_condition 34 = .ok (.aload_n 0, 1) := by decide +kernel
theorem dX12_condition_35 : decode cX12_condition 35 = .ok (.iconst 0, 1) := by decide +kernel
theorem dX12_condition_36 : decode cX12_condition 36 = .ok (.iconst 0, 1) := by decide +kernel
theorem dX12_condition_37 : decode cX12_condition 37 = .ok (.invokevirtual 201, 3) := by decide +kernel
theorem dX12_condition_40 : decode cX12_condition 40 = .ok (.istore 4, 2) := by decide +kernel
theorem dX12_condition_42 : decode cX12_condition 42 = .ok (.iload_n 3, 1) := by decide +kernel
theorem dX12_condition_43 : decode cX12_condition 43 = .ok (.ifCond .ne 8, 3) := by decide +kernel
theorem dX12_condition_46 : decode cX12_condition 46 = .ok (.iload 4, 2) := by decide +kernel
theorem dX12_condition_48 : decode cX12_condition 48 = .ok (.ifCond .eq 7, 3) := by decide +kernel
theorem dX12_condition_51 : decode cX12_condition 51 = .ok (.iconst 1, 1) := by decide +kernel
theorem dX12_condition_52 : decode cX12_condition 52 = .ok (.goto 4, 3) := by decide +kernel
theorem dX12_condition_55 : decode cX12_condition 55 = .ok (.iconst 0, 1) := by decide +kernel
theorem dX12_condition_56 : decode cX12_condition 56 = .ok (.istore_n 3, 1) := by decide +kernel
theorem dX12_condition_57 : decode cX12_condition 57 = .ok (.goto (-50), 3) := by decide +kernel
theorem dX12_condition_60 : decode cX12_condition 60 = .ok (.iload_n 3, 1) := by decide +kernel
theorem dX12_condition_61 : decode cX12_condition 61 = .ok (.ireturn, 1) := by decide +kernel
theorem dX12_clause_0 : decode cX12_clause 0 = .ok (.aload_n 0, 1) := by decide +kernel
theorem dX12_clause_1 : decode cX12_clause 1 = .ok (.invokevirtual 145, 3) := by decide +kernel
theorem dX12_clause_4 : decode cX12_clause 4 = .ok (.istore_n 1, 1) := by decide +kernel
theorem dX12_clause_5 : decode cX12_clause 5 = .ok (.ldc 26, 2) := by decide +kernel
theorem dX12_clause_7 : decode cX12_clause 7 = .ok (.iload_n 1, 1) := by decide +kernel
theorem dX12_clause_8 : decode cX12_clause 8 = .ok (.invokestatic 161, 3) := by decide +kernel
theorem dX12_clause_11 : decode cX12_clause 11 = .ok (.ifCond .ne 9, 3) := by decide +kernel
theorem dX12_clause_14 : decode cX12_clause 14 = .ok (.aload_n 0, 1) := by decide +kernel
theorem dX12_clause_15 : decode cX12_clause 15 = .ok (.invokevirtual 141, 3) := by decide +kernel
theorem dX12_clause_18 : decode cX12_clause 18 = .ok (.pop, 1) := by decide +kernel
theorem dX12_clause_19 : decode cX12_clause 19 = .ok (.return_, 1) := by decide +kernel
theorem dX12_clause_20 : decode cX12_clause 20 = .ok (.aload_n 0, 1) := by decide +kernel
theorem dX12_clause_21 : decode cX12_clause 21 = .ok (.dup, 1) := by decide +kernel
theorem dX12_clause_22 : decode cX12_clause 22 = .ok (.getfield 126, 3) := by decide +kernel
theorem dX12_clause_25 : decode cX12_clause 25 = .ok (.iconst 1, 1) := by decide +kernel
theorem dX12_clause_26 : decode cX12_clause 26 = .ok (.iadd, 1) := by decide +kernel
theorem dX12_clause_27 : decode cX12_clause 27 = .ok (.putfield 126, 3) := by decide +kernel
theorem dX12_clause_30 : decode cX12_clause 30 = .ok (.aload_n 0, 1) := by decide +kernel
theorem dX12_clause_31 : decode cX12_clause 31 = .ok (.bipush 58, 2) := by decide +kernel
theorem dX12_clause_33 : decode cX12_clause 33 = .ok (.invokevirtual 171, 3) := by decide +kernel
theorem dX12_clause_36 : decode cX12_clause 36 = .ok (.ifCond .ne 4, 3) := by decide +kernel
theorem dX12_clause_39 : decode cX12_clause 39 = .ok (.return_, 1) := by decide +kernel
theorem dX12_clause_40 : decode cX12_clause 40 = .ok (.iconst 1, 1) := by decide +kernel
theorem dX12_clause_41 : decode cX12_clause 41 = .ok (.istore_n 2, 1) := by decide +kernel
theorem dX12_clause_42 : decode cX12_clause 42 = .ok (.iconst 0, 1) := by decide +kernel
theorem dX12_clause_43 : decode cX12_clause 43 = .ok (.istore_n 3, 1) := by decide +kernel
theorem dX12_clause_44 : decode cX12_clause 44 = .ok (.aload_n 0, 1) := by decide +kernel
theorem dX12_clause_45 : decode cX12_clause 45 = .ok (.invokevirtual 145, 3) := by decide +kernel
theorem dX12_clause_48 : decode cX12_clause 48 = .ok (.istore 4, 2) := by decide +kernel
theorem dX12_clause_50 : decode cX12_clause 50 = .ok (.iload 4, 2) := by decide +kernel
theorem dX12_clause_52 : decode cX12_clause 52 = .ok (.bipush 33, 2) := by decide +kernel
theorem dX12_clause_54 : decode cX12_clause 54 = .ok (.if_icmp .eq 10, 3) := by decide +kernel
theorem dX12_clause_57 : decode cX12_clause 57 = .ok (.iload 4, 2) := by decide +kernel
theorem dX12_clause_59 : decode cX12_clause 59 = .ok (.bipush 40, 2) := by decide +kernel
theorem dX12_clause_61 : decode cX12_clause 61 = .ok (.if_icmp .ne 28, 3) := by decide +kernel
theorem dX12_clause_64 : decode cX12_clause 64 = .ok (.aload_n 0, 1) := by decide +kernel
theorem dX12_clause_65 : decode cX12_clause 65 = .ok (.iconst 0, 1) := by decide +kernel
theorem dX12_clause_66 : decode cX12_clause 66 = .ok (.iconst 0, 1) := by decide +kernel
theorem dX12_clause_67 : decode cX12_clause 67 = .ok (.invokevirtual 194, 3) := by decide +kernel
theorem dX12_clause_70 : decode cX12_clause 70 = .ok (.istore_n 2, 1) := by decide +kernel
theorem dX12_clause_71 : decode cX12_clause 71 = .ok (.aload_n 0, 1) := by decide +kernel
theorem dX12_clause_72 : decode cX12_clause 72 = .ok (.bipush 63, 2) := by decide +kernel
theorem dX12_clause_74 : decode cX12_clause 74 = .ok (.invokevirtual 171, 3) := by decide +kernel
theorem dX12_clause_77 : decode cX12_clause 77 = .ok (.ifCond .ne 4, 3) := by decide +kernel
theorem dX12_clause_80 : decode cX12_clause 80 = .ok (.return_, 1) := by decide +kernel
theorem dX12_clause_81 : decode cX12_clause 81 = .ok (.aload_n 0, 1) := by decide +kernel
theorem dX12_clause_82 : decode cX12_clause 82 = .ok (.invokevirtual 168, 3) := by decide +kernel
theorem dX12_clause_85 : decode cX12_clause 85 = .ok (.istore_n 3, 1) := by decide +kernel
theorem dX12_clause_86 : decode cX12_clause 86 = .ok (.goto 48, 3) := by decide +kernel
theorem dX12_clause_89 : decode cX12_clause 89 = .ok (.aload_n 0, 1) := by decide +kernel
theorem dX12_clause_90 : decode cX12_clause 90 = .ok (.invokevirtual 168, 3) := by decide +kernel
theorem dX12_clause_93 : decode cX12_clause 93 = .ok (.istore_n 3, 1) := by decide +kernel
theorem dX12_clause_94 : decode cX12_clause 94 = .ok (.aload_n 0, 1) := by decide +kernel
theorem dX12_clause_95 : decode cX12_clause 95 = .ok (.getfield 135, 3) := by decide +kernel
theorem dX12_clause_98 : decode cX12_clause 98 = .ok (.iconst (-1), 1) := by decide +kernel
theorem dX12_clause_99 : decode cX12_clause 99 = .ok (.if_icmp .ne 35, 3) := by decide +kernel
theorem dX12_clause_102 : decode cX12_clause 102 = .ok (.aload_n 0, 1) := by decide +kernel
theorem dX12_clause_103 : decode cX12_clause 103 = .ok (.invokevirtual 145, 3) := by decide +kernel
theorem dX12_clause_106 : decode cX12_clause 106 = .ok (.invokestatic 188, 3) := by decide +kernel
theorem dX12_clause_109 : decode cX12_clause 109 = .ok (.ifCond .eq 25, 3) := by decide +kernel
theorem dX12_clause_112 : decode cX12_clause 112 = .ok (.aload_n 0, 1) := by decide +kernel
theorem dX12_clause_113 : decode cX12_clause 113 = .ok (.iconst 1, 1) := by decide +kernel
theorem dX12_clause_114 : decode cX12_clause 114 = .ok (.iload_n 3, 1) := by decide +kernel
theorem dX12_clause_115 : decode cX12_clause 115 = .ok (.invokevirtual 194, 3) := by decide +kernel
theorem dX12_clause_118 : decode cX12_clause 118 = .ok (.istore_n 2, 1) := by decide +kernel
theorem dX12_clause_119 : decode cX12_clause 119 = .ok (.aload_n 0, 1) := by decide +kernel
theorem dX12_clause_120 : decode cX12_clause 120 = .ok (.bipush 63, 2) := by decide +kernel
theorem dX12_clause_122 : decode cX12_clause 122 = .ok (.invokevirtual 171, 3) := by decide +kernel
theorem dX12_clause_125 : decode cX12_clause 125 = .ok (.ifCond .ne 4, 3) := by decide +kernel
theorem dX12_clause_128 : decode cX12_clause 128 = .ok (.return_, 1) := by decide +kernel
theorem dX12_clause_129 : decode cX12_clause 129 = .ok (.aload_n 0, 1) := by decide +kernel
theorem dX12_clause_130 : decode cX12_clause 130 = .ok (.invokevirtual 168, 3) := by decide +kernel
theorem dX12_clause_133 : decode cX12_clause 133 = .ok (.istore_n 3, 1) := by decide +kernel
theorem dX12_clause_134 : decode cX12_clause 134 = .ok (.aload_n 0, 1) := by decide +kernel
theorem dX12_clause_135 : decode cX12_clause 135 = .ok (.getfield 135, 3) := by decide +kernel
theorem dX12_clause_138 : decode cX12_clause 138 = .ok (.iconst (-1), 1) := by decide +kernel
theorem dX12_clause_139 : decode cX12_clause 139 = .ok (.if_icmp .ne 22, 3) := by decide +kernel
theorem dX12_clause_142 : decode cX12_clause 142 = .ok (.aload_n 0, 1) := by decide +kernel
theorem dX12_clause_143 : decode cX12_clause 143 = .ok (.getfield 204, 3) := by decide +kernel
theorem dX12_clause_146 : decode cX12_clause 146 = .ok (.ifCond .ne 15, 3) := by decide +kernel
theorem dX12_clause_149 : decode cX12_clause 149 = .ok (.iload_n 1, 1) := by decide +kernel
theorem dX12_clause_150 : decode cX12_clause 150 = .ok (.aload_n 0, 1) := by decide +kernel
theorem dX12_clause_151 : decode cX12_clause 151 = .ok (.getfield 208, 3) := by decide +kernel
theorem dX12_clause_154 : decode cX12_clause 154 = .ok (.if_icmp .ne 7, 3) := by decide +kernel
theorem dX12_clause_157 : decode cX12_clause 157 = .ok (.iload_n 2, 1) := by decide +kernel
theorem dX12_clause_158 : decode cX12_clause 158 = .ok (.ifCond .ne 4, 3) := by decide +kernel
theorem dX12_clause_161 : decode cX12_clause 161 = .ok (.return_, 1) := by decide +kernel
theorem dX12_clause_162 : decode cX12_clause 162 = .ok (.aload_n 0, 1) := by decide +kernel
theorem dX12_clause_163 : decode cX12_clause 163 = .ok (.iconst 1, 1) := by decide +kernel
theorem dX12_clause_164 : decode cX12_clause 164 = .ok (.putfield 204, 3) := by decide +kernel
theorem dX12_clause_167 : decode cX12_clause 167 = .ok (.aload_n 0, 1) := by decide +kernel
theorem dX12_clause_168 : decode cX12_clause 168 = .ok (.iload_n 3, 1) := by decide +kernel
theorem dX12_clause_169 : decode cX12_clause 169 = .ok (.putfield 211, 3) := by decide +kernel
theorem dX12_clause_172 : decode cX12_clause 172 = .ok (.return_, 1) := by decide +kernel
theorem dX12_starts_0 : decode cX12_starts 0 = .ok (.aload_n 0, 1) := by decide +kernel
theorem dX12_starts_1 : decode cX12_starts 1 = .ok (.aload_n 1, 1) := by decide +kernel
theorem dX12_starts_2 : decode cX12_starts 2 = .ok (.putfield 23, 3) := by decide +kernel
theorem dX12_starts_5 : decode cX12_starts 5 = .ok (.aload_n 0, 1) := by decide +kernel
theorem dX12_starts_6 : decode cX12_starts 6 = .ok (.iload_n 2, 1) := by decide +kernel
theorem dX12_starts_7 : decode cX12_starts 7 = .ok (.putfield 132, 3) := by decide +kernel
theorem dX12_starts_10 : decode cX12_starts 10 = .ok (.aload_n 0, 1) := by decide +kernel
theorem dX12_starts_11 : decode cX12_starts 11 = .ok (.iload_n 3, 1) := by decide +kernel
theorem dX12_starts_12 : decode cX12_starts 12 = .ok (.putfield 129, 3) := by decide +kernel
theorem dX12_starts_15 : decode cX12_starts 15 = .ok (.aload_n 0, 1) := by decide +kernel
theorem dX12_starts_16 : decode cX12_starts 16 = .ok (.iconst 0, 1) := by decide +kernel
theorem dX12_starts_17 : decode cX12_starts 17 = .ok (.putfield 126, 3) := by decide +kernel
theorem dX12_starts_20 : decode cX12_starts 20 = .ok (.aload_n 0, 1) := by decide +kernel
theorem dX12_starts_21 : decode cX12_starts 21 = .ok (.iconst (-1), 1) := by decide +kernel
theorem dX12_starts_22 : decode cX12_starts 22 = .ok (.putfield 135, 3) := by decide +kernel
theorem dX12_starts_25 : decode cX12_starts 25 = .ok (.return_, 1) := by decide +kernel
theorem dX12_goThrough_0 : decode cX12_goThrough 0 = .ok (.aload_n 0, 1) := by decide +kernel
theorem dX12_goThrough_1 : decode cX12_goThrough 1 = .ok (.aload_n 1, 1) := by decide +kernel
theorem dX12_goThrough_2 : decode cX12_goThrough 2 = .ok (.iload_n 2, 1) := by decide +kernel
theorem dX12_goThrough_3 : decode cX12_goThrough 3 = .ok (.iload_n 3, 1) := by decide +kernel
theorem dX12_goThrough_4 : decode cX12_goThrough 4 = .ok (.invokevirtual 214, 3) := by decide +kernel
theorem dX12_goThrough_7 : decode cX12_goThrough 7 = .ok (.aload_n 0, 1) := by decide +kernel
theorem dX12_goThrough_8 : decode cX12_goThrough 8 = .ok (.bipush 121, 2) := by decide +kernel
theorem dX12_goThrough_10 : decode cX12_goThrough 10 = .ok (.putfield 208, 3) := by decide +kernel
theorem dX12_goThrough_13 : decode cX12_goThrough 13 = .ok (.aload_n 0, 1) := by decide +kernel
theorem dX12_goThrough_14 : decode cX12_goThrough 14 = .ok (.iconst 0, 1) := by decide +kernel
theorem dX12_goThrough_15 : decode cX12_goThrough 15 = .ok (.putfield 138, 3) := by decide +kernel
theorem dX12_goThrough_18 : decode cX12_goThrough 18 = .ok (.aload_n 0, 1) := by decide +kernel
theorem dX12_goThrough_19 : decode cX12_goThrough 19 = .ok (.iconst 0, 1) := by decide +kernel
theorem dX12_goThrough_20 : decode cX12_goThrough 20 = .ok (.putfield 204, 3) := by decide +kernel
theorem dX12_goThrough_23 : decode cX12_goThrough 23 = .ok (.aload_n 0, 1) := by decide +kernel
theorem dX12_goThrough_24 : decode cX12_goThrough 24 = .ok (.iconst 0, 1) := by decide +kernel
theorem dX12_goThrough_25 : decode cX12_goThrough 25 = .ok (.putfield 211, 3) := by decide +kernel
theorem dX12_goThrough_28 : decode cX12_goThrough 28 = .ok (.aload_n 0, 1) := by decide +kernel
theorem dX12_goThrough_29 : decode cX12_goThrough 29 = .ok (.invokevirtual 218, 3) := by decide +kernel
theorem dX12_goThrough_32 : decode cX12_goThrough 32 = .ok (.aload_n 0, 1) := by decide +kernel
theorem dX12_goThrough_33 : decode cX12_goThrough 33 = .ok (.getfield 135, 3) := by decide +kernel
theorem dX12_goThrough_36 : decode cX12_goThrough 36 = .ok (.iconst (-1), 1) := by decide +kernel
theorem dX12_goThrough_37 : decode cX12_goThrough 37 = .ok (.if_icmp .ne 29, 3) := by decide +kernel
theorem dX12_goThrough_40 : decode cX12_goThrough 40 = .ok (.aload_n 0, 1) := by decide +kernel
theorem dX12_goThrough_41 : decode cX12_goThrough 41 = .ok (.invokevirtual 145, 3) := by decide +kernel
theorem dX12_goThrough_44 : decode cX12_goThrough 44 = .ok (.bipush 59, 2) := by decide +kernel
theorem dX12_goThrough_46 : decode cX12_goThrough 46 = .ok (.if_icmp .ne 20, 3) := by decide +kernel
theorem dX12_goThrough_49 : decode cX12_goThrough 49 = .ok (.aload_n 0, 1) := by decide +kernel
theorem dX12_goThrough_50 : decode cX12_goThrough 50 = .ok (.dup, 1) := by decide +kernel
theorem dX12_goThrough_51 : decode cX12_goThrough 51 = .ok (.getfield 126, 3) := by decide +kernel
theorem dX12_goThrough_54 : decode cX12_goThrough 54 = .ok (.iconst 1, 1) := by decide +kernel
theorem dX12_goThrough_55 : decode cX12_goThrough 55 = .ok (.iadd, 1) := by decide +kernel
theorem dX12_goThrough_56 : decode cX12_goThrough 56 = .ok (.putfield 126, 3) := by decide +kernel
theorem dX12_goThrough_59 : decode cX12_goThrough 59 = .ok (.aload_n 0, 1) := by decide +kernel
theorem dX12_goThrough_60 : decode cX12_goThrough 60 = .ok (.invokevirtual 218, 3) := by decide +kernel
theorem dX12_goThrough_63 : decode cX12_goThrough 63 = .ok (.goto (-31), 3) := by decide +kernel
theorem dX12_goThrough_66 : decode cX12_goThrough 66 = .ok (.aload_n 0, 1) := by decide +kernel
theorem dX12_goThrough_67 : decode cX12_goThrough 67 = .ok (.getfield 135, 3) := by decide +kernel
theorem dX12_goThrough_70 : decode cX12_goThrough 70 = .ok (.iconst (-1), 1) := by decide +kernel
theorem dX12_goThrough_71 : decode cX12_goThrough 71 = .ok (.if_icmp .ne 16, 3) := by decide +kernel
theorem dX12_goThrough_74 : decode cX12_goThrough 74 = .ok (.aload_n 0, 1) := by decide +kernel
theorem dX12_goThrough_75 : decode cX12_goThrough 75 = .ok (.invokevirtual 145, 3) := by decide +kernel
theorem dX12_goThrough_78 : decode cX12_goThrough 78 = .ok (.iconst (-1), 1) := by decide +kernel
theorem dX12_goThrough_79 : decode cX12_goThrough 79 = .ok (.if_icmp .eq 8, 3) := by decide +kernel
theorem dX12_goThrough_82 : decode cX12_goThrough 82 = .ok (.aload_n 0, 1) := by decide +kernel
theorem dX12_goThrough_83 : decode cX12_goThrough 83 = .ok (.invokevirtual 141, 3) := by decide +kernel
theorem dX12_goThrough_86 : decode cX12_goThrough 86 = .ok (.pop, 1) := by decide +kernel
theorem dX12_goThrough_87 : decode cX12_goThrough 87 = .ok (.return_, 1) := by decide +kernel
theorem dX12_here_0 : decode cX12_here 0 = .ok (.aload_n 0, 1) := by decide +kernel
theorem dX12_here_1 : decode cX12_here 1 = .ok (.getfield 126, 3) := by decide +kernel
theorem dX12_here_4 : decode cX12_here 4 = .ok (.aload_n 0, 1) := by decide +kernel
theorem dX12_here_5 : decode cX12_here 5 = .ok (.getfield 129, 3) := by decide +kernel
theorem dX12_here_8 : decode cX12_here 8 = .ok (.if_icmp .ge 24, 3) := by decide +kernel
theorem dX12_here_11 : decode cX12_here 11 = .ok (.aload_n 0, 1) := by decide +kernel
theorem dX12_here_12 : decode cX12_here 12 = .ok (.getfield 23, 3) := by decide +kernel
theorem dX12_here_15 : decode cX12_here 15 = .ok (.aload_n 0, 1) := by decide +kernel
theorem dX12_here_16 : decode cX12_here 16 = .ok (.getfield 132, 3) := by decide +kernel
theorem dX12_here_19 : decode cX12_here 19 = .ok (.aload_n 0, 1) := by decide +kernel
theorem dX12_here_20 : decode cX12_here 20 = .ok (.getfield 126, 3) := by decide +kernel
theorem dX12_here_23 : decode cX12_here 23 = .ok (.iadd, 1) := by decide +kernel
theorem dX12_here_24 : decode cX12_here 24 = .ok (.baload, 1) := by decide +kernel
theorem dX12_here_25 : decode cX12_here 25 = .ok (.sipush 255, 3) := by decide +kernel
theorem dX12_here_28 : decode cX12_here 28 = .ok (.iand, 1) := by decide +kernel
theorem dX12_here_29 : decode cX12_here 29 = .ok (.goto 4, 3) := by decide +kernel
theorem dX12_here_32 : decode cX12_here 32 = .ok (.iconst (-1), 1) := by decide +kernel
theorem dX12_here_33 : decode cX12_here 33 = .ok (.ireturn, 1) := by decide +kernel
theorem dX12_placeOf_0 : decode cX12_placeOf 0 = .ok (.iconst 0, 1) := by decide +kernel
theorem dX12_placeOf_1 : decode cX12_placeOf 1 = .ok (.istore_n 2, 1) := by decide +kernel
theorem dX12_placeOf_2 : decode cX12_placeOf 2 = .ok (.iload_n 2, 1) := by decide +kernel
theorem dX12_placeOf_3 : decode cX12_placeOf 3 = .ok (.aload_n 0, 1) := by decide +kernel
theorem dX12_placeOf_4 : decode cX12_placeOf 4 = .ok (.invokevirtual 106, 3) := by decide +kernel
theorem dX12_placeOf_7 : decode cX12_placeOf 7 = .ok (.if_icmp .ge 20, 3) := by decide +kernel
theorem dX12_placeOf_10 : decode cX12_placeOf 10 = .ok (.aload_n 0, 1) := by decide +kernel
theorem dX12_placeOf_11 : decode cX12_placeOf 11 = .ok (.iload_n 2, 1) := by decide +kernel
theorem dX12_placeOf_12 : decode cX12_placeOf 12 = .ok (.invokevirtual 112, 3) := by decide +kernel
theorem dX12_placeOf_15 : decode cX12_placeOf 15 = .ok (.iload_n 1, 1) := by decide +kernel
theorem dX12_placeOf_16 : decode cX12_placeOf 16 = .ok (.if_icmp .ne 5, 3) := by decide +kernel
theorem dX12_placeOf_19 : decode cX12_placeOf 19 = .ok (.iload_n 2, 1) := by decide +kernel
theorem dX12_placeOf_20 : decode cX12_placeOf 20 = .ok (.ireturn, 1) := by decide +kernel
theorem dX12_placeOf_21 : decode cX12_placeOf 21 = .ok (.iinc 2 1, 3) := by decide +kernel
theorem dX12_placeOf_24 : decode cX12_placeOf 24 = .ok (.goto (-22), 3) := by decide +kernel
theorem dX12_placeOf_27 : decode cX12_placeOf 27 = .ok (.iconst (-1), 1) := by decide +kernel
theorem dX12_placeOf_28 : decode cX12_placeOf 28 = .ok (.ireturn, 1) := by decide +kernel
theorem dX12_readItem_0 : decode cX12_readItem 0 = .ok (.aload_n 0, 1) := by decide +kernel
theorem dX12_readItem_1 : decode cX12_readItem 1 = .ok (.dup, 1) := by decide +kernel
theorem dX12_readItem_2 : decode cX12_readItem 2 = .ok (.getfield 126, 3) := by decide +kernel
theorem dX12_readItem_5 : decode cX12_readItem 5 = .ok (.iconst 1, 1) := by decide +kernel
theorem dX12_readItem_6 : decode cX12_readItem 6 = .ok (.iadd, 1) := by decide +kernel
theorem dX12_readItem_7 : decode cX12_readItem 7 = .ok (.putfield 126, 3) := by decide +kernel
theorem dX12_readItem_10 : decode cX12_readItem 10 = .ok (.aload_n 0, 1) := by decide +kernel
theorem dX12_readItem_11 : decode cX12_readItem 11 = .ok (.invokevirtual 145, 3) := by decide +kernel
theorem dX12_readItem_14 : decode cX12_readItem 14 = .ok (.istore 5, 2) := by decide +kernel
theorem dX12_readItem_16 : decode cX12_readItem 16 = .ok (.aload_n 0, 1) := by decide +kernel
theorem dX12_readItem_17 : decode cX12_readItem 17 = .ok (.invokevirtual 175, 3) := by decide +kernel
theorem dX12_readItem_20 : decode cX12_readItem 20 = .ok (.ifCond .ne 9, 3) := by decide +kernel
theorem dX12_readItem_23 : decode cX12_readItem 23 = .ok (.aload_n 0, 1) := by decide +kernel
theorem dX12_readItem_24 : decode cX12_readItem 24 = .ok (.invokevirtual 141, 3) := by decide +kernel
theorem dX12_readItem_27 : decode cX12_readItem 27 = .ok (.pop, 1) := by decide +kernel
theorem dX12_readItem_28 : decode cX12_readItem 28 = .ok (.return_, 1) := by decide +kernel
theorem dX12_readItem_29 : decode cX12_readItem 29 = .ok (.iload 5, 2) := by decide +kernel
theorem dX12_readItem_31 : decode cX12_readItem 31 = .ok (.bipush 48, 2) := by decide +kernel
theorem dX12_readItem_33 : decode cX12_readItem 33 = .ok (.isub, 1) := by decide +kernel
theorem dX12_readItem_34 : decode cX12_readItem 34 = .ok (.istore 6, 2) := by decide +kernel
theorem dX12_readItem_36 : decode cX12_readItem 36 = .ok (.aload_n 0, 1) := by decide +kernel
theorem dX12_readItem_37 : decode cX12_readItem 37 = .ok (.dup, 1) := by decide +kernel
theorem dX12_readItem_38 : decode cX12_readItem 38 = .ok (.getfield 126, 3) := by decide +kernel
theorem dX12_readItem_41 : decode cX12_readItem 41 = .ok (.iconst 1, 1) := by decide +kernel
theorem dX12_readItem_42 : decode cX12_readItem 42 = .ok (.iadd, 1) := by decide +kernel
theorem dX12_readItem_43 : decode cX12_readItem 43 = .ok (.putfield 126, 3) := by decide +kernel
theorem dX12_readItem_46 : decode cX12_readItem 46 = .ok (.aload_n 0, 1) := by decide +kernel
theorem dX12_readItem_47 : decode cX12_readItem 47 = .ok (.invokevirtual 175, 3) := by decide +kernel
theorem dX12_readItem_50 : decode cX12_readItem 50 = .ok (.ifCond .eq 28, 3) := by decide +kernel
theorem dX12_readItem_53 : decode cX12_readItem 53 = .ok (.bipush 10, 2) := by decide +kernel
theorem dX12_readItem_55 : decode cX12_readItem 55 = .ok (.iload 6, 2) := by decide +kernel
theorem dX12_readItem_57 : decode cX12_readItem 57 = .ok (.imul, 1) := by decide +kernel
theorem dX12_readItem_58 : decode cX12_readItem 58 = .ok (.aload_n 0, 1) := by decide +kernel
theorem dX12_readItem_59 : decode cX12_readItem 59 = .ok (.invokevirtual 221, 3) := by decide +kernel
theorem dX12_readItem_62 : decode cX12_readItem 62 = .ok (.iadd, 1) := by decide +kernel
theorem dX12_readItem_63 : decode cX12_readItem 63 = .ok (.bipush 48, 2) := by decide +kernel
theorem dX12_readItem_65 : decode cX12_readItem 65 = .ok (.isub, 1) := by decide +kernel
theorem dX12_readItem_66 : decode cX12_readItem 66 = .ok (.istore 6, 2) := by decide +kernel
theorem dX12_readItem_68 : decode cX12_readItem 68 = .ok (.aload_n 0, 1) := by decide +kernel
theorem dX12_readItem_69 : decode cX12_readItem 69 = .ok (.dup, 1) := by decide +kernel
theorem dX12_readItem_70 : decode cX12_readItem 70 = .ok (.getfield 126, 3) := by decide +kernel
theorem dX12_readItem_73 : decode cX12_readItem 73 = .ok (.iconst 1, 1) := by decide +kernel
theorem dX12_readItem_74 : decode cX12_readItem 74 = .ok (.iadd, 1) := by decide +kernel
theorem dX12_readItem_75 : decode cX12_readItem 75 = .ok (.putfield 126, 3) := by decide +kernel
theorem dX12_readItem_78 : decode cX12_readItem 78 = .ok (.aload_n 0, 1) := by decide +kernel
theorem dX12_readItem_79 : decode cX12_readItem 79 = .ok (.invokevirtual 175, 3) := by decide +kernel
theorem dX12_readItem_82 : decode cX12_readItem 82 = .ok (.ifCond .eq 9, 3) := by decide +kernel
theorem dX12_readItem_85 : decode cX12_readItem 85 = .ok (.aload_n 0, 1) := by decide +kernel
theorem dX12_readItem_86 : decode cX12_readItem 86 = .ok (.invokevirtual 141, 3) := by decide +kernel
theorem dX12_readItem_89 : decode cX12_readItem 89 = .ok (.pop, 1) := by decide +kernel
theorem dX12_readItem_90 : decode cX12_readItem 90 = .ok (.return_, 1) := by decide +kernel
theorem dX12_readItem_91 : decode cX12_readItem 91 = .ok (.iload 6, 2) := by decide +kernel
theorem dX12_readItem_93 : decode cX12_readItem 93 = .ok (.i2l, 1) := by decide +kernel
theorem dX12_readItem_94 : decode cX12_readItem 94 = .ok (.iload_n 3, 1) := by decide +kernel
theorem dX12_readItem_95 : decode cX12_readItem 95 = .ok (.i2l, 1) := by decide +kernel
theorem dX12_readItem_96 : decode cX12_readItem 96 = .ok (.iload 4, 2) := by decide +kernel
theorem dX12_readItem_98 : decode cX12_readItem 98 = .ok (.i2l, 1) := by decide +kernel
theorem dX12_readItem_99 : decode cX12_readItem 99 = .ok (.invokestatic 224, 3) := by decide +kernel
theorem dX12_readItem_102 : decode cX12_readItem 102 = .ok (.ifCond .ne 19, 3) := by decide +kernel
theorem dX12_readItem_105 : decode cX12_readItem 105 = .ok (.aload_n 0, 1) := by decide +kernel
theorem dX12_readItem_106 : decode cX12_readItem 106 = .ok (.dup, 1) := by decide +kernel
theorem dX12_readItem_107 : decode cX12_readItem 107 = .ok (.getfield 126, 3) := by decide +kernel
theorem dX12_readItem_110 : decode cX12_readItem 110 = .ok (.iconst 1, 1) := by decide +kernel
theorem dX12_readItem_111 : decode cX12_readItem 111 = .ok (.isub, 1) := by decide +kernel
theorem dX12_readItem_112 : decode cX12_readItem 112 = .ok (.putfield 126, 3) := by decide +kernel
theorem dX12_readItem_115 : decode cX12_readItem 115 = .ok (.aload_n 0, 1) := by decide +kernel
theorem dX12_readItem_116 : decode cX12_readItem 116 = .ok (.invokevirtual 141, 3) := by decide +kernel
theorem dX12_readItem_119 : decode cX12_readItem 119 = .ok (.pop, 1) := by decide +kernel
theorem dX12_readItem_120 : decode cX12_readItem 120 = .ok (.return_, 1) := by decide +kernel
theorem dX12_readItem_121 : decode cX12_readItem 121 = .ok (.aload_n 1, 1) := by decide +kernel
theorem dX12_readItem_122 : decode cX12_readItem 122 = .ok (.iload_n 2, 1) := by decide +kernel
theorem dX12_readItem_123 : decode cX12_readItem 123 = .ok (.iload 6, 2) := by decide +kernel
theorem dX12_readItem_125 : decode cX12_readItem 125 = .ok (.iastore, 1) := by decide +kernel
theorem dX12_readItem_126 : decode cX12_readItem 126 = .ok (.return_, 1) := by decide +kernel
theorem dX12_mostOf_0 : decode cX12_mostOf 0 = .ok (.iload_n 0, 1) := by decide +kernel
theorem dX12_mostOf_1 : decode cX12_mostOf 1 = .ok (.bipush 108, 2) := by decide +kernel
theorem dX12_mostOf_3 : decode cX12_mostOf 3 = .ok (.if_icmp .ne 28, 3) := by decide +kernel
theorem dX12_mostOf_6 : decode cX12_mostOf 6 = .ok (.iload_n 1, 1) := by decide +kernel
theorem dX12_mostOf_7 : decode cX12_mostOf 7 = .ok (.iconst 3, 1) := by decide +kernel
theorem dX12_mostOf_8 : decode cX12_mostOf 8 = .ok (.if_icmp .lt 15, 3) := by decide +kernel
theorem dX12_mostOf_11 : decode cX12_mostOf 11 = .ok (.iload_n 1, 1) := by decide +kernel
theorem dX12_mostOf_12 : decode cX12_mostOf 12 = .ok (.bipush 7, 2) := by decide +kernel
theorem dX12_mostOf_14 : decode cX12_mostOf 14 = .ok (.if_icmp .eq 9, 3) := by decide +kernel
theorem dX12_mostOf_17 : decode cX12_mostOf 17 = .ok (.iload_n 1, 1) := by decide +kernel
theorem dX12_mostOf_18 : decode cX12_mostOf 18 = .ok (.bipush 8, 2) := by decide +kernel
theorem dX12_mostOf_20 : decode cX12_mostOf 20 = .ok (.if_icmp .ne 8, 3) := by decide +kernel
theorem dX12_mostOf_23 : decode cX12_mostOf 23 = .ok (.bipush 99, 2) := by decide +kernel
theorem dX12_mostOf_25 : decode cX12_mostOf 25 = .ok (.goto 5, 3) := by decide +kernel
theorem dX12_mostOf_28 : decode cX12_mostOf 28 = .ok (.bipush 9, 2) := by decide +kernel
theorem dX12_mostOf_30 : decode cX12_mostOf 30 = .ok (.ireturn, 1) := by decide +kernel
theorem dX12_mostOf_31 : decode cX12_mostOf 31 = .ok (.iload_n 1, 1) := by decide +kernel
theorem dX12_mostOf_32 : decode cX12_mostOf 32 = .ok (.ifCond .ne 7, 3) := by decide +kernel
theorem dX12_mostOf_35 : decode cX12_mostOf 35 = .ok (.iconst 2, 1) := by decide +kernel
theorem dX12_mostOf_36 : decode cX12_mostOf 36 = .ok (.goto 22, 3) := by decide +kernel
theorem dX12_mostOf_39 : decode cX12_mostOf 39 = .ok (.iload_n 1, 1) := by decide +kernel
theorem dX12_mostOf_40 : decode cX12_mostOf 40 = .ok (.iconst 1, 1) := by decide +kernel
