/-! the cells, one by one -/
theorem kd_0 : pm_kd 0 = .inr (11, [4, 6, 9, 13, 15, 26, 28, 30, 36, 38, 44, 75, 79, 94, 95, 0, 0, 0, 0]) := rfl
theorem kd_1 : pm_kd 1 = .inr (10, [5, 0, 0, 0]) := rfl
theorem kd_2 : pm_kd 2 = .inl (0, 240, 0) := rfl
theorem kd_3 : pm_kd 3 = .inr (1, [7, 8, 0]) := rfl
theorem kd_4 : pm_kd 4 = .inl (0, 60, 0) := rfl
theorem kd_5 : pm_kd 5 = .inl (0, 4, 0) := rfl
theorem kd_6 : pm_kd 6 = .inr (2, [4, 10, 0]) := rfl
theorem kd_7 : pm_kd 7 = .inr (1, [11, 12, 0]) := rfl
theorem kd_8 : pm_kd 8 = .inl (0, 60, 0) := rfl
theorem kd_9 : pm_kd 9 = .inl (0, 4, 0) := rfl
theorem kd_10 : pm_kd 10 = .inr (4, [4, 14, 0]) := rfl
theorem kd_11 : pm_kd 11 = .inl (0, 240, 0) := rfl
theorem kd_12 : pm_kd 12 = .inr (5, [6, 16, 23, 24, 25, 0, 0, 0]) := rfl
theorem kd_13 : pm_kd 13 = .inl (3, 6, 14) := rfl
theorem kd_14 : pm_kd 14 = .inl (0, 240, 0) := rfl
theorem kd_15 : pm_kd 15 = .inl (0, 240, 0) := rfl
theorem kd_16 : pm_kd 16 = .inl (0, 240, 0) := rfl
theorem kd_17 : pm_kd 17 = .inl (0, 240, 0) := rfl
theorem kd_18 : pm_kd 18 = .inl (0, 240, 0) := rfl
theorem kd_19 : pm_kd 19 = .inl (0, 240, 0) := rfl
theorem kd_20 : pm_kd 20 = .inl (0, 6, 0) := rfl
theorem kd_21 : pm_kd 21 = .inl (0, 8, 0) := rfl
theorem kd_22 : pm_kd 22 = .inl (0, 64, 0) := rfl
theorem kd_23 : pm_kd 23 = .inr (9, [6, 27]) := rfl
theorem kd_24 : pm_kd 24 = .inl (0, 71, 0) := rfl
theorem kd_25 : pm_kd 25 = .inr (9, [6, 29]) := rfl
theorem kd_26 : pm_kd 26 = .inl (0, 71, 0) := rfl
theorem kd_27 : pm_kd 27 = .inr (6, [31, 32, 33, 34, 35, 0]) := rfl
theorem kd_28 : pm_kd 28 = .inl (0, 36, 0) := rfl
theorem kd_29 : pm_kd 29 = .inl (0, 36, 0) := rfl
theorem kd_30 : pm_kd 30 = .inl (0, 36, 0) := rfl
theorem kd_31 : pm_kd 31 = .inl (0, 36, 0) := rfl
theorem kd_32 : pm_kd 32 = .inl (0, 36, 0) := rfl
theorem kd_33 : pm_kd 33 = .inr (9, [6, 37]) := rfl
theorem kd_34 : pm_kd 34 = .inl (0, 71, 0) := rfl
theorem kd_35 : pm_kd 35 = .inr (6, [39, 40, 41, 42, 43, 0]) := rfl
theorem kd_36 : pm_kd 36 = .inl (0, 36, 0) := rfl
theorem kd_37 : pm_kd 37 = .inl (0, 36, 0) := rfl
theorem kd_38 : pm_kd 38 = .inl (0, 36, 0) := rfl
theorem kd_39 : pm_kd 39 = .inl (0, 36, 0) := rfl
theorem kd_40 : pm_kd 40 = .inl (0, 36, 0) := rfl
theorem kd_41 : pm_kd 41 = .inr (0, [6, 15, 45, 46, 73, 74, 0, 0]) := rfl
theorem kd_42 : pm_kd 42 = .inr (7, [6, 0, 0, 0, 0, 0, 0]) := rfl
theorem kd_43 : pm_kd 43 = .inl (4, 13, 44) := rfl
theorem kd_44 : pm_kd 44 = .inr (9, [6, 48]) := rfl
theorem kd_45 : pm_kd 45 = .inl (0, 71, 0) := rfl
theorem kd_46 : pm_kd 46 = .inr (9, [6, 50]) := rfl
theorem kd_47 : pm_kd 47 = .inl (0, 71, 0) := rfl
theorem kd_48 : pm_kd 48 = .inr (9, [6, 52]) := rfl
theorem kd_49 : pm_kd 49 = .inl (0, 71, 0) := rfl
theorem kd_50 : pm_kd 50 = .inr (9, [6, 54]) := rfl
theorem kd_51 : pm_kd 51 = .inl (0, 71, 0) := rfl
theorem kd_52 : pm_kd 52 = .inr (9, [6, 56]) := rfl
theorem kd_53 : pm_kd 53 = .inl (0, 71, 0) := rfl
theorem kd_54 : pm_kd 54 = .inr (9, [6, 58]) := rfl
theorem kd_55 : pm_kd 55 = .inl (0, 71, 0) := rfl
theorem kd_56 : pm_kd 56 = .inr (9, [6, 60]) := rfl
theorem kd_57 : pm_kd 57 = .inl (0, 71, 0) := rfl
theorem kd_58 : pm_kd 58 = .inr (9, [6, 62]) := rfl
theorem kd_59 : pm_kd 59 = .inl (0, 71, 0) := rfl
theorem kd_60 : pm_kd 60 = .inr (9, [6, 64]) := rfl
theorem kd_61 : pm_kd 61 = .inl (0, 71, 0) := rfl
theorem kd_62 : pm_kd 62 = .inr (9, [6, 66]) := rfl
theorem kd_63 : pm_kd 63 = .inl (0, 71, 0) := rfl
theorem kd_64 : pm_kd 64 = .inr (9, [6, 68]) := rfl
theorem kd_65 : pm_kd 65 = .inl (0, 71, 0) := rfl
theorem kd_66 : pm_kd 66 = .inr (9, [6, 70]) := rfl
theorem kd_67 : pm_kd 67 = .inl (0, 71, 0) := rfl
theorem kd_68 : pm_kd 68 = .inr (9, [6, 72]) := rfl
theorem kd_69 : pm_kd 69 = .inl (0, 71, 0) := rfl
theorem kd_70 : pm_kd 70 = .inl (2, 42, 0) := rfl
theorem kd_71 : pm_kd 71 = .inl (2, 6, 0) := rfl
theorem kd_72 : pm_kd 72 = .inr (3, [6, 76, 77, 78, 0]) := rfl
theorem kd_73 : pm_kd 73 = .inl (0, 3, 0) := rfl
theorem kd_74 : pm_kd 74 = .inl (0, 3, 0) := rfl
theorem kd_75 : pm_kd 75 = .inl (0, 192, 0) := rfl
theorem kd_76 : pm_kd 76 = .inr (8, [6, 15, 80, 81, 86, 90, 0, 0]) := rfl
theorem kd_77 : pm_kd 77 = .inr (7, [6, 0, 0, 0, 0, 0, 0]) := rfl
theorem kd_78 : pm_kd 78 = .inl (3, 4, 79) := rfl
theorem kd_79 : pm_kd 79 = .inl (0, 105, 0) := rfl
theorem kd_80 : pm_kd 80 = .inl (0, 105, 0) := rfl
theorem kd_81 : pm_kd 81 = .inl (0, 105, 0) := rfl
theorem kd_82 : pm_kd 82 = .inl (0, 105, 0) := rfl
theorem kd_83 : pm_kd 83 = .inl (3, 3, 84) := rfl
theorem kd_84 : pm_kd 84 = .inl (0, 105, 0) := rfl
theorem kd_85 : pm_kd 85 = .inl (0, 105, 0) := rfl
theorem kd_86 : pm_kd 86 = .inl (0, 105, 0) := rfl
theorem kd_87 : pm_kd 87 = .inl (3, 3, 88) := rfl
theorem kd_88 : pm_kd 88 = .inl (0, 105, 0) := rfl
theorem kd_89 : pm_kd 89 = .inl (0, 105, 0) := rfl
theorem kd_90 : pm_kd 90 = .inl (0, 105, 0) := rfl
theorem kd_91 : pm_kd 91 = .inr (7, [6, 0, 0, 0, 0, 0, 0]) := rfl
theorem kd_92 : pm_kd 92 = .inl (3, 40, 93) := rfl
theorem kd_93 : pm_kd 93 = .inl (0, 71, 0) := rfl
theorem kd_94 : pm_kd 94 = .inl (0, 71, 0) := rfl
theorem kd_95 : pm_kd 95 = .inl (0, 71, 0) := rfl
theorem kd_96 : pm_kd 96 = .inl (0, 71, 0) := rfl
theorem kd_97 : pm_kd 97 = .inl (0, 71, 0) := rfl
theorem kd_98 : pm_kd 98 = .inl (0, 71, 0) := rfl
theorem kd_99 : pm_kd 99 = .inl (0, 71, 0) := rfl
theorem kd_100 : pm_kd 100 = .inl (0, 71, 0) := rfl
theorem kd_101 : pm_kd 101 = .inl (0, 71, 0) := rfl
theorem kd_102 : pm_kd 102 = .inl (0, 71, 0) := rfl
theorem kd_103 : pm_kd 103 = .inl (0, 71, 0) := rfl
theorem kd_104 : pm_kd 104 = .inl (0, 71, 0) := rfl
theorem kd_105 : pm_kd 105 = .inl (0, 71, 0) := rfl
theorem kd_106 : pm_kd 106 = .inl (0, 71, 0) := rfl
theorem kd_107 : pm_kd 107 = .inl (0, 71, 0) := rfl
theorem kd_108 : pm_kd 108 = .inl (0, 71, 0) := rfl
theorem kd_109 : pm_kd 109 = .inl (0, 71, 0) := rfl
theorem kd_110 : pm_kd 110 = .inl (0, 71, 0) := rfl
theorem kd_111 : pm_kd 111 = .inl (0, 71, 0) := rfl
theorem kd_112 : pm_kd 112 = .inl (0, 71, 0) := rfl
theorem kd_113 : pm_kd 113 = .inl (0, 71, 0) := rfl
theorem kd_114 : pm_kd 114 = .inl (0, 71, 0) := rfl
theorem kd_115 : pm_kd 115 = .inl (0, 71, 0) := rfl
theorem kd_116 : pm_kd 116 = .inl (0, 71, 0) := rfl
theorem kd_117 : pm_kd 117 = .inl (0, 71, 0) := rfl
theorem kd_118 : pm_kd 118 = .inl (0, 71, 0) := rfl
theorem kd_119 : pm_kd 119 = .inl (0, 71, 0) := rfl
theorem kd_120 : pm_kd 120 = .inl (0, 71, 0) := rfl
theorem kd_121 : pm_kd 121 = .inl (0, 71, 0) := rfl
theorem kd_122 : pm_kd 122 = .inl (0, 71, 0) := rfl
theorem kd_123 : pm_kd 123 = .inl (0, 71, 0) := rfl
theorem kd_124 : pm_kd 124 = .inl (0, 71, 0) := rfl
theorem kd_125 : pm_kd 125 = .inl (0, 71, 0) := rfl
theorem kd_126 : pm_kd 126 = .inl (0, 71, 0) := rfl
theorem kd_127 : pm_kd 127 = .inl (0, 71, 0) := rfl
theorem kd_128 : pm_kd 128 = .inl (0, 71, 0) := rfl
theorem kd_129 : pm_kd 129 = .inl (0, 71, 0) := rfl
theorem kd_130 : pm_kd 130 = .inl (0, 71, 0) := rfl
theorem kd_131 : pm_kd 131 = .inl (0, 71, 0) := rfl
theorem kd_132 : pm_kd 132 = .inl (0, 71, 0) := rfl
theorem kd_133 : pm_kd 133 = .inr (12, [0, 137, 138, 139, 140, 1, 0, 0, 0, 0, 0, 0, 0, 0, 0, 176, 175, 0, 141, 142, 143, 144, 0, 0, 0, 145, 146, 0, 0, 0, 147, 148, 149, 0, 2, 150, 151, 152, 153, 154, 155, 0, 156, 0, 157, 158, 159, 0]) := rfl
theorem kd_134 : pm_kd 134 = .inl (1, 240, 0) := rfl
theorem kd_135 : pm_kd 135 = .inl (1, 1440, 0) := rfl
theorem kd_136 : pm_kd 136 = .inl (0, 6, 0) := rfl
theorem kd_137 : pm_kd 137 = .inl (0, 128, 0) := rfl
theorem kd_138 : pm_kd 138 = .inl (0, 60, 0) := rfl
theorem kd_139 : pm_kd 139 = .inl (0, 60, 0) := rfl
theorem kd_140 : pm_kd 140 = .inl (0, 4, 0) := rfl
theorem kd_141 : pm_kd 141 = .inl (0, 4, 0) := rfl
theorem kd_142 : pm_kd 142 = .inl (0, 251, 0) := rfl
theorem kd_143 : pm_kd 143 = .inl (0, 251, 0) := rfl
theorem kd_144 : pm_kd 144 = .inl (2, 8191, 0) := rfl
theorem kd_145 : pm_kd 145 = .inl (0, 8191, 0) := rfl
theorem kd_146 : pm_kd 146 = .inl (0, 10040, 0) := rfl
theorem kd_147 : pm_kd 147 = .inl (0, 3514, 0) := rfl
theorem kd_148 : pm_kd 148 = .inl (2, 42, 0) := rfl
theorem kd_149 : pm_kd 149 = .inl (2, 6, 0) := rfl
theorem kd_150 : pm_kd 150 = .inl (0, 251, 0) := rfl
theorem kd_151 : pm_kd 151 = .inl (0, 6, 0) := rfl
theorem kd_152 : pm_kd 152 = .inl (0, 192, 0) := rfl
theorem kd_153 : pm_kd 153 = .inl (0, 40804, 0) := rfl
theorem kd_154 : pm_kd 154 = .inl (0, 6, 0) := rfl
theorem kd_155 : pm_kd 155 = .inl (0, 6, 0) := rfl
theorem kd_156 : pm_kd 156 = .inl (0, 251, 0) := rfl
theorem kd_157 : pm_kd 157 = .inl (2, 1, 0) := rfl
theorem kd_160 : pm_kd 160 = .inl (5, 10, 0) := rfl
theorem kd_161 : pm_kd 161 = .inl (5, 4, 1) := rfl
theorem kd_162 : pm_kd 162 = .inl (5, 10, 2) := rfl
theorem kd_163 : pm_kd 163 = .inl (5, 10, 3) := rfl
theorem kd_164 : pm_kd 164 = .inl (5, 4, 4) := rfl
theorem kd_165 : pm_kd 165 = .inl (5, 4, 5) := rfl
theorem kd_170 : pm_kd 170 = .inr (100, [174]) := rfl
theorem kd_171 : pm_kd 171 = .inr (100, [175]) := rfl
theorem kd_172 : pm_kd 172 = .inr (100, [176]) := rfl
theorem kd_173 : pm_kd 173 = .inr (100, [177]) := rfl
theorem kd_174 : pm_kd 174 = .inl (6, 10, 6) := rfl
theorem kd_175 : pm_kd 175 = .inl (6, 4, 7) := rfl
theorem kd_176 : pm_kd 176 = .inl (6, 8, 8) := rfl
theorem kd_177 : pm_kd 177 = .inl (6, 1, 9) := rfl
