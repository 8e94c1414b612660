theorem f_FL_0 : wFL (0, 11, 0, 0) ∈ W0 := in_W0 (in_t2 102 rfl) rfl
theorem f_FL_1 : wFL (0, 15, 0, 1) ∈ W0 := in_W0 (in_t2 104 rfl) rfl
theorem f_FL_2 : wFL (0, 19, 0, 2) ∈ W0 := in_W0 (in_t2 106 rfl) rfl
theorem f_FL_3 : wFL (0, 22, 0, 3) ∈ W0 := in_W0 (in_t2 107 rfl) rfl
theorem f_FL_4 : wFL (1, 9, 1, 0) ∈ W0 := in_W0 (in_t1 231 rfl) rfl
theorem f_FL_5 : wFL (1, 15, 1, 1) ∈ W0 := in_W0 (in_t1 232 rfl) rfl
theorem f_FL_6 : wFL (1, 19, 1, 2) ∈ W0 := in_W0 (in_t1 233 rfl) rfl
theorem f_FL_7 : wFL (1, 22, 3, 0) ∈ W0 := in_W0 (in_t1 88 rfl) rfl
theorem f_FL_8 : wFL (1, 28, 3, 3) ∈ W0 := in_W0 (in_t1 114 rfl) rfl
theorem f_FL_9 : wFL (1, 31, 1, 3) ∈ W0 := in_W0 (in_t1 234 rfl) rfl
theorem f_FL_10 : wFL (1, 35, 3, 2) ∈ W0 := in_W0 (in_t1 108 rfl) rfl
theorem f_FL_11 : wFL (1, 38, 7, 1) ∈ W0 := in_W0 (in_t1 66 rfl) rfl
theorem f_FL_12 : wFL (1, 59, 7, 3) ∈ W0 := in_W0 (in_t1 71 rfl) rfl
theorem f_FL_13 : wFL (1, 71, 7, 4) ∈ W0 := in_W0 (in_t1 74 rfl) rfl
theorem f_FL_14 : wFL (1, 74, 3, 1) ∈ W0 := in_W0 (in_t1 103 rfl) rfl
theorem f_FL_15 : wFL (1, 81, 7, 0) ∈ W0 := in_W0 (in_t1 63 rfl) rfl
theorem f_FL_16 : wFL (2, 11, 2, 0) ∈ W0 := in_W0 (in_t2 72 rfl) rfl
theorem f_FL_17 : wFL (2, 17, 2, 5) ∈ W0 := in_W0 (in_t2 82 rfl) rfl
theorem f_FL_18 : wFL (2, 20, 2, 1) ∈ W0 := in_W0 (in_t2 74 rfl) rfl
theorem f_FL_19 : wFL (2, 24, 2, 2) ∈ W0 := in_W0 (in_t2 76 rfl) rfl
theorem f_FL_20 : wFL (2, 27, 3, 1) ∈ W0 := in_W0 (in_t1 104 rfl) rfl
theorem f_FL_21 : wFL (2, 52, 2, 3) ∈ W0 := in_W0 (in_t2 78 rfl) rfl
theorem f_FL_22 : wFL (2, 55, 2, 4) ∈ W0 := in_W0 (in_t2 80 rfl) rfl
theorem f_FL_23 : wFL (3, 9, 3, 3) ∈ W0 := in_W0 (in_t1 112 rfl) rfl
theorem f_FL_24 : wFL (3, 15, 3, 4) ∈ W0 := in_W0 (in_t1 120 rfl) rfl
theorem f_FL_25 : wFL (3, 18, 3, 5) ∈ W0 := in_W0 (in_t1 124 rfl) rfl
theorem f_FL_26 : wFL (3, 23, 3, 6) ∈ W0 := in_W0 (in_t1 127 rfl) rfl
theorem f_FL_27 : wFL (3, 26, 3, 7) ∈ W0 := in_W0 (in_t1 130 rfl) rfl
theorem f_FL_28 : wFL (3, 29, 3, 8) ∈ W0 := in_W0 (in_t1 136 rfl) rfl
theorem f_FL_29 : wFL (3, 34, 3, 9) ∈ W0 := in_W0 (in_t1 140 rfl) rfl
theorem f_FL_30 : wFL (3, 41, 3, 0) ∈ W0 := in_W0 (in_t1 90 rfl) rfl
theorem f_FL_31 : wFL (3, 45, 3, 1) ∈ W0 := in_W0 (in_t1 100 rfl) rfl
theorem f_FL_32 : wFL (3, 48, 3, 2) ∈ W0 := in_W0 (in_t1 109 rfl) rfl
theorem f_FL_33 : wFL (3, 66, 7, 2) ∈ W0 := in_W0 (in_t1 68 rfl) rfl
theorem f_FL_34 : wFL (3, 70, 3, 10) ∈ W0 := in_W0 (in_t1 142 rfl) rfl
theorem f_FL_35 : wFL (4, 9, 4, 0) ∈ W0 := in_W0 (in_t1 180 rfl) rfl
theorem f_FL_36 : wFL (4, 15, 4, 1) ∈ W0 := in_W0 (in_t1 183 rfl) rfl
theorem f_FL_37 : wFL (4, 20, 4, 2) ∈ W0 := in_W0 (in_t1 186 rfl) rfl
theorem f_FL_38 : wFL (4, 23, 4, 3) ∈ W0 := in_W0 (in_t1 188 rfl) rfl
theorem f_FL_39 : wFL (4, 26, 3, 3) ∈ W0 := in_W0 (in_t1 113 rfl) rfl
theorem f_FL_40 : wFL (4, 43, 3, 0) ∈ W0 := in_W0 (in_t1 89 rfl) rfl
theorem f_FL_41 : wFL (4, 47, 4, 4) ∈ W0 := in_W0 (in_t1 191 rfl) rfl
theorem f_FL_42 : wFL (4, 50, 3, 2) ∈ W0 := in_W0 (in_t1 107 rfl) rfl
theorem f_FL_43 : wFL (4, 53, 3, 1) ∈ W0 := in_W0 (in_t1 98 rfl) rfl
theorem f_FL_44 : wFL (4, 64, 3, 7) ∈ W0 := in_W0 (in_t1 131 rfl) rfl
theorem f_FL_45 : wFL (5, 9, 5, 0) ∈ W0 := in_W0 (in_t2 31 rfl) rfl
theorem f_FL_46 : wFL (5, 15, 5, 1) ∈ W0 := in_W0 (in_t2 33 rfl) rfl
theorem f_FL_47 : wFL (5, 20, 5, 4) ∈ W0 := in_W0 (in_t2 38 rfl) rfl
theorem f_FL_48 : wFL (5, 23, 5, 5) ∈ W0 := in_W0 (in_t2 39 rfl) rfl
theorem f_FL_49 : wFL (5, 26, 5, 6) ∈ W0 := in_W0 (in_t2 40 rfl) rfl
theorem f_FL_50 : wFL (5, 29, 5, 7) ∈ W0 := in_W0 (in_t2 41 rfl) rfl
theorem f_FL_51 : wFL (5, 32, 5, 8) ∈ W0 := in_W0 (in_t2 42 rfl) rfl
theorem f_FL_52 : wFL (5, 35, 5, 9) ∈ W0 := in_W0 (in_t2 43 rfl) rfl
theorem f_FL_53 : wFL (5, 38, 5, 3) ∈ W0 := in_W0 (in_t2 37 rfl) rfl
theorem f_FL_54 : wFL (5, 42, 3, 1) ∈ W0 := in_W0 (in_t1 101 rfl) rfl
theorem f_FL_55 : wFL (5, 48, 3, 8) ∈ W0 := in_W0 (in_t1 137 rfl) rfl
theorem f_FL_56 : wFL (5, 55, 5, 2) ∈ W0 := in_W0 (in_t2 35 rfl) rfl
theorem f_FL_57 : wFL (5, 80, 3, 0) ∈ W0 := in_W0 (in_t1 91 rfl) rfl
theorem f_FL_58 : wFL (5, 83, 3, 3) ∈ W0 := in_W0 (in_t1 115 rfl) rfl
theorem f_FL_59 : wFL (6, 9, 6, 0) ∈ W0 := in_W0 (in_t1 209 rfl) rfl
theorem f_FL_60 : wFL (6, 15, 6, 1) ∈ W0 := in_W0 (in_t1 211 rfl) rfl
theorem f_FL_61 : wFL (6, 18, 6, 3) ∈ W0 := in_W0 (in_t1 215 rfl) rfl
theorem f_FL_62 : wFL (6, 26, 6, 2) ∈ W0 := in_W0 (in_t1 213 rfl) rfl
theorem f_FL_63 : wFL (6, 30, 3, 1) ∈ W0 := in_W0 (in_t1 102 rfl) rfl
theorem f_FL_64 : wFL (6, 39, 3, 0) ∈ W0 := in_W0 (in_t1 92 rfl) rfl
theorem f_FL_65 : wFL (6, 52, 4, 0) ∈ W0 := in_W0 (in_t1 181 rfl) rfl
theorem f_FL_66 : wFL (6, 59, 3, 7) ∈ W0 := in_W0 (in_t1 132 rfl) rfl
theorem f_FL_67 : wFL (7, 9, 7, 0) ∈ W0 := in_W0 (in_t1 61 rfl) rfl
theorem f_FL_68 : wFL (7, 15, 7, 1) ∈ W0 := in_W0 (in_t1 65 rfl) rfl
theorem f_FL_69 : wFL (7, 25, 7, 3) ∈ W0 := in_W0 (in_t1 70 rfl) rfl
theorem f_FL_70 : wFL (7, 29, 7, 4) ∈ W0 := in_W0 (in_t1 73 rfl) rfl
theorem f_FL_71 : wFL (7, 33, 3, 1) ∈ W0 := in_W0 (in_t1 99 rfl) rfl
theorem f_FL_72 : wFL (7, 57, 4, 1) ∈ W0 := in_W0 (in_t1 184 rfl) rfl
theorem f_FL_73 : wFL (7, 61, 4, 3) ∈ W0 := in_W0 (in_t1 189 rfl) rfl
theorem f_FL_74 : wFL (7, 67, 3, 0) ∈ W0 := in_W0 (in_t1 94 rfl) rfl
theorem f_FL_75 : wFL (7, 70, 3, 8) ∈ W0 := in_W0 (in_t1 138 rfl) rfl
theorem f_FL_76 : wFL (7, 77, 3, 2) ∈ W0 := in_W0 (in_t1 111 rfl) rfl
theorem f_FL_77 : wFL (7, 80, 3, 5) ∈ W0 := in_W0 (in_t1 125 rfl) rfl
theorem f_FL_78 : wFL (7, 83, 3, 6) ∈ W0 := in_W0 (in_t1 128 rfl) rfl
theorem f_FL_79 : wFL (7, 90, 3, 3) ∈ W0 := in_W0 (in_t1 118 rfl) rfl
theorem f_FL_80 : wFL (7, 93, 3, 7) ∈ W0 := in_W0 (in_t1 134 rfl) rfl
theorem f_FL_81 : wFL (8, 9, 8, 0) ∈ W0 := in_W0 (in_t2 124 rfl) rfl
theorem f_FL_82 : wFL (8, 13, 8, 1) ∈ W0 := in_W0 (in_t2 126 rfl) rfl
theorem f_FL_83 : wFL (8, 17, 8, 2) ∈ W0 := in_W0 (in_t2 128 rfl) rfl
theorem f_FL_84 : wFL (8, 20, 8, 3) ∈ W0 := in_W0 (in_t2 130 rfl) rfl
theorem f_FL_85 : wFL (8, 23, 8, 4) ∈ W0 := in_W0 (in_t2 132 rfl) rfl
theorem f_FL_86 : wFL (9, 11, 9, 0) ∈ W0 := in_W0 (in_t1 32 rfl) rfl
theorem f_FL_87 : wFL (9, 15, 9, 1) ∈ W0 := in_W0 (in_t1 33 rfl) rfl
theorem f_FL_88 : wFL (9, 19, 9, 2) ∈ W0 := in_W0 (in_t1 35 rfl) rfl
theorem f_FL_89 : wFL (9, 42, 3, 3) ∈ W0 := in_W0 (in_t1 117 rfl) rfl
theorem f_FL_90 : wFL (9, 45, 3, 0) ∈ W0 := in_W0 (in_t1 95 rfl) rfl
theorem f_FL_91 : wFL (9, 48, 3, 1) ∈ W0 := in_W0 (in_t1 106 rfl) rfl
theorem f_FL_92 : wFL (9, 61, 3, 7) ∈ W0 := in_W0 (in_t1 135 rfl) rfl
theorem f_FL_93 : wFL (9, 73, 3, 4) ∈ W0 := in_W0 (in_t1 123 rfl) rfl
theorem f_FL_94 : wFL (10, 9, 10, 0) ∈ W0 := in_W0 (in_t2 10 rfl) rfl
theorem f_FL_95 : wFL (10, 15, 10, 1) ∈ W0 := in_W0 (in_t2 11 rfl) rfl
theorem f_FL_96 : wFL (10, 18, 10, 2) ∈ W0 := in_W0 (in_t2 12 rfl) rfl
theorem f_FL_97 : wFL (10, 21, 10, 3) ∈ W0 := in_W0 (in_t2 13 rfl) rfl
theorem f_FL_98 : wFL (10, 25, 3, 1) ∈ W0 := in_W0 (in_t1 97 rfl) rfl
theorem f_FL_99 : wFL (10, 31, 3, 4) ∈ W0 := in_W0 (in_t1 121 rfl) rfl
theorem f_FL_100 : wFL (10, 45, 7, 0) ∈ W0 := in_W0 (in_t1 62 rfl) rfl
theorem f_FL_101 : wFL (10, 67, 3, 0) ∈ W0 := in_W0 (in_t1 96 rfl) rfl
theorem f_FL_102 : wFL (10, 70, 3, 3) ∈ W0 := in_W0 (in_t1 119 rfl) rfl
theorem f_FL_103 : wFL (11, 12, 11, 0) ∈ W0 := in_W0 (in_t2 144 rfl) rfl
theorem f_FL_104 : wFL (11, 18, 11, 1) ∈ W0 := in_W0 (in_t2 145 rfl) rfl
theorem f_FL_105 : wFL (11, 23, 11, 3) ∈ W0 := in_W0 (in_t2 147 rfl) rfl
theorem f_FL_106 : wFL (11, 27, 11, 4) ∈ W0 := in_W0 (in_t2 148 rfl) rfl
theorem f_FL_107 : wFL (11, 34, 11, 6) ∈ W0 := in_W0 (in_t2 150 rfl) rfl
theorem f_FL_108 : wFL (11, 41, 11, 8) ∈ W0 := in_W0 (in_t2 152 rfl) rfl
theorem f_FL_109 : wFL (11, 45, 11, 9) ∈ W0 := in_W0 (in_t2 153 rfl) rfl
theorem f_FL_110 : wFL (11, 48, 11, 10) ∈ W0 := in_W0 (in_t2 154 rfl) rfl
theorem f_FL_111 : wFL (11, 51, 11, 11) ∈ W0 := in_W0 (in_t2 155 rfl) rfl
theorem f_FL_112 : wFL (11, 54, 11, 12) ∈ W0 := in_W0 (in_t2 156 rfl) rfl
theorem f_FL_113 : wFL (11, 61, 11, 13) ∈ W0 := in_W0 (in_t2 157 rfl) rfl
theorem f_FL_114 : wFL (11, 68, 11, 14) ∈ W0 := in_W0 (in_t2 158 rfl) rfl
theorem f_FL_115 : wFL (11, 75, 11, 15) ∈ W0 := in_W0 (in_t2 159 rfl) rfl
theorem f_FL_116 : wFL (11, 82, 11, 16) ∈ W0 := in_W0 (in_t2 160 rfl) rfl
theorem f_FL_117 : wFL (11, 89, 11, 17) ∈ W0 := in_W0 (in_t2 161 rfl) rfl
theorem f_FL_118 : wFL (11, 95, 11, 18) ∈ W0 := in_W0 (in_t2 162 rfl) rfl
theorem f_FL_119 : wFL (11, 100, 9, 1) ∈ W0 := in_W0 (in_t1 34 rfl) rfl
theorem f_FL_120 : wFL (11, 108, 11, 2) ∈ W0 := in_W0 (in_t2 146 rfl) rfl
theorem f_FL_121 : wFL (11, 115, 9, 2) ∈ W0 := in_W0 (in_t1 36 rfl) rfl
theorem f_FL_122 : wFL (11, 127, 3, 4) ∈ W0 := in_W0 (in_t1 122 rfl) rfl
theorem f_FL_123 : wFL (11, 133, 3, 3) ∈ W0 := in_W0 (in_t1 116 rfl) rfl
theorem f_FL_124 : wFL (11, 136, 3, 1) ∈ W0 := in_W0 (in_t1 105 rfl) rfl
theorem f_FL_125 : wFL (11, 139, 3, 0) ∈ W0 := in_W0 (in_t1 93 rfl) rfl
theorem f_FL_126 : wFL (11, 142, 3, 2) ∈ W0 := in_W0 (in_t1 110 rfl) rfl
theorem f_FL_127 : wFL (11, 148, 3, 7) ∈ W0 := in_W0 (in_t1 133 rfl) rfl
theorem f_FL_128 : wFL (11, 152, 3, 5) ∈ W0 := in_W0 (in_t1 126 rfl) rfl
theorem f_FL_129 : wFL (11, 155, 3, 6) ∈ W0 := in_W0 (in_t1 129 rfl) rfl
theorem f_FL_130 : wFL (11, 181, 11, 7) ∈ W0 := in_W0 (in_t2 151 rfl) rfl
theorem f_FL_131 : wFL (11, 190, 4, 0) ∈ W0 := in_W0 (in_t1 182 rfl) rfl
theorem f_FL_132 : wFL (11, 196, 4, 1) ∈ W0 := in_W0 (in_t1 185 rfl) rfl
theorem f_FL_133 : wFL (11, 199, 4, 2) ∈ W0 := in_W0 (in_t1 187 rfl) rfl
theorem f_FL_134 : wFL (11, 202, 4, 3) ∈ W0 := in_W0 (in_t1 190 rfl) rfl
theorem f_FL_135 : wFL (11, 209, 6, 2) ∈ W0 := in_W0 (in_t1 214 rfl) rfl
theorem f_FL_136 : wFL (11, 211, 6, 0) ∈ W0 := in_W0 (in_t1 210 rfl) rfl
theorem f_FL_137 : wFL (11, 214, 6, 1) ∈ W0 := in_W0 (in_t1 212 rfl) rfl
theorem f_FL_138 : wFL (11, 217, 11, 5) ∈ W0 := in_W0 (in_t2 149 rfl) rfl
theorem f_FL_139 : wFL (11, 229, 7, 3) ∈ W0 := in_W0 (in_t1 72 rfl) rfl
theorem f_FL_140 : wFL (11, 237, 7, 0) ∈ W0 := in_W0 (in_t1 64 rfl) rfl
theorem f_FL_141 : wFL (11, 240, 7, 1) ∈ W0 := in_W0 (in_t1 67 rfl) rfl
theorem f_FL_142 : wFL (11, 248, 7, 4) ∈ W0 := in_W0 (in_t1 75 rfl) rfl
theorem f_FL_143 : wFL (11, 275, 3, 8) ∈ W0 := in_W0 (in_t1 139 rfl) rfl
theorem f_FL_144 : wFL (11, 284, 8, 1) ∈ W0 := in_W0 (in_t2 127 rfl) rfl
theorem f_FL_145 : wFL (11, 287, 8, 3) ∈ W0 := in_W0 (in_t2 131 rfl) rfl
theorem f_FL_146 : wFL (11, 294, 8, 0) ∈ W0 := in_W0 (in_t2 125 rfl) rfl
theorem f_FL_147 : wFL (11, 312, 5, 2) ∈ W0 := in_W0 (in_t2 36 rfl) rfl
theorem f_FL_148 : wFL (11, 313, 5, 0) ∈ W0 := in_W0 (in_t2 32 rfl) rfl
theorem f_FL_149 : wFL (11, 316, 5, 1) ∈ W0 := in_W0 (in_t2 34 rfl) rfl
theorem f_FL_150 : wFL (11, 319, 2, 1) ∈ W0 := in_W0 (in_t2 75 rfl) rfl
theorem f_FL_151 : wFL (11, 320, 2, 2) ∈ W0 := in_W0 (in_t2 77 rfl) rfl
theorem f_FL_152 : wFL (11, 329, 2, 0) ∈ W0 := in_W0 (in_t2 73 rfl) rfl
theorem f_FL_153 : wFL (11, 339, 2, 4) ∈ W0 := in_W0 (in_t2 81 rfl) rfl
theorem f_FL_154 : wFL (11, 341, 2, 3) ∈ W0 := in_W0 (in_t2 79 rfl) rfl
theorem f_FL_155 : wFL (11, 343, 3, 10) ∈ W0 := in_W0 (in_t1 143 rfl) rfl
theorem f_FL_156 : wFL (11, 349, 3, 11) ∈ W0 := in_W0 (in_t1 144 rfl) rfl
theorem f_FL_157 : wFL (11, 352, 3, 12) ∈ W0 := in_W0 (in_t1 145 rfl) rfl
theorem f_FL_158 : wFL (11, 375, 0, 1) ∈ W0 := in_W0 (in_t2 105 rfl) rfl
theorem f_FL_159 : wFL (11, 378, 0, 0) ∈ W0 := in_W0 (in_t2 103 rfl) rfl
theorem f_FL_160 : wFL (11, 402, 8, 2) ∈ W0 := in_W0 (in_t2 129 rfl) rfl
theorem f_FL_161 : wFL (11, 412, 3, 9) ∈ W0 := in_W0 (in_t1 141 rfl) rfl
theorem f_FL_162 : wFL (11, 416, 7, 2) ∈ W0 := in_W0 (in_t1 69 rfl) rfl
theorem f_FL_163 : wFL (12, 7, 12, 1) ∈ W0 := in_W0 (in_t5 82 rfl) rfl
theorem f_FL_164 : wFL (12, 13, 12, 2) ∈ W0 := in_W0 (in_t5 83 rfl) rfl
theorem f_FL_165 : wFL (12, 16, 12, 3) ∈ W0 := in_W0 (in_t5 84 rfl) rfl
theorem f_FL_166 : wFL (12, 19, 12, 4) ∈ W0 := in_W0 (in_t5 85 rfl) rfl
theorem f_FL_167 : wFL (12, 22, 12, 5) ∈ W0 := in_W0 (in_t5 86 rfl) rfl
theorem f_FL_168 : wFL (12, 25, 12, 6) ∈ W0 := in_W0 (in_t5 87 rfl) rfl
theorem f_FL_169 : wFL (12, 28, 12, 7) ∈ W0 := in_W0 (in_t5 88 rfl) rfl
theorem f_FL_170 : wFL (12, 31, 12, 8) ∈ W0 := in_W0 (in_t5 89 rfl) rfl
theorem f_FL_171 : wFL (12, 34, 12, 9) ∈ W0 := in_W0 (in_t5 90 rfl) rfl
theorem f_FL_172 : wFL (12, 37, 12, 11) ∈ W0 := in_W0 (in_t5 92 rfl) rfl
theorem f_FL_173 : wFL (12, 40, 12, 12) ∈ W0 := in_W0 (in_t5 93 rfl) rfl
theorem f_FL_174 : wFL (12, 43, 12, 14) ∈ W0 := in_W0 (in_t5 95 rfl) rfl
theorem f_FL_175 : wFL (12, 47, 12, 15) ∈ W0 := in_W0 (in_t5 96 rfl) rfl
theorem f_FL_176 : wFL (12, 50, 12, 16) ∈ W0 := in_W0 (in_t5 97 rfl) rfl
theorem f_FL_177 : wFL (12, 53, 12, 17) ∈ W0 := in_W0 (in_t5 98 rfl) rfl
theorem f_FL_178 : wFL (12, 56, 12, 18) ∈ W0 := in_W0 (in_t5 99 rfl) rfl
theorem f_FL_179 : wFL (12, 59, 12, 19) ∈ W0 := in_W0 (in_t5 100 rfl) rfl
theorem f_FL_180 : wFL (12, 62, 12, 22) ∈ W0 := in_W0 (in_t5 103 rfl) rfl
theorem f_FL_181 : wFL (12, 67, 12, 23) ∈ W0 := in_W0 (in_t5 104 rfl) rfl
theorem f_FL_182 : wFL (12, 71, 12, 24) ∈ W0 := in_W0 (in_t5 105 rfl) rfl
theorem f_FL_183 : wFL (12, 74, 12, 25) ∈ W0 := in_W0 (in_t5 106 rfl) rfl
theorem f_FL_184 : wFL (12, 77, 12, 27) ∈ W0 := in_W0 (in_t5 108 rfl) rfl
theorem f_FL_185 : wFL (12, 80, 12, 28) ∈ W0 := in_W0 (in_t5 109 rfl) rfl
theorem f_FL_186 : wFL (12, 83, 12, 29) ∈ W0 := in_W0 (in_t5 110 rfl) rfl
theorem f_FL_187 : wFL (12, 86, 12, 30) ∈ W0 := in_W0 (in_t5 111 rfl) rfl
theorem f_FL_188 : wFL (12, 90, 12, 32) ∈ W0 := in_W0 (in_t5 113 rfl) rfl
theorem f_FL_189 : wFL (12, 93, 12, 33) ∈ W0 := in_W0 (in_t5 114 rfl) rfl
theorem f_FL_190 : wFL (12, 96, 12, 34) ∈ W0 := in_W0 (in_t5 115 rfl) rfl
theorem f_FL_191 : wFL (12, 99, 12, 35) ∈ W0 := in_W0 (in_t5 116 rfl) rfl
theorem f_FL_192 : wFL (12, 102, 12, 36) ∈ W0 := in_W0 (in_t5 117 rfl) rfl
theorem f_FL_193 : wFL (12, 105, 12, 37) ∈ W0 := in_W0 (in_t5 118 rfl) rfl
theorem f_FL_194 : wFL (12, 108, 12, 38) ∈ W0 := in_W0 (in_t5 119 rfl) rfl
theorem f_FL_195 : wFL (12, 111, 12, 39) ∈ W0 := in_W0 (in_t5 120 rfl) rfl
theorem f_FL_196 : wFL (12, 114, 12, 41) ∈ W0 := in_W0 (in_t5 122 rfl) rfl
theorem f_FL_197 : wFL (12, 117, 12, 42) ∈ W0 := in_W0 (in_t5 123 rfl) rfl
theorem f_FL_198 : wFL (12, 120, 12, 45) ∈ W0 := in_W0 (in_t5 126 rfl) rfl
theorem f_FL_199 : wFL (12, 123, 12, 46) ∈ W0 := in_W0 (in_t5 127 rfl) rfl
theorem f_FL_200 : wFL (12, 126, 12, 47) ∈ W0 := in_W0 (in_t5 128 rfl) rfl
theorem f_FL_201 : wFL (12, 129, 12, 50) ∈ W0 := in_W0 (in_t5 131 rfl) rfl
theorem f_FL_202 : wFL (12, 132, 12, 51) ∈ W0 := in_W0 (in_t5 132 rfl) rfl
theorem f_FL_203 : wFL (12, 135, 12, 52) ∈ W0 := in_W0 (in_t5 133 rfl) rfl
theorem f_FL_204 : wFL (12, 138, 12, 53) ∈ W0 := in_W0 (in_t5 134 rfl) rfl
theorem f_FL_205 : wFL (12, 141, 12, 54) ∈ W0 := in_W0 (in_t5 135 rfl) rfl
theorem f_FL_206 : wFL (12, 145, 12, 55) ∈ W0 := in_W0 (in_t5 136 rfl) rfl
theorem f_FL_207 : wFL (12, 148, 12, 56) ∈ W0 := in_W0 (in_t5 137 rfl) rfl
theorem f_FL_208 : wFL (12, 151, 12, 57) ∈ W0 := in_W0 (in_t5 138 rfl) rfl
theorem f_FL_209 : wFL (12, 154, 12, 58) ∈ W0 := in_W0 (in_t5 139 rfl) rfl
theorem f_FL_210 : wFL (12, 157, 12, 59) ∈ W0 := in_W0 (in_t5 140 rfl) rfl
theorem f_FL_211 : wFL (12, 160, 12, 60) ∈ W0 := in_W0 (in_t5 141 rfl) rfl
theorem f_FL_212 : wFL (12, 163, 12, 61) ∈ W0 := in_W0 (in_t5 142 rfl) rfl
theorem f_FL_213 : wFL (12, 166, 12, 62) ∈ W0 := in_W0 (in_t5 143 rfl) rfl
theorem f_FL_214 : wFL (12, 169, 12, 63) ∈ W0 := in_W0 (in_t5 144 rfl) rfl
theorem f_FL_215 : wFL (12, 172, 12, 64) ∈ W0 := in_W0 (in_t5 145 rfl) rfl
theorem f_FL_216 : wFL (12, 175, 12, 0) ∈ W0 := in_W0 (in_t5 81 rfl) rfl
theorem f_FL_217 : wFL (12, 186, 12, 13) ∈ W0 := in_W0 (in_t5 94 rfl) rfl
theorem f_FL_218 : wFL (12, 189, 12, 31) ∈ W0 := in_W0 (in_t5 112 rfl) rfl
theorem f_FL_219 : wFL (12, 225, 12, 10) ∈ W0 := in_W0 (in_t5 91 rfl) rfl
theorem f_FL_220 : wFL (12, 254, 12, 40) ∈ W0 := in_W0 (in_t5 121 rfl) rfl
theorem f_FL_221 : wFL (12, 260, 12, 43) ∈ W0 := in_W0 (in_t5 124 rfl) rfl
theorem f_FL_222 : wFL (12, 279, 12, 48) ∈ W0 := in_W0 (in_t5 129 rfl) rfl
theorem f_FL_223 : wFL (12, 282, 12, 49) ∈ W0 := in_W0 (in_t5 130 rfl) rfl
theorem f_FL_224 : wFL (12, 292, 12, 44) ∈ W0 := in_W0 (in_t5 125 rfl) rfl
theorem f_FL_225 : wFL (12, 377, 12, 20) ∈ W0 := in_W0 (in_t5 101 rfl) rfl
theorem f_FL_226 : wFL (12, 380, 12, 21) ∈ W0 := in_W0 (in_t5 102 rfl) rfl
theorem f_FL_227 : wFL (12, 390, 12, 26) ∈ W0 := in_W0 (in_t5 107 rfl) rfl
theorem FL_ok_nil : ∀ q ∈ ([] : List (Nat × Nat × Nat × Nat)), wFL q ∈ W0 := fun _ h => absurd h List.not_mem_nil
set_option maxRecDepth 100000 in
theorem FL_ok : ∀ q ∈ LFL, wFL q ∈ W0 := List.forall_mem_cons.mpr ⟨f_FL_0, List.forall_mem_cons.mpr ⟨f_FL_1, List.forall_mem_cons.mpr ⟨f_FL_2, List.forall_mem_cons.mpr ⟨f_FL_3, List.forall_mem_cons.mpr ⟨f_FL_4, List.forall_mem_cons.mpr ⟨f_FL_5, List.forall_mem_cons.mpr ⟨f_FL_6, List.forall_mem_cons.mpr ⟨f_FL_7, List.forall_mem_cons.mpr ⟨f_FL_8, List.forall_mem_cons.mpr ⟨f_FL_9, List.forall_mem_cons.mpr ⟨f_FL_10, List.forall_mem_cons.mpr ⟨f_FL_11, List.forall_mem_cons.mpr ⟨f_FL_12, List.forall_mem_cons.mpr ⟨f_FL_13, List.forall_mem_cons.mpr ⟨f_FL_14, List.forall_mem_cons.mpr ⟨f_FL_15, List.forall_mem_cons.mpr ⟨f_FL_16, List.forall_mem_cons.mpr ⟨f_FL_17, List.forall_mem_cons.mpr ⟨f_FL_18, List.forall_mem_cons.mpr ⟨f_FL_19, List.forall_mem_cons.mpr ⟨f_FL_20, List.forall_mem_cons.mpr ⟨f_FL_21, List.forall_mem_cons.mpr ⟨f_FL_22, List.forall_mem_cons.mpr ⟨f_FL_23, List.forall_mem_cons.mpr ⟨f_FL_24, List.forall_mem_cons.mpr ⟨f_FL_25, List.forall_mem_cons.mpr ⟨f_FL_26, List.forall_mem_cons.mpr ⟨f_FL_27, List.forall_mem_cons.mpr ⟨f_FL_28, List.forall_mem_cons.mpr ⟨f_FL_29, List.forall_mem_cons.mpr ⟨f_FL_30, List.forall_mem_cons.mpr ⟨f_FL_31, List.forall_mem_cons.mpr ⟨f_FL_32, List.forall_mem_cons.mpr ⟨f_FL_33, List.forall_mem_cons.mpr ⟨f_FL_34, List.forall_mem_cons.mpr ⟨f_FL_35, List.forall_mem_cons.mpr ⟨f_FL_36, List.forall_mem_cons.mpr ⟨f_FL_37, List.forall_mem_cons.mpr ⟨f_FL_38, List.forall_mem_cons.mpr ⟨f_FL_39, List.forall_mem_cons.mpr ⟨f_FL_40, List.forall_mem_cons.mpr ⟨f_FL_41, List.forall_mem_cons.mpr ⟨f_FL_42, List.forall_mem_cons.mpr ⟨f_FL_43, List.forall_mem_cons.mpr ⟨f_FL_44, List.forall_mem_cons.mpr ⟨f_FL_45, List.forall_mem_cons.mpr ⟨f_FL_46, List.forall_mem_cons.mpr ⟨f_FL_47, List.forall_mem_cons.mpr ⟨f_FL_48, List.forall_mem_cons.mpr ⟨f_FL_49, List.forall_mem_cons.mpr ⟨f_FL_50, List.forall_mem_cons.mpr ⟨f_FL_51, List.forall_mem_cons.mpr ⟨f_FL_52, List.forall_mem_cons.mpr ⟨f_FL_53, List.forall_mem_cons.mpr ⟨f_FL_54, List.forall_mem_cons.mpr ⟨f_FL_55, List.forall_mem_cons.mpr ⟨f_FL_56, List.forall_mem_cons.mpr ⟨f_FL_57, List.forall_mem_cons.mpr ⟨f_FL_58, List.forall_mem_cons.mpr ⟨f_FL_59, List.forall_mem_cons.mpr ⟨f_FL_60, List.forall_mem_cons.mpr ⟨f_FL_61, List.forall_mem_cons.mpr ⟨f_FL_62, List.forall_mem_cons.mpr ⟨f_FL_63, List.forall_mem_cons.mpr ⟨f_FL_64, List.forall_mem_cons.mpr ⟨f_FL_65, List.forall_mem_cons.mpr ⟨f_FL_66, List.forall_mem_cons.mpr ⟨f_FL_67, List.forall_mem_cons.mpr ⟨f_FL_68, List.forall_mem_cons.mpr ⟨f_FL_69, List.forall_mem_cons.mpr ⟨f_FL_70, List.forall_mem_cons.mpr ⟨f_FL_71, List.forall_mem_cons.mpr ⟨f_FL_72, List.forall_mem_cons.mpr ⟨f_FL_73, List.forall_mem_cons.mpr ⟨f_FL_74, List.forall_mem_cons.mpr ⟨f_FL_75, List.forall_mem_cons.mpr ⟨f_FL_76, List.forall_mem_cons.mpr ⟨f_FL_77, List.forall_mem_cons.mpr ⟨f_FL_78, List.forall_mem_cons.mpr ⟨f_FL_79, List.forall_mem_cons.mpr ⟨f_FL_80, List.forall_mem_cons.mpr ⟨f_FL_81, List.forall_mem_cons.mpr ⟨f_FL_82, List.forall_mem_cons.mpr ⟨f_FL_83, List.forall_mem_cons.mpr ⟨f_FL_84, List.forall_mem_cons.mpr ⟨f_FL_85, List.forall_mem_cons.mpr ⟨f_FL_86, List.forall_mem_cons.mpr ⟨f_FL_87, List.forall_mem_cons.mpr ⟨f_FL_88, List.forall_mem_cons.mpr ⟨f_FL_89, List.forall_mem_cons.mpr ⟨f_FL_90, List.forall_mem_cons.mpr ⟨f_FL_91, List.forall_mem_cons.mpr ⟨f_FL_92, List.forall_mem_cons.mpr ⟨f_FL_93, List.forall_mem_cons.mpr ⟨f_FL_94, List.forall_mem_cons.mpr ⟨f_FL_95, List.forall_mem_cons.mpr ⟨f_FL_96, List.forall_mem_cons.mpr ⟨f_FL_97, List.forall_mem_cons.mpr ⟨f_FL_98, List.forall_mem_cons.mpr ⟨f_FL_99, List.forall_mem_cons.mpr ⟨f_FL_100, List.forall_mem_cons.mpr ⟨f_FL_101, List.forall_mem_cons.mpr ⟨f_FL_102, List.forall_mem_cons.mpr ⟨f_FL_103, List.forall_mem_cons.mpr ⟨f_FL_104, List.forall_mem_cons.mpr ⟨f_FL_105, List.forall_mem_cons.mpr ⟨f_FL_106, List.forall_mem_cons.mpr ⟨f_FL_107, List.forall_mem_cons.mpr ⟨f_FL_108, List.forall_mem_cons.mpr ⟨f_FL_109, List.forall_mem_cons.mpr ⟨f_FL_110, List.forall_mem_cons.mpr ⟨f_FL_111, List.forall_mem_cons.mpr ⟨f_FL_112, List.forall_mem_cons.mpr ⟨f_FL_113, List.forall_mem_cons.mpr ⟨f_FL_114, List.forall_mem_cons.mpr ⟨f_FL_115, List.forall_mem_cons.mpr ⟨f_FL_116, List.forall_mem_cons.mpr ⟨f_FL_117, List.forall_mem_cons.mpr ⟨f_FL_118, List.forall_mem_cons.mpr ⟨f_FL_119, List.forall_mem_cons.mpr ⟨f_FL_120, List.forall_mem_cons.mpr ⟨f_FL_121, List.forall_mem_cons.mpr ⟨f_FL_122, List.forall_mem_cons.mpr ⟨f_FL_123, List.forall_mem_cons.mpr ⟨f_FL_124, List.forall_mem_cons.mpr ⟨f_FL_125, List.forall_mem_cons.mpr ⟨f_FL_126, List.forall_mem_cons.mpr ⟨f_FL_127, List.forall_mem_cons.mpr ⟨f_FL_128, List.forall_mem_cons.mpr ⟨f_FL_129, List.forall_mem_cons.mpr ⟨f_FL_130, List.forall_mem_cons.mpr ⟨f_FL_131, List.forall_mem_cons.mpr ⟨f_FL_132, List.forall_mem_cons.mpr ⟨f_FL_133, List.forall_mem_cons.mpr ⟨f_FL_134, List.forall_mem_cons.mpr ⟨f_FL_135, List.forall_mem_cons.mpr ⟨f_FL_136, List.forall_mem_cons.mpr ⟨f_FL_137, List.forall_mem_cons.mpr ⟨f_FL_138, List.forall_mem_cons.mpr ⟨f_FL_139, List.forall_mem_cons.mpr ⟨f_FL_140, List.forall_mem_cons.mpr ⟨f_FL_141, List.forall_mem_cons.mpr ⟨f_FL_142, List.forall_mem_cons.mpr ⟨f_FL_143, List.forall_mem_cons.mpr ⟨f_FL_144, List.forall_mem_cons.mpr ⟨f_FL_145, List.forall_mem_cons.mpr ⟨f_FL_146, List.forall_mem_cons.mpr ⟨f_FL_147, List.forall_mem_cons.mpr ⟨f_FL_148, List.forall_mem_cons.mpr ⟨f_FL_149, List.forall_mem_cons.mpr ⟨f_FL_150, List.forall_mem_cons.mpr ⟨f_FL_151, List.forall_mem_cons.mpr ⟨f_FL_152, List.forall_mem_cons.mpr ⟨f_FL_153, List.forall_mem_cons.mpr ⟨f_FL_154, List.forall_mem_cons.mpr ⟨f_FL_155, List.forall_mem_cons.mpr ⟨f_FL_156, List.forall_mem_cons.mpr ⟨f_FL_157, List.forall_mem_cons.mpr ⟨f_FL_158, List.forall_mem_cons.mpr ⟨f_FL_159, List.forall_mem_cons.mpr ⟨f_FL_160, List.forall_mem_cons.mpr ⟨f_FL_161, List.forall_mem_cons.mpr ⟨f_FL_162, List.forall_mem_cons.mpr ⟨f_FL_163, List.forall_mem_cons.mpr ⟨f_FL_164, List.forall_mem_cons.mpr ⟨f_FL_165, List.forall_mem_cons.mpr ⟨f_FL_166, List.forall_mem_cons.mpr ⟨f_FL_167, List.forall_mem_cons.mpr ⟨f_FL_168, List.forall_mem_cons.mpr ⟨f_FL_169, List.forall_mem_cons.mpr ⟨f_FL_170, List.forall_mem_cons.mpr ⟨f_FL_171, List.forall_mem_cons.mpr ⟨f_FL_172, List.forall_mem_cons.mpr ⟨f_FL_173, List.forall_mem_cons.mpr ⟨f_FL_174, List.forall_mem_cons.mpr ⟨f_FL_175, List.forall_mem_cons.mpr ⟨f_FL_176, List.forall_mem_cons.mpr ⟨f_FL_177, List.forall_mem_cons.mpr ⟨f_FL_178, List.forall_mem_cons.mpr ⟨f_FL_179, List.forall_mem_cons.mpr ⟨f_FL_180, List.forall_mem_cons.mpr ⟨f_FL_181, List.forall_mem_cons.mpr ⟨f_FL_182, List.forall_mem_cons.mpr ⟨f_FL_183, List.forall_mem_cons.mpr ⟨f_FL_184, List.forall_mem_cons.mpr ⟨f_FL_185, List.forall_mem_cons.mpr ⟨f_FL_186, List.forall_mem_cons.mpr ⟨f_FL_187, List.forall_mem_cons.mpr ⟨f_FL_188, List.forall_mem_cons.mpr ⟨f_FL_189, List.forall_mem_cons.mpr ⟨f_FL_190, List.forall_mem_cons.mpr ⟨f_FL_191, List.forall_mem_cons.mpr ⟨f_FL_192, List.forall_mem_cons.mpr ⟨f_FL_193, List.forall_mem_cons.mpr ⟨f_FL_194, List.forall_mem_cons.mpr ⟨f_FL_195, List.forall_mem_cons.mpr ⟨f_FL_196, List.forall_mem_cons.mpr ⟨f_FL_197, List.forall_mem_cons.mpr ⟨f_FL_198, List.forall_mem_cons.mpr ⟨f_FL_199, List.forall_mem_cons.mpr ⟨f_FL_200, List.forall_mem_cons.mpr ⟨f_FL_201, List.forall_mem_cons.mpr ⟨f_FL_202, List.forall_mem_cons.mpr ⟨f_FL_203, List.forall_mem_cons.mpr ⟨f_FL_204, List.forall_mem_cons.mpr ⟨f_FL_205, List.forall_mem_cons.mpr ⟨f_FL_206, List.forall_mem_cons.mpr ⟨f_FL_207, List.forall_mem_cons.mpr ⟨f_FL_208, List.forall_mem_cons.mpr ⟨f_FL_209, List.forall_mem_cons.mpr ⟨f_FL_210, List.forall_mem_cons.mpr ⟨f_FL_211, List.forall_mem_cons.mpr ⟨f_FL_212, List.forall_mem_cons.mpr ⟨f_FL_213, List.forall_mem_cons.mpr ⟨f_FL_214, List.forall_mem_cons.mpr ⟨f_FL_215, List.forall_mem_cons.mpr ⟨f_FL_216, List.forall_mem_cons.mpr ⟨f_FL_217, List.forall_mem_cons.mpr ⟨f_FL_218, List.forall_mem_cons.mpr ⟨f_FL_219, List.forall_mem_cons.mpr ⟨f_FL_220, List.forall_mem_cons.mpr ⟨f_FL_221, List.forall_mem_cons.mpr ⟨f_FL_222, List.forall_mem_cons.mpr ⟨f_FL_223, List.forall_mem_cons.mpr ⟨f_FL_224, List.forall_mem_cons.mpr ⟨f_FL_225, List.forall_mem_cons.mpr ⟨f_FL_226, List.forall_mem_cons.mpr ⟨f_FL_227, FL_ok_nil⟩⟩⟩⟩⟩⟩⟩⟩⟩⟩⟩⟩⟩⟩⟩⟩⟩⟩⟩⟩⟩⟩⟩⟩⟩⟩⟩⟩⟩⟩⟩⟩⟩⟩⟩⟩⟩⟩⟩⟩⟩⟩⟩⟩⟩⟩⟩⟩⟩⟩⟩⟩⟩⟩⟩⟩⟩⟩⟩⟩⟩⟩⟩⟩⟩⟩⟩⟩⟩⟩⟩⟩⟩⟩⟩⟩⟩⟩⟩⟩⟩⟩⟩⟩⟩⟩⟩⟩⟩⟩⟩⟩⟩⟩⟩⟩⟩⟩⟩⟩⟩⟩⟩⟩⟩⟩⟩⟩⟩⟩⟩⟩⟩⟩⟩⟩⟩⟩⟩⟩⟩⟩⟩⟩⟩⟩⟩⟩⟩⟩⟩⟩⟩⟩⟩⟩⟩⟩⟩⟩⟩⟩⟩⟩⟩⟩⟩⟩⟩⟩⟩⟩⟩⟩⟩⟩⟩⟩⟩⟩⟩⟩⟩⟩⟩⟩⟩⟩⟩⟩⟩⟩⟩⟩⟩⟩⟩⟩⟩⟩⟩⟩⟩⟩⟩⟩⟩⟩⟩⟩⟩⟩⟩⟩⟩⟩⟩⟩⟩⟩⟩⟩⟩⟩⟩⟩⟩⟩⟩⟩⟩⟩⟩⟩⟩⟩⟩⟩⟩⟩⟩⟩⟩⟩⟩⟩⟩⟩
theorem f_GS_0 : wGS (0, 29, 2, 0) ∈ W0 := in_W0 (in_t5 11 rfl) rfl
theorem f_GS_1 : wGS (11, 409, 1, 0) ∈ W0 := in_W0 (in_t5 69 rfl) rfl
theorem GS_ok_nil : ∀ q ∈ ([] : List (Nat × Nat × Nat × Nat)), wGS q ∈ W0 := fun _ h => absurd h List.not_mem_nil
set_option maxRecDepth 100000 in
theorem GS_ok : ∀ q ∈ LGS, wGS q ∈ W0 := List.forall_mem_cons.mpr ⟨f_GS_0, List.forall_mem_cons.mpr ⟨f_GS_1, GS_ok_nil⟩⟩
theorem f_ML_0 : wML (0, 25, 4) ∈ W0 := in_W0 (in_t5 8 rfl) rfl
theorem f_ML_1 : wML (0, 35, 3) ∈ W0 := in_W0 (in_t5 15 rfl) rfl
theorem f_ML_2 : wML (1, 43, 7) ∈ W0 := in_W0 (in_t3 196 rfl) rfl
theorem f_ML_3 : wML (1, 47, 8) ∈ W0 := in_W0 (in_t3 201 rfl) rfl
theorem f_ML_4 : wML (1, 53, 252) ∈ W0 := in_W0 (in_t3 206 rfl) rfl
theorem f_ML_5 : wML (1, 63, 9) ∈ W0 := in_W0 (in_t3 209 rfl) rfl
theorem f_ML_6 : wML (1, 67, 10) ∈ W0 := in_W0 (in_t3 213 rfl) rfl
theorem f_ML_7 : wML (1, 77, 26) ∈ W0 := in_W0 (in_t3 200 rfl) rfl
theorem f_ML_8 : wML (2, 32, 36) ∈ W0 := in_W0 (in_t4 184 rfl) rfl
theorem f_ML_9 : wML (2, 38, 16) ∈ W0 := in_W0 (in_t4 192 rfl) rfl
theorem f_ML_10 : wML (2, 42, 247) ∈ W0 := in_W0 (in_t4 198 rfl) rfl
theorem f_ML_11 : wML (2, 59, 253) ∈ W0 := in_W0 (in_t4 197 rfl) rfl
theorem f_ML_12 : wML (3, 51, 249) ∈ W0 := in_W0 (in_t2 222 rfl) rfl
theorem f_ML_13 : wML (3, 57, 21) ∈ W0 := in_W0 (in_t2 225 rfl) rfl
theorem f_ML_14 : wML (3, 73, 22) ∈ W0 := in_W0 (in_t4 64 rfl) rfl
theorem f_ML_15 : wML (3, 77, 23) ∈ W0 := in_W0 (in_t4 65 rfl) rfl
theorem f_ML_16 : wML (3, 81, 27) ∈ W0 := in_W0 (in_t4 111 rfl) rfl
theorem f_ML_17 : wML (3, 85, 30) ∈ W0 := in_W0 (in_t4 115 rfl) rfl
theorem f_ML_18 : wML (3, 89, 28) ∈ W0 := in_W0 (in_t4 119 rfl) rfl
theorem f_ML_19 : wML (3, 92, 29) ∈ W0 := in_W0 (in_t4 131 rfl) rfl
theorem f_ML_20 : wML (4, 37, 249) ∈ W0 := in_W0 (in_t3 89 rfl) rfl
theorem f_ML_21 : wML (4, 56, 34) ∈ W0 := in_W0 (in_t3 90 rfl) rfl
theorem f_ML_22 : wML (4, 60, 26) ∈ W0 := in_W0 (in_t3 94 rfl) rfl
theorem f_ML_23 : wML (4, 68, 36) ∈ W0 := in_W0 (in_t4 223 rfl) rfl
theorem f_ML_24 : wML (4, 72, 251) ∈ W0 := in_W0 (in_t4 224 rfl) rfl
theorem f_ML_25 : wML (4, 77, 253) ∈ W0 := in_W0 (in_t4 225 rfl) rfl
theorem f_ML_26 : wML (5, 58, 41) ∈ W0 := in_W0 (in_t4 137 rfl) rfl
theorem f_ML_27 : wML (5, 62, 42) ∈ W0 := in_W0 (in_t4 144 rfl) rfl
theorem f_ML_28 : wML (5, 66, 45) ∈ W0 := in_W0 (in_t4 156 rfl) rfl
theorem f_ML_29 : wML (5, 70, 253) ∈ W0 := in_W0 (in_t4 160 rfl) rfl
theorem f_ML_30 : wML (5, 86, 251) ∈ W0 := in_W0 (in_t4 141 rfl) rfl
theorem f_ML_31 : wML (5, 89, 43) ∈ W0 := in_W0 (in_t4 148 rfl) rfl
theorem f_ML_32 : wML (5, 93, 44) ∈ W0 := in_W0 (in_t4 152 rfl) rfl
theorem f_ML_33 : wML (6, 22, 49) ∈ W0 := in_W0 (in_t3 126 rfl) rfl
theorem f_ML_34 : wML (6, 35, 52) ∈ W0 := in_W0 (in_t3 137 rfl) rfl
theorem f_ML_35 : wML (6, 42, 35) ∈ W0 := in_W0 (in_t3 130 rfl) rfl
theorem f_ML_36 : wML (6, 48, 50) ∈ W0 := in_W0 (in_t3 131 rfl) rfl
theorem f_ML_37 : wML (6, 55, 51) ∈ W0 := in_W0 (in_t3 134 rfl) rfl
theorem f_ML_38 : wML (6, 63, 54) ∈ W0 := in_W0 (in_t3 140 rfl) rfl
theorem f_ML_39 : wML (6, 66, 53) ∈ W0 := in_W0 (in_t3 143 rfl) rfl
theorem f_ML_40 : wML (7, 19, 248) ∈ W0 := in_W0 (in_t3 170 rfl) rfl
theorem f_ML_41 : wML (7, 43, 33) ∈ W0 := in_W0 (in_t3 181 rfl) rfl
theorem f_ML_42 : wML (7, 49, 58) ∈ W0 := in_W0 (in_t3 182 rfl) rfl
theorem f_ML_43 : wML (7, 73, 61) ∈ W0 := in_W0 (in_t4 15 rfl) rfl
theorem f_ML_44 : wML (7, 86, 62) ∈ W0 := in_W0 (in_t4 19 rfl) rfl
theorem f_ML_45 : wML (7, 96, 254) ∈ W0 := in_W0 (in_t4 23 rfl) rfl
theorem f_ML_46 : wML (8, 26, 248) ∈ W0 := in_W0 (in_t5 39 rfl) rfl
theorem f_ML_47 : wML (9, 22, 19) ∈ W0 := in_W0 (in_t2 218 rfl) rfl
theorem f_ML_48 : wML (9, 27, 73) ∈ W0 := in_W0 (in_t2 229 rfl) rfl
theorem f_ML_49 : wML (9, 31, 74) ∈ W0 := in_W0 (in_t2 237 rfl) rfl
theorem f_ML_50 : wML (9, 34, 75) ∈ W0 := in_W0 (in_t3 1 rfl) rfl
theorem f_ML_51 : wML (9, 38, 72) ∈ W0 := in_W0 (in_t2 233 rfl) rfl
theorem f_ML_52 : wML (9, 51, 22) ∈ W0 := in_W0 (in_t3 5 rfl) rfl
theorem f_ML_53 : wML (9, 55, 76) ∈ W0 := in_W0 (in_t3 9 rfl) rfl
theorem f_ML_54 : wML (9, 65, 23) ∈ W0 := in_W0 (in_t3 20 rfl) rfl
theorem f_ML_55 : wML (9, 69, 25) ∈ W0 := in_W0 (in_t3 16 rfl) rfl
theorem f_ML_56 : wML (10, 34, 79) ∈ W0 := in_W0 (in_t3 221 rfl) rfl
theorem f_ML_57 : wML (10, 38, 81) ∈ W0 := in_W0 (in_t3 230 rfl) rfl
theorem f_ML_58 : wML (10, 42, 83) ∈ W0 := in_W0 (in_t3 238 rfl) rfl
theorem f_ML_59 : wML (10, 51, 26) ∈ W0 := in_W0 (in_t3 225 rfl) rfl
theorem f_ML_60 : wML (10, 55, 80) ∈ W0 := in_W0 (in_t3 226 rfl) rfl
theorem f_ML_61 : wML (10, 59, 82) ∈ W0 := in_W0 (in_t3 234 rfl) rfl
theorem f_ML_62 : wML (10, 63, 84) ∈ W0 := in_W0 (in_t4 2 rfl) rfl
theorem f_ML_63 : wML (11, 22, 17) ∈ W0 := in_W0 (in_t1 48 rfl) rfl
theorem f_ML_64 : wML (11, 104, 69) ∈ W0 := in_W0 (in_t2 206 rfl) rfl
theorem f_ML_65 : wML (11, 111, 70) ∈ W0 := in_W0 (in_t2 214 rfl) rfl
theorem f_ML_66 : wML (11, 118, 125) ∈ W0 := in_W0 (in_t3 28 rfl) rfl
theorem f_ML_67 : wML (11, 123, 126) ∈ W0 := in_W0 (in_t3 33 rfl) rfl
theorem f_ML_68 : wML (11, 130, 127) ∈ W0 := in_W0 (in_t3 36 rfl) rfl
theorem f_ML_69 : wML (11, 145, 21) ∈ W0 := in_W0 (in_t3 41 rfl) rfl
theorem f_ML_70 : wML (11, 158, 26) ∈ W0 := in_W0 (in_t3 54 rfl) rfl
theorem f_ML_71 : wML (11, 162, 20) ∈ W0 := in_W0 (in_t3 62 rfl) rfl
theorem f_ML_72 : wML (11, 166, 71) ∈ W0 := in_W0 (in_t3 69 rfl) rfl
theorem f_ML_73 : wML (11, 169, 131) ∈ W0 := in_W0 (in_t3 77 rfl) rfl
theorem f_ML_74 : wML (11, 173, 141) ∈ W0 := in_W0 (in_t3 81 rfl) rfl
theorem f_ML_75 : wML (11, 177, 33) ∈ W0 := in_W0 (in_t3 84 rfl) rfl
theorem f_ML_76 : wML (11, 184, 47) ∈ W0 := in_W0 (in_t3 95 rfl) rfl
theorem f_ML_77 : wML (11, 187, 35) ∈ W0 := in_W0 (in_t3 103 rfl) rfl
theorem f_ML_78 : wML (11, 193, 130) ∈ W0 := in_W0 (in_t3 115 rfl) rfl
theorem f_ML_79 : wML (11, 205, 48) ∈ W0 := in_W0 (in_t3 122 rfl) rfl
theorem f_ML_80 : wML (11, 220, 128) ∈ W0 := in_W0 (in_t3 158 rfl) rfl
theorem f_ML_81 : wML (11, 225, 136) ∈ W0 := in_W0 (in_t3 162 rfl) rfl
theorem f_ML_82 : wML (11, 244, 146) ∈ W0 := in_W0 (in_t4 27 rfl) rfl
theorem f_ML_83 : wML (11, 251, 138) ∈ W0 := in_W0 (in_t4 41 rfl) rfl
theorem f_ML_84 : wML (11, 255, 132) ∈ W0 := in_W0 (in_t4 52 rfl) rfl
theorem f_ML_85 : wML (11, 258, 137) ∈ W0 := in_W0 (in_t4 56 rfl) rfl
theorem f_ML_86 : wML (11, 262, 143) ∈ W0 := in_W0 (in_t4 70 rfl) rfl
theorem f_ML_87 : wML (11, 267, 142) ∈ W0 := in_W0 (in_t4 72 rfl) rfl
theorem f_ML_88 : wML (11, 271, 144) ∈ W0 := in_W0 (in_t4 75 rfl) rfl
theorem f_ML_89 : wML (11, 278, 135) ∈ W0 := in_W0 (in_t4 80 rfl) rfl
theorem f_ML_90 : wML (11, 281, 129) ∈ W0 := in_W0 (in_t4 92 rfl) rfl
theorem f_ML_91 : wML (11, 290, 66) ∈ W0 := in_W0 (in_t4 95 rfl) rfl
theorem f_ML_92 : wML (11, 297, 18) ∈ W0 := in_W0 (in_t4 99 rfl) rfl
theorem f_ML_93 : wML (11, 301, 29) ∈ W0 := in_W0 (in_t4 107 rfl) rfl
theorem f_ML_94 : wML (11, 305, 31) ∈ W0 := in_W0 (in_t4 127 rfl) rfl
theorem f_ML_95 : wML (11, 309, 40) ∈ W0 := in_W0 (in_t4 132 rfl) rfl
theorem f_ML_96 : wML (11, 323, 12) ∈ W0 := in_W0 (in_t4 168 rfl) rfl
theorem f_ML_97 : wML (11, 326, 13) ∈ W0 := in_W0 (in_t4 172 rfl) rfl
theorem f_ML_98 : wML (11, 332, 14) ∈ W0 := in_W0 (in_t4 180 rfl) rfl
theorem f_ML_99 : wML (11, 336, 15) ∈ W0 := in_W0 (in_t4 188 rfl) rfl
theorem f_ML_100 : wML (11, 346, 139) ∈ W0 := in_W0 (in_t4 213 rfl) rfl
theorem f_ML_101 : wML (11, 355, 248) ∈ W0 := in_W0 (in_t4 230 rfl) rfl
theorem f_ML_102 : wML (11, 361, 36) ∈ W0 := in_W0 (in_t4 231 rfl) rfl
theorem f_ML_103 : wML (11, 365, 140) ∈ W0 := in_W0 (in_t4 232 rfl) rfl
theorem f_ML_104 : wML (11, 368, 1) ∈ W0 := in_W0 (in_t5 0 rfl) rfl
theorem f_ML_105 : wML (11, 371, 2) ∈ W0 := in_W0 (in_t5 4 rfl) rfl
theorem f_ML_106 : wML (11, 381, 64) ∈ W0 := in_W0 (in_t5 27 rfl) rfl
theorem f_ML_107 : wML (11, 384, 65) ∈ W0 := in_W0 (in_t5 35 rfl) rfl
theorem f_ML_108 : wML (11, 387, 134) ∈ W0 := in_W0 (in_t5 44 rfl) rfl
theorem f_ML_109 : wML (11, 390, 67) ∈ W0 := in_W0 (in_t5 48 rfl) rfl
theorem f_ML_110 : wML (11, 405, 133) ∈ W0 := in_W0 (in_t5 66 rfl) rfl
theorem f_ML_111 : wML (11, 419, 39) ∈ W0 := in_W0 (in_t4 84 rfl) rfl
theorem f_ML_112 : wML (11, 420, 56) ∈ W0 := in_W0 (in_t3 166 rfl) rfl
theorem f_ML_113 : wML (11, 421, 57) ∈ W0 := in_W0 (in_t3 173 rfl) rfl
theorem f_ML_114 : wML (11, 425, 6) ∈ W0 := in_W0 (in_t3 192 rfl) rfl
theorem f_ML_115 : wML (11, 429, 78) ∈ W0 := in_W0 (in_t3 217 rfl) rfl
theorem f_ML_116 : wML (11, 432, 59) ∈ W0 := in_W0 (in_t4 6 rfl) rfl
theorem f_ML_117 : wML (11, 435, 60) ∈ W0 := in_W0 (in_t4 11 rfl) rfl
theorem f_ML_118 : wML (11, 438, 24) ∈ W0 := in_W0 (in_t4 60 rfl) rfl
theorem f_ML_119 : wML (11, 443, 37) ∈ W0 := in_W0 (in_t4 218 rfl) rfl
theorem f_ML_120 : wML (11, 447, 145) ∈ W0 := in_W0 (in_t3 189 rfl) rfl
theorem f_ML_121 : wML (11, 450, 250) ∈ W0 := in_W0 (in_t4 30 rfl) rfl
theorem f_ML_122 : wML (12, 178, 148) ∈ W0 := in_W0 (in_t6 41 rfl) rfl
theorem f_ML_123 : wML (12, 182, 149) ∈ W0 := in_W0 (in_t6 76 rfl) rfl
theorem f_ML_124 : wML (12, 192, 153) ∈ W0 := in_W0 (in_t6 56 rfl) rfl
theorem f_ML_125 : wML (12, 196, 155) ∈ W0 := in_W0 (in_t6 64 rfl) rfl
theorem f_ML_126 : wML (12, 200, 154) ∈ W0 := in_W0 (in_t6 52 rfl) rfl
theorem f_ML_127 : wML (12, 203, 156) ∈ W0 := in_W0 (in_t6 60 rfl) rfl
theorem f_ML_128 : wML (12, 207, 157) ∈ W0 := in_W0 (in_t6 48 rfl) rfl
theorem f_ML_129 : wML (12, 210, 150) ∈ W0 := in_W0 (in_t6 72 rfl) rfl
theorem f_ML_130 : wML (12, 213, 159) ∈ W0 := in_W0 (in_t6 80 rfl) rfl
theorem f_ML_131 : wML (12, 218, 151) ∈ W0 := in_W0 (in_t6 97 rfl) rfl
theorem f_ML_132 : wML (12, 221, 168) ∈ W0 := in_W0 (in_t6 125 rfl) rfl
theorem f_ML_133 : wML (12, 228, 170) ∈ W0 := in_W0 (in_t6 113 rfl) rfl
theorem f_ML_134 : wML (12, 231, 166) ∈ W0 := in_W0 (in_t6 117 rfl) rfl
theorem f_ML_135 : wML (12, 234, 169) ∈ W0 := in_W0 (in_t6 121 rfl) rfl
theorem f_ML_136 : wML (12, 238, 175) ∈ W0 := in_W0 (in_t6 157 rfl) rfl
theorem f_ML_137 : wML (12, 241, 176) ∈ W0 := in_W0 (in_t6 153 rfl) rfl
theorem f_ML_138 : wML (12, 244, 178) ∈ W0 := in_W0 (in_t6 165 rfl) rfl
theorem f_ML_139 : wML (12, 247, 179) ∈ W0 := in_W0 (in_t6 161 rfl) rfl
theorem f_ML_140 : wML (12, 250, 177) ∈ W0 := in_W0 (in_t6 149 rfl) rfl
theorem f_ML_141 : wML (12, 257, 180) ∈ W0 := in_W0 (in_t6 145 rfl) rfl
theorem f_ML_142 : wML (12, 264, 184) ∈ W0 := in_W0 (in_t6 205 rfl) rfl
theorem f_ML_143 : wML (12, 268, 188) ∈ W0 := in_W0 (in_t6 193 rfl) rfl
theorem f_ML_144 : wML (12, 272, 187) ∈ W0 := in_W0 (in_t6 197 rfl) rfl
theorem f_ML_145 : wML (12, 275, 186) ∈ W0 := in_W0 (in_t6 201 rfl) rfl
theorem f_ML_146 : wML (12, 289, 191) ∈ W0 := in_W0 (in_t6 216 rfl) rfl
theorem f_ML_147 : wML (12, 295, 192) ∈ W0 := in_W0 (in_t6 212 rfl) rfl
theorem f_ML_148 : wML (12, 299, 190) ∈ W0 := in_W0 (in_t6 221 rfl) rfl
theorem f_ML_149 : wML (12, 303, 194) ∈ W0 := in_W0 (in_t6 234 rfl) rfl
theorem f_ML_150 : wML (12, 306, 195) ∈ W0 := in_W0 (in_t6 230 rfl) rfl
theorem f_ML_151 : wML (12, 309, 196) ∈ W0 := in_W0 (in_t6 238 rfl) rfl
theorem f_ML_152 : wML (12, 312, 202) ∈ W0 := in_W0 (in_t7 6 rfl) rfl
theorem f_ML_153 : wML (12, 317, 199) ∈ W0 := in_W0 (in_t7 10 rfl) rfl
theorem f_ML_154 : wML (12, 320, 201) ∈ W0 := in_W0 (in_t7 14 rfl) rfl
theorem f_ML_155 : wML (12, 323, 200) ∈ W0 := in_W0 (in_t7 18 rfl) rfl
theorem f_ML_156 : wML (12, 326, 185) ∈ W0 := in_W0 (in_t6 185 rfl) rfl
theorem f_ML_157 : wML (12, 329, 189) ∈ W0 := in_W0 (in_t6 189 rfl) rfl
theorem f_ML_158 : wML (12, 332, 193) ∈ W0 := in_W0 (in_t6 208 rfl) rfl
theorem f_ML_159 : wML (12, 335, 197) ∈ W0 := in_W0 (in_t6 226 rfl) rfl
theorem f_ML_160 : wML (12, 338, 198) ∈ W0 := in_W0 (in_t7 2 rfl) rfl
theorem f_ML_161 : wML (12, 341, 203) ∈ W0 := in_W0 (in_t6 181 rfl) rfl
theorem f_ML_162 : wML (12, 346, 206) ∈ W0 := in_W0 (in_t7 32 rfl) rfl
theorem f_ML_163 : wML (12, 349, 207) ∈ W0 := in_W0 (in_t7 36 rfl) rfl
theorem f_ML_164 : wML (12, 352, 213) ∈ W0 := in_W0 (in_t7 48 rfl) rfl
theorem f_ML_165 : wML (12, 355, 210) ∈ W0 := in_W0 (in_t7 52 rfl) rfl
theorem f_ML_166 : wML (12, 358, 212) ∈ W0 := in_W0 (in_t7 56 rfl) rfl
theorem f_ML_167 : wML (12, 361, 211) ∈ W0 := in_W0 (in_t7 60 rfl) rfl
theorem f_ML_168 : wML (12, 364, 215) ∈ W0 := in_W0 (in_t7 68 rfl) rfl
theorem f_ML_169 : wML (12, 368, 219) ∈ W0 := in_W0 (in_t7 84 rfl) rfl
theorem f_ML_170 : wML (12, 371, 221) ∈ W0 := in_W0 (in_t7 92 rfl) rfl
theorem f_ML_171 : wML (12, 374, 222) ∈ W0 := in_W0 (in_t7 96 rfl) rfl
theorem f_ML_172 : wML (12, 383, 224) ∈ W0 := in_W0 (in_t7 108 rfl) rfl
theorem f_ML_173 : wML (12, 387, 167) ∈ W0 := in_W0 (in_t7 121 rfl) rfl
theorem f_ML_174 : wML (12, 393, 230) ∈ W0 := in_W0 (in_t7 137 rfl) rfl
theorem f_ML_175 : wML (12, 396, 232) ∈ W0 := in_W0 (in_t7 133 rfl) rfl
theorem f_ML_176 : wML (12, 399, 231) ∈ W0 := in_W0 (in_t7 141 rfl) rfl
theorem f_ML_177 : wML (12, 402, 233) ∈ W0 := in_W0 (in_t7 144 rfl) rfl
theorem f_ML_178 : wML (12, 405, 234) ∈ W0 := in_W0 (in_t7 148 rfl) rfl
theorem f_ML_179 : wML (12, 408, 235) ∈ W0 := in_W0 (in_t7 152 rfl) rfl
theorem f_ML_180 : wML (12, 411, 238) ∈ W0 := in_W0 (in_t7 164 rfl) rfl
theorem f_ML_181 : wML (12, 414, 241) ∈ W0 := in_W0 (in_t7 175 rfl) rfl
theorem f_ML_182 : wML (16, 9, 85) ∈ W0 := in_W0 (in_t1 20 rfl) rfl
theorem f_ML_183 : wML (16, 12, 147) ∈ W0 := in_W0 (in_t5 76 rfl) rfl
theorem f_ML_184 : wML (16, 13, 86) ∈ W0 := in_W0 (in_t2 202 rfl) rfl
theorem f_ML_185 : wML (16, 17, 152) ∈ W0 := in_W0 (in_t6 37 rfl) rfl
theorem f_ML_186 : wML (16, 18, 87) ∈ W0 := in_W0 (in_t2 210 rfl) rfl
theorem f_ML_187 : wML (16, 22, 158) ∈ W0 := in_W0 (in_t6 44 rfl) rfl
theorem f_ML_188 : wML (16, 23, 88) ∈ W0 := in_W0 (in_t3 24 rfl) rfl
theorem f_ML_189 : wML (16, 26, 161) ∈ W0 := in_W0 (in_t6 84 rfl) rfl
theorem f_ML_190 : wML (16, 27, 89) ∈ W0 := in_W0 (in_t3 37 rfl) rfl
theorem f_ML_191 : wML (16, 30, 162) ∈ W0 := in_W0 (in_t6 89 rfl) rfl
theorem f_ML_192 : wML (16, 31, 90) ∈ W0 := in_W0 (in_t3 42 rfl) rfl
theorem f_ML_193 : wML (16, 35, 163) ∈ W0 := in_W0 (in_t6 93 rfl) rfl
theorem f_ML_194 : wML (16, 36, 91) ∈ W0 := in_W0 (in_t3 46 rfl) rfl
theorem f_ML_195 : wML (16, 39, 164) ∈ W0 := in_W0 (in_t6 101 rfl) rfl
theorem f_ML_196 : wML (16, 40, 92) ∈ W0 := in_W0 (in_t3 50 rfl) rfl
theorem f_ML_197 : wML (16, 43, 165) ∈ W0 := in_W0 (in_t6 105 rfl) rfl
theorem f_ML_198 : wML (16, 44, 93) ∈ W0 := in_W0 (in_t3 58 rfl) rfl
theorem f_ML_199 : wML (16, 47, 160) ∈ W0 := in_W0 (in_t6 68 rfl) rfl
theorem f_ML_200 : wML (16, 48, 94) ∈ W0 := in_W0 (in_t3 73 rfl) rfl
theorem f_ML_201 : wML (16, 51, 171) ∈ W0 := in_W0 (in_t6 109 rfl) rfl
theorem f_ML_202 : wML (16, 52, 95) ∈ W0 := in_W0 (in_t3 99 rfl) rfl
theorem f_ML_203 : wML (16, 55, 172) ∈ W0 := in_W0 (in_t6 129 rfl) rfl
theorem f_ML_204 : wML (16, 56, 96) ∈ W0 := in_W0 (in_t3 107 rfl) rfl
theorem f_ML_205 : wML (16, 60, 173) ∈ W0 := in_W0 (in_t6 133 rfl) rfl
theorem f_ML_206 : wML (16, 61, 97) ∈ W0 := in_W0 (in_t3 111 rfl) rfl
theorem f_ML_207 : wML (16, 64, 174) ∈ W0 := in_W0 (in_t6 137 rfl) rfl
theorem f_ML_208 : wML (16, 65, 98) ∈ W0 := in_W0 (in_t3 118 rfl) rfl
theorem f_ML_209 : wML (16, 68, 181) ∈ W0 := in_W0 (in_t6 141 rfl) rfl
theorem f_ML_210 : wML (16, 69, 99) ∈ W0 := in_W0 (in_t3 146 rfl) rfl
theorem f_ML_211 : wML (16, 72, 182) ∈ W0 := in_W0 (in_t6 169 rfl) rfl
theorem f_ML_212 : wML (16, 73, 100) ∈ W0 := in_W0 (in_t3 150 rfl) rfl
theorem f_ML_213 : wML (16, 76, 183) ∈ W0 := in_W0 (in_t6 173 rfl) rfl
theorem f_ML_214 : wML (16, 77, 101) ∈ W0 := in_W0 (in_t3 154 rfl) rfl
theorem f_ML_215 : wML (16, 81, 204) ∈ W0 := in_W0 (in_t6 177 rfl) rfl
theorem f_ML_216 : wML (16, 82, 102) ∈ W0 := in_W0 (in_t4 33 rfl) rfl
theorem f_ML_217 : wML (16, 85, 205) ∈ W0 := in_W0 (in_t7 24 rfl) rfl
theorem f_ML_218 : wML (16, 86, 103) ∈ W0 := in_W0 (in_t4 37 rfl) rfl
theorem f_ML_219 : wML (16, 90, 208) ∈ W0 := in_W0 (in_t7 28 rfl) rfl
theorem f_ML_220 : wML (16, 91, 104) ∈ W0 := in_W0 (in_t4 44 rfl) rfl
theorem f_ML_221 : wML (16, 94, 209) ∈ W0 := in_W0 (in_t7 40 rfl) rfl
theorem f_ML_222 : wML (16, 95, 105) ∈ W0 := in_W0 (in_t4 48 rfl) rfl
theorem f_ML_223 : wML (16, 98, 214) ∈ W0 := in_W0 (in_t7 44 rfl) rfl
theorem f_ML_224 : wML (16, 99, 106) ∈ W0 := in_W0 (in_t4 66 rfl) rfl
theorem f_ML_225 : wML (16, 102, 216) ∈ W0 := in_W0 (in_t7 64 rfl) rfl
theorem f_ML_226 : wML (16, 103, 107) ∈ W0 := in_W0 (in_t4 76 rfl) rfl
theorem f_ML_227 : wML (16, 106, 217) ∈ W0 := in_W0 (in_t7 72 rfl) rfl
theorem f_ML_228 : wML (16, 107, 108) ∈ W0 := in_W0 (in_t4 88 rfl) rfl
theorem f_ML_229 : wML (16, 110, 218) ∈ W0 := in_W0 (in_t7 76 rfl) rfl
theorem f_ML_230 : wML (16, 111, 109) ∈ W0 := in_W0 (in_t4 103 rfl) rfl
theorem f_ML_231 : wML (16, 114, 220) ∈ W0 := in_W0 (in_t7 80 rfl) rfl
theorem f_ML_232 : wML (16, 115, 110) ∈ W0 := in_W0 (in_t4 123 rfl) rfl
theorem f_ML_233 : wML (16, 118, 223) ∈ W0 := in_W0 (in_t7 88 rfl) rfl
theorem f_ML_234 : wML (16, 119, 111) ∈ W0 := in_W0 (in_t4 164 rfl) rfl
theorem f_ML_235 : wML (16, 122, 225) ∈ W0 := in_W0 (in_t7 100 rfl) rfl
theorem f_ML_236 : wML (16, 123, 112) ∈ W0 := in_W0 (in_t4 176 rfl) rfl
theorem f_ML_237 : wML (16, 126, 226) ∈ W0 := in_W0 (in_t7 104 rfl) rfl
theorem f_ML_238 : wML (16, 127, 113) ∈ W0 := in_W0 (in_t4 205 rfl) rfl
theorem f_ML_239 : wML (16, 130, 227) ∈ W0 := in_W0 (in_t7 113 rfl) rfl
theorem f_ML_240 : wML (16, 131, 114) ∈ W0 := in_W0 (in_t4 209 rfl) rfl
theorem f_ML_241 : wML (16, 134, 228) ∈ W0 := in_W0 (in_t7 117 rfl) rfl
theorem f_ML_242 : wML (16, 135, 115) ∈ W0 := in_W0 (in_t4 226 rfl) rfl
theorem f_ML_243 : wML (16, 138, 229) ∈ W0 := in_W0 (in_t7 125 rfl) rfl
theorem f_ML_244 : wML (16, 139, 116) ∈ W0 := in_W0 (in_t4 236 rfl) rfl
theorem f_ML_245 : wML (16, 142, 236) ∈ W0 := in_W0 (in_t7 129 rfl) rfl
theorem f_ML_246 : wML (16, 143, 117) ∈ W0 := in_W0 (in_t5 19 rfl) rfl
theorem f_ML_247 : wML (16, 146, 237) ∈ W0 := in_W0 (in_t7 156 rfl) rfl
theorem f_ML_248 : wML (16, 147, 118) ∈ W0 := in_W0 (in_t5 23 rfl) rfl
theorem f_ML_249 : wML (16, 150, 239) ∈ W0 := in_W0 (in_t7 160 rfl) rfl
theorem f_ML_250 : wML (16, 151, 119) ∈ W0 := in_W0 (in_t5 31 rfl) rfl
theorem f_ML_251 : wML (16, 154, 240) ∈ W0 := in_W0 (in_t7 167 rfl) rfl
theorem f_ML_252 : wML (16, 157, 120) ∈ W0 := in_W0 (in_t5 40 rfl) rfl
theorem f_ML_253 : wML (16, 161, 242) ∈ W0 := in_W0 (in_t7 171 rfl) rfl
theorem f_ML_254 : wML (16, 162, 121) ∈ W0 := in_W0 (in_t5 52 rfl) rfl
theorem f_ML_255 : wML (16, 166, 243) ∈ W0 := in_W0 (in_t7 179 rfl) rfl
theorem f_ML_256 : wML (16, 167, 122) ∈ W0 := in_W0 (in_t5 57 rfl) rfl
theorem f_ML_257 : wML (16, 171, 244) ∈ W0 := in_W0 (in_t7 184 rfl) rfl
theorem f_ML_258 : wML (16, 172, 123) ∈ W0 := in_W0 (in_t5 62 rfl) rfl
theorem f_ML_259 : wML (16, 175, 245) ∈ W0 := in_W0 (in_t7 188 rfl) rfl
theorem f_ML_260 : wML (16, 176, 124) ∈ W0 := in_W0 (in_t5 70 rfl) rfl
theorem f_ML_261 : wML (16, 179, 246) ∈ W0 := in_W0 (in_t7 192 rfl) rfl
theorem ML_ok_nil : ∀ q ∈ ([] : List (Nat × Nat × Nat)), wML q ∈ W0 := fun _ h => absurd h List.not_mem_nil
set_option maxRecDepth 100000 in
theorem ML_ok : ∀ q ∈ LML, wML q ∈ W0 := List.forall_mem_cons.mpr ⟨f_ML_0, List.forall_mem_cons.mpr ⟨f_ML_1, List.forall_mem_cons.mpr ⟨f_ML_2, List.forall_mem_cons.mpr ⟨f_ML_3, List.forall_mem_cons.mpr ⟨f_ML_4, List.forall_mem_cons.mpr ⟨f_ML_5, List.forall_mem_cons.mpr ⟨f_ML_6, List.forall_mem_cons.mpr ⟨f_ML_7, List.forall_mem_cons.mpr ⟨f_ML_8, List.forall_mem_cons.mpr ⟨f_ML_9, List.forall_mem_cons.mpr ⟨f_ML_10, List.forall_mem_cons.mpr ⟨f_ML_11, List.forall_mem_cons.mpr ⟨f_ML_12, List.forall_mem_cons.mpr ⟨f_ML_13, List.forall_mem_cons.mpr ⟨f_ML_14, List.forall_mem_cons.mpr ⟨f_ML_15, List.forall_mem_cons.mpr ⟨f_ML_16, List.forall_mem_cons.mpr ⟨f_ML_17, List.forall_mem_cons.mpr ⟨f_ML_18, List.forall_mem_cons.mpr ⟨f_ML_19, List.forall_mem_cons.mpr ⟨f_ML_20, List.forall_mem_cons.mpr ⟨f_ML_21, List.forall_mem_cons.mpr ⟨f_ML_22, List.forall_mem_cons.mpr ⟨f_ML_23, List.forall_mem_cons.mpr ⟨f_ML_24, List.forall_mem_cons.mpr ⟨f_ML_25, List.forall_mem_cons.mpr ⟨f_ML_26, List.forall_mem_cons.mpr ⟨f_ML_27, List.forall_mem_cons.mpr ⟨f_ML_28, List.forall_mem_cons.mpr ⟨f_ML_29, List.forall_mem_cons.mpr ⟨f_ML_30, List.forall_mem_cons.mpr ⟨f_ML_31, List.forall_mem_cons.mpr ⟨f_ML_32, List.forall_mem_cons.mpr ⟨f_ML_33, List.forall_mem_cons.mpr ⟨f_ML_34, List.forall_mem_cons.mpr ⟨f_ML_35, List.forall_mem_cons.mpr ⟨f_ML_36, List.forall_mem_cons.mpr ⟨f_ML_37, List.forall_mem_cons.mpr ⟨f_ML_38, List.forall_mem_cons.mpr ⟨f_ML_39, List.forall_mem_cons.mpr ⟨f_ML_40, List.forall_mem_cons.mpr ⟨f_ML_41, List.forall_mem_cons.mpr ⟨f_ML_42, List.forall_mem_cons.mpr ⟨f_ML_43, List.forall_mem_cons.mpr ⟨f_ML_44, List.forall_mem_cons.mpr ⟨f_ML_45, List.forall_mem_cons.mpr ⟨f_ML_46, List.forall_mem_cons.mpr ⟨f_ML_47, List.forall_mem_cons.mpr ⟨f_ML_48, List.forall_mem_cons.mpr ⟨f_ML_49, List.forall_mem_cons.mpr ⟨f_ML_50, List.forall_mem_cons.mpr ⟨f_ML_51, List.forall_mem_cons.mpr ⟨f_ML_52, List.forall_mem_cons.mpr ⟨f_ML_53, List.forall_mem_cons.mpr ⟨f_ML_54, List.forall_mem_cons.mpr ⟨f_ML_55, List.forall_mem_cons.mpr ⟨f_ML_56, List.forall_mem_cons.mpr ⟨f_ML_57, List.forall_mem_cons.mpr ⟨f_ML_58, List.forall_mem_cons.mpr ⟨f_ML_59, List.forall_mem_cons.mpr ⟨f_ML_60, List.forall_mem_cons.mpr ⟨f_ML_61, List.forall_mem_cons.mpr ⟨f_ML_62, List.forall_mem_cons.mpr ⟨f_ML_63, List.forall_mem_cons.mpr ⟨f_ML_64, List.forall_mem_cons.mpr ⟨f_ML_65, List.forall_mem_cons.mpr ⟨f_ML_66, List.forall_mem_cons.mpr ⟨f_ML_67, List.forall_mem_cons.mpr ⟨f_ML_68, List.forall_mem_cons.mpr ⟨f_ML_69, List.forall_mem_cons.mpr ⟨f_ML_70, List.forall_mem_cons.mpr ⟨f_ML_71, List.forall_mem_cons.mpr ⟨f_ML_72, List.forall_mem_cons.mpr ⟨f_ML_73, List.forall_mem_cons.mpr ⟨f_ML_74, List.forall_mem_cons.mpr ⟨f_ML_75, List.forall_mem_cons.mpr ⟨f_ML_76, List.forall_mem_cons.mpr ⟨f_ML_77, List.forall_mem_cons.mpr ⟨f_ML_78, List.forall_mem_cons.mpr ⟨f_ML_79, List.forall_mem_cons.mpr ⟨f_ML_80, List.forall_mem_cons.mpr ⟨f_ML_81, List.forall_mem_cons.mpr ⟨f_ML_82, List.forall_mem_cons.mpr ⟨f_ML_83, List.forall_mem_cons.mpr ⟨f_ML_84, List.forall_mem_cons.mpr ⟨f_ML_85, List.forall_mem_cons.mpr ⟨f_ML_86, List.forall_mem_cons.mpr ⟨f_ML_87, List.forall_mem_cons.mpr ⟨f_ML_88, List.forall_mem_cons.mpr ⟨f_ML_89, List.forall_mem_cons.mpr ⟨f_ML_90, List.forall_mem_cons.mpr ⟨f_ML_91, List.forall_mem_cons.mpr ⟨f_ML_92, List.forall_mem_cons.mpr ⟨f_ML_93, List.forall_mem_cons.mpr ⟨f_ML_94, List.forall_mem_cons.mpr ⟨f_ML_95, List.forall_mem_cons.mpr ⟨f_ML_96, List.forall_mem_cons.mpr ⟨f_ML_97, List.forall_mem_cons.mpr ⟨f_ML_98, List.forall_mem_cons.mpr ⟨f_ML_99, List.forall_mem_cons.mpr ⟨f_ML_100, List.forall_mem_cons.mpr ⟨f_ML_101, List.forall_mem_cons.mpr ⟨f_ML_102, List.forall_mem_cons.mpr ⟨f_ML_103, List.forall_mem_cons.mpr ⟨f_ML_104, List.forall_mem_cons.mpr ⟨f_ML_105, List.forall_mem_cons.mpr ⟨f_ML_106, List.forall_mem_cons.mpr ⟨f_ML_107, List.forall_mem_cons.mpr ⟨f_ML_108, List.forall_mem_cons.mpr ⟨f_ML_109, List.forall_mem_cons.mpr ⟨f_ML_110, List.forall_mem_cons.mpr ⟨f_ML_111, List.forall_mem_cons.mpr ⟨f_ML_112, List.forall_mem_cons.mpr ⟨f_ML_113, List.forall_mem_cons.mpr ⟨f_ML_114, List.forall_mem_cons.mpr ⟨f_ML_115, List.forall_mem_cons.mpr ⟨f_ML_116, List.forall_mem_cons.mpr ⟨f_ML_117, List.forall_mem_cons.mpr ⟨f_ML_118, List.forall_mem_cons.mpr ⟨f_ML_119, List.forall_mem_cons.mpr ⟨f_ML_120, List.forall_mem_cons.mpr ⟨f_ML_121, List.forall_mem_cons.mpr ⟨f_ML_122, List.forall_mem_cons.mpr ⟨f_ML_123, List.forall_mem_cons.mpr ⟨f_ML_124, List.forall_mem_cons.mpr ⟨f_ML_125, List.forall_mem_cons.mpr ⟨f_ML_126, List.forall_mem_cons.mpr ⟨f_ML_127, List.forall_mem_cons.mpr ⟨f_ML_128, List.forall_mem_cons.mpr ⟨f_ML_129, List.forall_mem_cons.mpr ⟨f_ML_130, List.forall_mem_cons.mpr ⟨f_ML_131, List.forall_mem_cons.mpr ⟨f_ML_132, List.forall_mem_cons.mpr ⟨f_ML_133, List.forall_mem_cons.mpr ⟨f_ML_134, List.forall_mem_cons.mpr ⟨f_ML_135, List.forall_mem_cons.mpr ⟨f_ML_136, List.forall_mem_cons.mpr ⟨f_ML_137, List.forall_mem_cons.mpr ⟨f_ML_138, List.forall_mem_cons.mpr ⟨f_ML_139, List.forall_mem_cons.mpr ⟨f_ML_140, List.forall_mem_cons.mpr ⟨f_ML_141, List.forall_mem_cons.mpr ⟨f_ML_142, List.forall_mem_cons.mpr ⟨f_ML_143, List.forall_mem_cons.mpr ⟨f_ML_144, List.forall_mem_cons.mpr ⟨f_ML_145, List.forall_mem_cons.mpr ⟨f_ML_146, List.forall_mem_cons.mpr ⟨f_ML_147, List.forall_mem_cons.mpr ⟨f_ML_148, List.forall_mem_cons.mpr ⟨f_ML_149, List.forall_mem_cons.mpr ⟨f_ML_150, List.forall_mem_cons.mpr ⟨f_ML_151, List.forall_mem_cons.mpr ⟨f_ML_152, List.forall_mem_cons.mpr ⟨f_ML_153, List.forall_mem_cons.mpr ⟨f_ML_154, List.forall_mem_cons.mpr ⟨f_ML_155, List.forall_mem_cons.mpr ⟨f_ML_156, List.forall_mem_cons.mpr ⟨f_ML_157, List.forall_mem_cons.mpr ⟨f_ML_158, List.forall_mem_cons.mpr ⟨f_ML_159, List.forall_mem_cons.mpr ⟨f_ML_160, List.forall_mem_cons.mpr ⟨f_ML_161, List.forall_mem_cons.mpr ⟨f_ML_162, List.forall_mem_cons.mpr ⟨f_ML_163, List.forall_mem_cons.mpr ⟨f_ML_164, List.forall_mem_cons.mpr ⟨f_ML_165, List.forall_mem_cons.mpr ⟨f_ML_166, List.forall_mem_cons.mpr ⟨f_ML_167, List.forall_mem_cons.mpr ⟨f_ML_168, List.forall_mem_cons.mpr ⟨f_ML_169, List.forall_mem_cons.mpr ⟨f_ML_170, List.forall_mem_cons.mpr ⟨f_ML_171, List.forall_mem_cons.mpr ⟨f_ML_172, List.forall_mem_cons.mpr ⟨f_ML_173, List.forall_mem_cons.mpr ⟨f_ML_174, List.forall_mem_cons.mpr ⟨f_ML_175, List.forall_mem_cons.mpr ⟨f_ML_176, List.forall_mem_cons.mpr ⟨f_ML_177, List.forall_mem_cons.mpr ⟨f_ML_178, List.forall_mem_cons.mpr ⟨f_ML_179, List.forall_mem_cons.mpr ⟨f_ML_180, List.forall_mem_cons.mpr ⟨f_ML_181, List.forall_mem_cons.mpr ⟨f_ML_182, List.forall_mem_cons.mpr ⟨f_ML_183, List.forall_mem_cons.mpr ⟨f_ML_184, List.forall_mem_cons.mpr ⟨f_ML_185, List.forall_mem_cons.mpr ⟨f_ML_186, List.forall_mem_cons.mpr ⟨f_ML_187, List.forall_mem_cons.mpr ⟨f_ML_188, List.forall_mem_cons.mpr ⟨f_ML_189, List.forall_mem_cons.mpr ⟨f_ML_190, List.forall_mem_cons.mpr ⟨f_ML_191, List.forall_mem_cons.mpr ⟨f_ML_192, List.forall_mem_cons.mpr ⟨f_ML_193, List.forall_mem_cons.mpr ⟨f_ML_194, List.forall_mem_cons.mpr ⟨f_ML_195, List.forall_mem_cons.mpr ⟨f_ML_196, List.forall_mem_cons.mpr ⟨f_ML_197, List.forall_mem_cons.mpr ⟨f_ML_198, List.forall_mem_cons.mpr ⟨f_ML_199, List.forall_mem_cons.mpr ⟨f_ML_200, List.forall_mem_cons.mpr ⟨f_ML_201, List.forall_mem_cons.mpr ⟨f_ML_202, List.forall_mem_cons.mpr ⟨f_ML_203, List.forall_mem_cons.mpr ⟨f_ML_204, List.forall_mem_cons.mpr ⟨f_ML_205, List.forall_mem_cons.mpr ⟨f_ML_206, List.forall_mem_cons.mpr ⟨f_ML_207, List.forall_mem_cons.mpr ⟨f_ML_208, List.forall_mem_cons.mpr ⟨f_ML_209, List.forall_mem_cons.mpr ⟨f_ML_210, List.forall_mem_cons.mpr ⟨f_ML_211, List.forall_mem_cons.mpr ⟨f_ML_212, List.forall_mem_cons.mpr ⟨f_ML_213, List.forall_mem_cons.mpr ⟨f_ML_214, List.forall_mem_cons.mpr ⟨f_ML_215, List.forall_mem_cons.mpr ⟨f_ML_216, List.forall_mem_cons.mpr ⟨f_ML_217, List.forall_mem_cons.mpr ⟨f_ML_218, List.forall_mem_cons.mpr ⟨f_ML_219, List.forall_mem_cons.mpr ⟨f_ML_220, List.forall_mem_cons.mpr ⟨f_ML_221, List.forall_mem_cons.mpr ⟨f_ML_222, List.forall_mem_cons.mpr ⟨f_ML_223, List.forall_mem_cons.mpr ⟨f_ML_224, List.forall_mem_cons.mpr ⟨f_ML_225, List.forall_mem_cons.mpr ⟨f_ML_226, List.forall_mem_cons.mpr ⟨f_ML_227, List.forall_mem_cons.mpr ⟨f_ML_228, List.forall_mem_cons.mpr ⟨f_ML_229, List.forall_mem_cons.mpr ⟨f_ML_230, List.forall_mem_cons.mpr ⟨f_ML_231, List.forall_mem_cons.mpr ⟨f_ML_232, List.forall_mem_cons.mpr ⟨f_ML_233, List.forall_mem_cons.mpr ⟨f_ML_234, List.forall_mem_cons.mpr ⟨f_ML_235, List.forall_mem_cons.mpr ⟨f_ML_236, List.forall_mem_cons.mpr ⟨f_ML_237, List.forall_mem_cons.mpr ⟨f_ML_238, List.forall_mem_cons.mpr ⟨f_ML_239, List.forall_mem_cons.mpr ⟨f_ML_240, List.forall_mem_cons.mpr ⟨f_ML_241, List.forall_mem_cons.mpr ⟨f_ML_242, List.forall_mem_cons.mpr ⟨f_ML_243, List.forall_mem_cons.mpr ⟨f_ML_244, List.forall_mem_cons.mpr ⟨f_ML_245, List.forall_mem_cons.mpr ⟨f_ML_246, List.forall_mem_cons.mpr ⟨f_ML_247, List.forall_mem_cons.mpr ⟨f_ML_248, List.forall_mem_cons.mpr ⟨f_ML_249, List.forall_mem_cons.mpr ⟨f_ML_250, List.forall_mem_cons.mpr ⟨f_ML_251, List.forall_mem_cons.mpr ⟨f_ML_252, List.forall_mem_cons.mpr ⟨f_ML_253, List.forall_mem_cons.mpr ⟨f_ML_254, List.forall_mem_cons.mpr ⟨f_ML_255, List.forall_mem_cons.mpr ⟨f_ML_256, List.forall_mem_cons.mpr ⟨f_ML_257, List.forall_mem_cons.mpr ⟨f_ML_258, List.forall_mem_cons.mpr ⟨f_ML_259, List.forall_mem_cons.mpr ⟨f_ML_260, List.forall_mem_cons.mpr ⟨f_ML_261, ML_ok_nil⟩⟩⟩⟩⟩⟩⟩⟩⟩⟩⟩⟩⟩⟩⟩⟩⟩⟩⟩⟩⟩⟩⟩⟩⟩⟩⟩⟩⟩⟩⟩⟩⟩⟩⟩⟩⟩⟩⟩⟩⟩⟩⟩⟩⟩⟩⟩⟩⟩⟩⟩⟩⟩⟩⟩⟩⟩⟩⟩⟩⟩⟩⟩⟩⟩⟩⟩⟩⟩⟩⟩⟩⟩⟩⟩⟩⟩⟩⟩⟩⟩⟩⟩⟩⟩⟩⟩⟩⟩⟩⟩⟩⟩⟩⟩⟩⟩⟩⟩⟩⟩⟩⟩⟩⟩⟩⟩⟩⟩⟩⟩⟩⟩⟩⟩⟩⟩⟩⟩⟩⟩⟩⟩⟩⟩⟩⟩⟩⟩⟩⟩⟩⟩⟩⟩⟩⟩⟩⟩⟩⟩⟩⟩⟩⟩⟩⟩⟩⟩⟩⟩⟩⟩⟩⟩⟩⟩⟩⟩⟩⟩⟩⟩⟩⟩⟩⟩⟩⟩⟩⟩⟩⟩⟩⟩⟩⟩⟩⟩⟩⟩⟩⟩⟩⟩⟩⟩⟩⟩⟩⟩⟩⟩⟩⟩⟩⟩⟩⟩⟩⟩⟩⟩⟩⟩⟩⟩⟩⟩⟩⟩⟩⟩⟩⟩⟩⟩⟩⟩⟩⟩⟩⟩⟩⟩⟩⟩⟩⟩⟩⟩⟩⟩⟩⟩⟩⟩⟩⟩⟩⟩⟩⟩⟩⟩⟩⟩⟩⟩⟩⟩⟩⟩⟩⟩⟩⟩⟩⟩⟩⟩⟩
theorem f_CL_0 : wCL (2, 15, 106) ∈ W0 := in_W0 (in_t2 71 rfl) rfl
theorem f_CL_1 : wCL (3, 21, 106) ∈ W0 := in_W0 (in_t1 52 rfl) rfl
theorem f_CL_2 : wCL (3, 32, 105) ∈ W0 := in_W0 (in_t1 54 rfl) rfl
theorem f_CL_3 : wCL (3, 32, 7) ∈ W0 := in_W0 (in_t1 54 rfl) rfl
theorem f_CL_4 : wCL (4, 18, 106) ∈ W0 := in_W0 (in_t1 179 rfl) rfl
theorem f_CL_5 : wCL (5, 18, 106) ∈ W0 := in_W0 (in_t2 30 rfl) rfl
theorem f_CL_6 : wCL (11, 9, 9) ∈ W0 := in_W0 (in_t1 26 rfl) rfl
theorem f_CL_7 : wCL (11, 16, 103) ∈ W0 := in_W0 (in_t1 45 rfl) rfl
theorem f_CL_8 : wCL (11, 16, 3) ∈ W0 := in_W0 (in_t1 45 rfl) rfl
theorem f_CL_9 : wCL (11, 31, 4) ∈ W0 := in_W0 (in_t1 173 rfl) rfl
theorem f_CL_10 : wCL (11, 38, 6) ∈ W0 := in_W0 (in_t1 203 rfl) rfl
theorem f_CL_11 : wCL (11, 58, 1) ∈ W0 := in_W0 (in_t1 225 rfl) rfl
theorem f_CL_12 : wCL (11, 65, 10) ∈ W0 := in_W0 (in_t2 4 rfl) rfl
theorem f_CL_13 : wCL (11, 72, 5) ∈ W0 := in_W0 (in_t2 24 rfl) rfl
theorem f_CL_14 : wCL (11, 79, 2) ∈ W0 := in_W0 (in_t2 65 rfl) rfl
theorem f_CL_15 : wCL (11, 86, 0) ∈ W0 := in_W0 (in_t2 96 rfl) rfl
theorem f_CL_16 : wCL (11, 93, 104) ∈ W0 := in_W0 (in_t2 117 rfl) rfl
theorem f_CL_17 : wCL (11, 93, 8) ∈ W0 := in_W0 (in_t2 117 rfl) rfl
theorem f_CL_18 : wCL (16, 7, 11) ∈ W0 := in_W0 (in_t1 18 rfl) rfl
theorem f_CL_19 : wCL (16, 10, 12) ∈ W0 := in_W0 (in_t5 74 rfl) rfl
theorem CL_ok_nil : ∀ q ∈ ([] : List (Nat × Nat × Nat)), wCL q ∈ W0 := fun _ h => absurd h List.not_mem_nil
set_option maxRecDepth 100000 in
theorem CL_ok : ∀ q ∈ LCL, wCL q ∈ W0 := List.forall_mem_cons.mpr ⟨f_CL_0, List.forall_mem_cons.mpr ⟨f_CL_1, List.forall_mem_cons.mpr ⟨f_CL_2, List.forall_mem_cons.mpr ⟨f_CL_3, List.forall_mem_cons.mpr ⟨f_CL_4, List.forall_mem_cons.mpr ⟨f_CL_5, List.forall_mem_cons.mpr ⟨f_CL_6, List.forall_mem_cons.mpr ⟨f_CL_7, List.forall_mem_cons.mpr ⟨f_CL_8, List.forall_mem_cons.mpr ⟨f_CL_9, List.forall_mem_cons.mpr ⟨f_CL_10, List.forall_mem_cons.mpr ⟨f_CL_11, List.forall_mem_cons.mpr ⟨f_CL_12, List.forall_mem_cons.mpr ⟨f_CL_13, List.forall_mem_cons.mpr ⟨f_CL_14, List.forall_mem_cons.mpr ⟨f_CL_15, List.forall_mem_cons.mpr ⟨f_CL_16, List.forall_mem_cons.mpr ⟨f_CL_17, List.forall_mem_cons.mpr ⟨f_CL_18, List.forall_mem_cons.mpr ⟨f_CL_19, CL_ok_nil⟩⟩⟩⟩⟩⟩⟩⟩⟩⟩⟩⟩⟩⟩⟩⟩⟩⟩⟩⟩
theorem f_KI_0 : wKI (2, 58, 1000000) ∈ W0 := in_W0 (in_t4 196 rfl) rfl
theorem f_KI_1 : wKI (4, 67, 1000000) ∈ W0 := in_W0 (in_t4 222 rfl) rfl
theorem f_KI_2 : wKI (7, 42, 40320) ∈ W0 := in_W0 (in_t3 180 rfl) rfl
theorem f_KI_3 : wKI (11, 122, (-2000000000)) ∈ W0 := in_W0 (in_t3 32 rfl) rfl
theorem f_KI_4 : wKI (11, 266, 40320) ∈ W0 := in_W0 (in_t4 71 rfl) rfl
theorem f_KI_5 : wKI (11, 442, 1000000) ∈ W0 := in_W0 (in_t4 217 rfl) rfl
theorem f_KI_6 : wKI (12, 217, (-2000000000)) ∈ W0 := in_W0 (in_t6 88 rfl) rfl
theorem f_KI_7 : wKI (12, 386, 1000000) ∈ W0 := in_W0 (in_t7 112 rfl) rfl
theorem f_KI_8 : wKI (13, 265, 1431655765) ∈ W0 := in_W0 (in_t4 201 rfl) rfl
theorem f_KI_9 : wKI (13, 266, 858993459) ∈ W0 := in_W0 (in_t4 202 rfl) rfl
theorem f_KI_10 : wKI (13, 267, 252645135) ∈ W0 := in_W0 (in_t4 203 rfl) rfl
theorem KI_ok_nil : ∀ q ∈ ([] : List (Nat × Nat × Int)), wKI q ∈ W0 := fun _ h => absurd h List.not_mem_nil
set_option maxRecDepth 100000 in
theorem KI_ok : ∀ q ∈ LKI, wKI q ∈ W0 := List.forall_mem_cons.mpr ⟨f_KI_0, List.forall_mem_cons.mpr ⟨f_KI_1, List.forall_mem_cons.mpr ⟨f_KI_2, List.forall_mem_cons.mpr ⟨f_KI_3, List.forall_mem_cons.mpr ⟨f_KI_4, List.forall_mem_cons.mpr ⟨f_KI_5, List.forall_mem_cons.mpr ⟨f_KI_6, List.forall_mem_cons.mpr ⟨f_KI_7, List.forall_mem_cons.mpr ⟨f_KI_8, List.forall_mem_cons.mpr ⟨f_KI_9, List.forall_mem_cons.mpr ⟨f_KI_10, KI_ok_nil⟩⟩⟩⟩⟩⟩⟩⟩⟩⟩⟩
theorem f_KL_0 : wKL (1, 51, 1000000000000) ∈ W0 := in_W0 (in_t3 205 rfl) rfl
theorem f_KL_1 : wKL (3, 39, 60) ∈ W0 := in_W0 (in_t4 102 rfl) rfl
theorem f_KL_2 : wKL (7, 65, 60) ∈ W0 := in_W0 (in_t4 10 rfl) rfl
theorem f_KL_3 : wKL (11, 223, (-1)) ∈ W0 := in_W0 (in_t3 161 rfl) rfl
theorem f_KL_4 : wKL (11, 235, (-4)) ∈ W0 := in_W0 (in_t4 26 rfl) rfl
theorem f_KL_5 : wKL (11, 394, (-9223372036854775808)) ∈ W0 := in_W0 (in_t5 56 rfl) rfl
theorem f_KL_6 : wKL (12, 65, (-1)) ∈ W0 := in_W0 (in_t5 80 rfl) rfl
theorem f_KL_7 : wKL (12, 285, 1000000000000) ∈ W0 := in_W0 (in_t6 220 rfl) rfl
theorem f_KL_8 : wKL (12, 287, (-1000000000000)) ∈ W0 := in_W0 (in_t6 225 rfl) rfl
theorem f_KL_9 : wKL (12, 315, 60) ∈ W0 := in_W0 (in_t7 22 rfl) rfl
theorem f_KL_10 : wKL (12, 344, (-4)) ∈ W0 := in_W0 (in_t7 23 rfl) rfl
theorem f_KL_11 : wKL (12, 417, (-9223372036854775808)) ∈ W0 := in_W0 (in_t7 183 rfl) rfl
theorem f_KL_12 : wKL (16, 155, 4294967295) ∈ W0 := in_W0 (in_t7 196 rfl) rfl
theorem KL_ok_nil : ∀ q ∈ ([] : List (Nat × Nat × Int)), wKL q ∈ W0 := fun _ h => absurd h List.not_mem_nil
set_option maxRecDepth 100000 in
theorem KL_ok : ∀ q ∈ LKL, wKL q ∈ W0 := List.forall_mem_cons.mpr ⟨f_KL_0, List.forall_mem_cons.mpr ⟨f_KL_1, List.forall_mem_cons.mpr ⟨f_KL_2, List.forall_mem_cons.mpr ⟨f_KL_3, List.forall_mem_cons.mpr ⟨f_KL_4, List.forall_mem_cons.mpr ⟨f_KL_5, List.forall_mem_cons.mpr ⟨f_KL_6, List.forall_mem_cons.mpr ⟨f_KL_7, List.forall_mem_cons.mpr ⟨f_KL_8, List.forall_mem_cons.mpr ⟨f_KL_9, List.forall_mem_cons.mpr ⟨f_KL_10, List.forall_mem_cons.mpr ⟨f_KL_11, List.forall_mem_cons.mpr ⟨f_KL_12, KL_ok_nil⟩⟩⟩⟩⟩⟩⟩⟩⟩⟩⟩⟩⟩
theorem f_AC_0 : wAC (0, 1003) ∈ W0 := in_W0 (in_t2 101 rfl) rfl
theorem f_AC_1 : wAC (1, 1003) ∈ W0 := in_W0 (in_t1 230 rfl) rfl
theorem f_AC_2 : wAC (2, 1003) ∈ W0 := in_W0 (in_t2 70 rfl) rfl
theorem f_AC_3 : wAC (3, 1003) ∈ W0 := in_W0 (in_t1 51 rfl) rfl
theorem f_AC_4 : wAC (3, 60) ∈ W0 := in_W0 (in_t3 66 rfl) rfl
theorem f_AC_5 : wAC (4, 1003) ∈ W0 := in_W0 (in_t1 178 rfl) rfl
theorem f_AC_6 : wAC (4, 31) ∈ W0 := in_W0 (in_t3 88 rfl) rfl
theorem f_AC_7 : wAC (5, 1003) ∈ W0 := in_W0 (in_t2 29 rfl) rfl
theorem f_AC_8 : wAC (5, 49) ∈ W0 := in_W0 (in_t4 136 rfl) rfl
theorem f_AC_9 : wAC (6, 1003) ∈ W0 := in_W0 (in_t1 208 rfl) rfl
theorem f_AC_10 : wAC (7, 1003) ∈ W0 := in_W0 (in_t1 60 rfl) rfl
theorem f_AC_11 : wAC (8, 1001) ∈ W0 := in_W0 (in_t2 123 rfl) rfl
theorem f_AC_12 : wAC (9, 1003) ∈ W0 := in_W0 (in_t1 31 rfl) rfl
theorem f_AC_13 : wAC (10, 1003) ∈ W0 := in_W0 (in_t2 9 rfl) rfl
theorem f_AC_14 : wAC (11, 1003) ∈ W0 := in_W0 (in_t1 23 rfl) rfl
theorem f_AC_15 : wAC (11, 396) ∈ W0 := in_W0 (in_t5 61 rfl) rfl
theorem f_AC_16 : wAC (12, 1001) ∈ W0 := in_W0 (in_t5 79 rfl) rfl
theorem AC_ok_nil : ∀ q ∈ ([] : List (Nat × Nat)), wAC q ∈ W0 := fun _ h => absurd h List.not_mem_nil
set_option maxRecDepth 100000 in
theorem AC_ok : ∀ q ∈ LAC, wAC q ∈ W0 := List.forall_mem_cons.mpr ⟨f_AC_0, List.forall_mem_cons.mpr ⟨f_AC_1, List.forall_mem_cons.mpr ⟨f_AC_2, List.forall_mem_cons.mpr ⟨f_AC_3, List.forall_mem_cons.mpr ⟨f_AC_4, List.forall_mem_cons.mpr ⟨f_AC_5, List.forall_mem_cons.mpr ⟨f_AC_6, List.forall_mem_cons.mpr ⟨f_AC_7, List.forall_mem_cons.mpr ⟨f_AC_8, List.forall_mem_cons.mpr ⟨f_AC_9, List.forall_mem_cons.mpr ⟨f_AC_10, List.forall_mem_cons.mpr ⟨f_AC_11, List.forall_mem_cons.mpr ⟨f_AC_12, List.forall_mem_cons.mpr ⟨f_AC_13, List.forall_mem_cons.mpr ⟨f_AC_14, List.forall_mem_cons.mpr ⟨f_AC_15, List.forall_mem_cons.mpr ⟨f_AC_16, AC_ok_nil⟩⟩⟩⟩⟩⟩⟩⟩⟩⟩⟩⟩⟩⟩⟩⟩⟩
theorem f_SM_0 : wS 4 ∈ W0 := in_W0 (in_t5 9 rfl) rfl
theorem f_SM_1 : wS 247 ∈ W0 := in_W0 (in_t4 199 rfl) rfl
theorem f_SM_2 : wS 146 ∈ W0 := in_W0 (in_t4 28 rfl) rfl
theorem f_SM_3 : wS 249 ∈ W0 := in_W0 (in_t2 223 rfl) rfl
theorem f_SM_4 : wS 142 ∈ W0 := in_W0 (in_t4 73 rfl) rfl
theorem f_SM_5 : wS 52 ∈ W0 := in_W0 (in_t3 138 rfl) rfl
theorem f_SM_6 : wS 50 ∈ W0 := in_W0 (in_t3 132 rfl) rfl
theorem f_SM_7 : wS 51 ∈ W0 := in_W0 (in_t3 135 rfl) rfl
theorem f_SM_8 : wS 54 ∈ W0 := in_W0 (in_t3 141 rfl) rfl
theorem f_SM_9 : wS 53 ∈ W0 := in_W0 (in_t3 144 rfl) rfl
theorem f_SM_10 : wS 248 ∈ W0 := in_W0 (in_t3 171 rfl) rfl
theorem f_SM_11 : wS 143 ∈ W0 := in_W0 (in_t3 178 rfl) rfl
theorem f_SM_12 : wS 144 ∈ W0 := in_W0 (in_t3 187 rfl) rfl
theorem f_SM_13 : wS 127 ∈ W0 := in_W0 (in_t3 14 rfl) rfl
theorem f_SM_14 : wS 126 ∈ W0 := in_W0 (in_t3 34 rfl) rfl
theorem f_SM_15 : wS 141 ∈ W0 := in_W0 (in_t3 82 rfl) rfl
theorem f_SM_16 : wS 130 ∈ W0 := in_W0 (in_t3 116 rfl) rfl
theorem f_SM_17 : wS 128 ∈ W0 := in_W0 (in_t3 159 rfl) rfl
theorem f_SM_18 : wS 138 ∈ W0 := in_W0 (in_t4 42 rfl) rfl
theorem f_SM_19 : wS 129 ∈ W0 := in_W0 (in_t4 93 rfl) rfl
theorem f_SM_20 : wS 18 ∈ W0 := in_W0 (in_t4 100 rfl) rfl
theorem f_SM_21 : wS 133 ∈ W0 := in_W0 (in_t5 67 rfl) rfl
theorem f_SM_22 : wS 145 ∈ W0 := in_W0 (in_t3 190 rfl) rfl
theorem f_SM_23 : wS 148 ∈ W0 := in_W0 (in_t6 42 rfl) rfl
theorem f_SM_24 : wS 184 ∈ W0 := in_W0 (in_t6 206 rfl) rfl
theorem f_SM_25 : wS 231 ∈ W0 := in_W0 (in_t7 142 rfl) rfl
theorem f_SM_26 : wS 238 ∈ W0 := in_W0 (in_t7 165 rfl) rfl
theorem SM_ok_nil : ∀ q ∈ ([] : List Nat), wS q ∈ W0 := fun _ h => absurd h List.not_mem_nil
set_option maxRecDepth 100000 in
theorem SM_ok : ∀ q ∈ LSM, wS q ∈ W0 := List.forall_mem_cons.mpr ⟨f_SM_0, List.forall_mem_cons.mpr ⟨f_SM_1, List.forall_mem_cons.mpr ⟨f_SM_2, List.forall_mem_cons.mpr ⟨f_SM_3, List.forall_mem_cons.mpr ⟨f_SM_4, List.forall_mem_cons.mpr ⟨f_SM_5, List.forall_mem_cons.mpr ⟨f_SM_6, List.forall_mem_cons.mpr ⟨f_SM_7, List.forall_mem_cons.mpr ⟨f_SM_8, List.forall_mem_cons.mpr ⟨f_SM_9, List.forall_mem_cons.mpr ⟨f_SM_10, List.forall_mem_cons.mpr ⟨f_SM_11, List.forall_mem_cons.mpr ⟨f_SM_12, List.forall_mem_cons.mpr ⟨f_SM_13, List.forall_mem_cons.mpr ⟨f_SM_14, List.forall_mem_cons.mpr ⟨f_SM_15, List.forall_mem_cons.mpr ⟨f_SM_16, List.forall_mem_cons.mpr ⟨f_SM_17, List.forall_mem_cons.mpr ⟨f_SM_18, List.forall_mem_cons.mpr ⟨f_SM_19, List.forall_mem_cons.mpr ⟨f_SM_20, List.forall_mem_cons.mpr ⟨f_SM_21, List.forall_mem_cons.mpr ⟨f_SM_22, List.forall_mem_cons.mpr ⟨f_SM_23, List.forall_mem_cons.mpr ⟨f_SM_24, List.forall_mem_cons.mpr ⟨f_SM_25, List.forall_mem_cons.mpr ⟨f_SM_26, SM_ok_nil⟩⟩⟩⟩⟩⟩⟩⟩⟩⟩⟩⟩⟩⟩⟩⟩⟩⟩⟩⟩⟩⟩⟩⟩⟩⟩⟩
theorem GS_two : ∀ q ∈ LGS, q.2.2.1 = 1 ∨ q.2.2.1 = 2 := by decide
theorem f_VM_0 : wI 3 ∈ W0 ∧ wV 3 ∈ W0 := ⟨in_W0 (in_t5 17 rfl) rfl, in_sel (q := (⟨"TakenInTurns$Acts", "note", "(I)V"⟩, 4)) (List.mem_of_getElem? (i := 35) rfl)⟩
theorem f_VM_1 : wI 7 ∈ W0 ∧ wV 7 ∈ W0 := ⟨in_W0 (in_t3 198 rfl) rfl, in_sel (q := (⟨"TakenInTurns$Eating", "choose", "(LTakenInTurns$Giving;)Z"⟩, 4)) (List.mem_of_getElem? (i := 11) rfl)⟩
theorem f_VM_2 : wI 8 ∈ W0 ∧ wV 8 ∈ W0 := ⟨in_W0 (in_t3 203 rfl) rfl, in_sel (q := (⟨"TakenInTurns$Eating", "nextEaten", "(LTakenInTurns$Giving;LTakenInTurns$Shares;)I"⟩, 4)) (List.mem_of_getElem? (i := 12) rfl)⟩
theorem f_VM_3 : wI 9 ∈ W0 ∧ wV 9 ∈ W0 := ⟨in_W0 (in_t3 211 rfl) rfl, in_sel (q := (⟨"TakenInTurns$Eating", "widen", "(LTakenInTurns$Shares;J)V"⟩, 4)) (List.mem_of_getElem? (i := 13) rfl)⟩
theorem f_VM_4 : wI 10 ∈ W0 ∧ wV 10 ∈ W0 := ⟨in_W0 (in_t3 215 rfl) rfl, in_sel (q := (⟨"TakenInTurns$Eating", "pass", "(LTakenInTurns$Giving;LTakenInTurns$Shares;J)V"⟩, 4)) (List.mem_of_getElem? (i := 14) rfl)⟩
theorem f_VM_5 : wI 26 ∈ W0 ∧ wV 26 ∈ W0 := ⟨in_W0 (in_t3 55 rfl) rfl, in_W0 (in_t3 56 rfl) rfl⟩
theorem f_VM_6 : wI 36 ∈ W0 ∧ wV 36 ∈ W0 := ⟨in_W0 (in_t4 185 rfl) rfl, in_W0 (in_t4 186 rfl) rfl⟩
theorem f_VM_7 : wI 16 ∈ W0 ∧ wV 16 ∈ W0 := ⟨in_W0 (in_t4 194 rfl) rfl, in_sel (q := (⟨"TakenInTurns$Evens", "leastOf", "(II)I"⟩, 6)) (List.mem_of_getElem? (i := 32) rfl)⟩
theorem f_VM_8 : wI 21 ∈ W0 ∧ wV 21 ∈ W0 := ⟨in_W0 (in_t2 226 rfl) rfl, in_W0 (in_t2 227 rfl) rfl⟩
theorem f_VM_9 : wI 22 ∈ W0 ∧ wV 22 ∈ W0 := ⟨in_W0 (in_t3 6 rfl) rfl, in_W0 (in_t3 7 rfl) rfl⟩
theorem f_VM_10 : wI 23 ∈ W0 ∧ wV 23 ∈ W0 := ⟨in_W0 (in_t3 21 rfl) rfl, in_W0 (in_t3 22 rfl) rfl⟩
theorem f_VM_11 : wI 27 ∈ W0 ∧ wV 27 ∈ W0 := ⟨in_W0 (in_t4 112 rfl) rfl, in_W0 (in_t4 113 rfl) rfl⟩
theorem f_VM_12 : wI 30 ∈ W0 ∧ wV 30 ∈ W0 := ⟨in_W0 (in_t4 117 rfl) rfl, in_sel (q := (⟨"TakenInTurns$Giving", "hasUnlisted", "(I)Z"⟩, 13)) (List.mem_of_getElem? (i := 26) rfl)⟩
theorem f_VM_13 : wI 28 ∈ W0 ∧ wV 28 ∈ W0 := ⟨in_W0 (in_t4 120 rfl) rfl, in_W0 (in_t4 121 rfl) rfl⟩
theorem f_VM_14 : wI 29 ∈ W0 ∧ wV 29 ∈ W0 := ⟨in_W0 (in_t4 108 rfl) rfl, in_W0 (in_t4 109 rfl) rfl⟩
theorem f_VM_15 : wI 34 ∈ W0 ∧ wV 34 ∈ W0 := ⟨in_W0 (in_t3 92 rfl) rfl, in_sel (q := (⟨"TakenInTurns$Hand", "take", "(LTakenInTurns$Giving;II)V"⟩, 5)) (List.mem_of_getElem? (i := 7) rfl)⟩
theorem f_VM_16 : wI 41 ∈ W0 ∧ wV 41 ∈ W0 := ⟨in_W0 (in_t4 139 rfl) rfl, in_sel (q := (⟨"TakenInTurns$Parting", "measure", "(LTakenInTurns$Giving;I)V"⟩, 10)) (List.mem_of_getElem? (i := 27) rfl)⟩
theorem f_VM_17 : wI 42 ∈ W0 ∧ wV 42 ∈ W0 := ⟨in_W0 (in_t4 146 rfl) rfl, in_sel (q := (⟨"TakenInTurns$Parting", "pickFirst", "(LTakenInTurns$Giving;)Z"⟩, 10)) (List.mem_of_getElem? (i := 28) rfl)⟩
theorem f_VM_18 : wI 45 ∈ W0 ∧ wV 45 ∈ W0 := ⟨in_W0 (in_t4 158 rfl) rfl, in_sel (q := (⟨"TakenInTurns$Parting", "mostOff", "(LTakenInTurns$Giving;)I"⟩, 10)) (List.mem_of_getElem? (i := 31) rfl)⟩
theorem f_VM_19 : wI 43 ∈ W0 ∧ wV 43 ∈ W0 := ⟨in_W0 (in_t4 150 rfl) rfl, in_sel (q := (⟨"TakenInTurns$Parting", "pickFor", "(LTakenInTurns$Giving;I)Z"⟩, 10)) (List.mem_of_getElem? (i := 29) rfl)⟩
theorem f_VM_20 : wI 44 ∈ W0 ∧ wV 44 ∈ W0 := ⟨in_W0 (in_t4 154 rfl) rfl, in_sel (q := (⟨"TakenInTurns$Parting", "canGoOn", "(LTakenInTurns$Giving;I)Z"⟩, 10)) (List.mem_of_getElem? (i := 30) rfl)⟩
theorem f_VM_21 : wI 49 ∈ W0 ∧ wV 49 ∈ W0 := ⟨in_W0 (in_t3 128 rfl) rfl, in_sel (q := (⟨"TakenInTurns$Rings", "findAlone", "(LTakenInTurns$Giving;LTakenInTurns$Hand;)Z"⟩, 4)) (List.mem_of_getElem? (i := 8) rfl)⟩
theorem f_VM_22 : wI 35 ∈ W0 ∧ wV 35 ∈ W0 := ⟨in_W0 (in_t3 104 rfl) rfl, in_W0 (in_t3 105 rfl) rfl⟩
theorem f_VM_23 : wI 33 ∈ W0 ∧ wV 33 ∈ W0 := ⟨in_W0 (in_t3 85 rfl) rfl, in_W0 (in_t3 86 rfl) rfl⟩
theorem f_VM_24 : wI 58 ∈ W0 ∧ wV 58 ∈ W0 := ⟨in_W0 (in_t3 184 rfl) rfl, in_sel (q := (⟨"TakenInTurns$Shares", "addHand", "(LTakenInTurns$Giving;LTakenInTurns$Hand;)V"⟩, 5)) (List.mem_of_getElem? (i := 10) rfl)⟩
theorem f_VM_25 : wI 61 ∈ W0 ∧ wV 61 ∈ W0 := ⟨in_W0 (in_t4 17 rfl) rfl, in_sel (q := (⟨"TakenInTurns$Shares", "dropUnlisted", "(LTakenInTurns$Giving;I)J"⟩, 5)) (List.mem_of_getElem? (i := 21) rfl)⟩
theorem f_VM_26 : wI 62 ∈ W0 ∧ wV 62 ∈ W0 := ⟨in_W0 (in_t4 21 rfl) rfl, in_sel (q := (⟨"TakenInTurns$Shares", "cut", "(IIJ)J"⟩, 5)) (List.mem_of_getElem? (i := 22) rfl)⟩
theorem f_VM_27 : wI 19 ∈ W0 ∧ wV 19 ∈ W0 := ⟨in_W0 (in_t2 219 rfl) rfl, in_W0 (in_t2 220 rfl) rfl⟩
theorem f_VM_28 : wI 73 ∈ W0 ∧ wV 73 ∈ W0 := ⟨in_W0 (in_t2 231 rfl) rfl, in_sel (q := (⟨"TakenInTurns$Tape", "readThings", "(LTakenInTurns$Giving;)Z"⟩, 3)) (List.mem_of_getElem? (i := 0) rfl)⟩
theorem f_VM_29 : wI 74 ∈ W0 ∧ wV 74 ∈ W0 := ⟨in_W0 (in_t2 239 rfl) rfl, in_sel (q := (⟨"TakenInTurns$Tape", "readLists", "(LTakenInTurns$Giving;)Z"⟩, 3)) (List.mem_of_getElem? (i := 2) rfl)⟩
theorem f_VM_30 : wI 75 ∈ W0 ∧ wV 75 ∈ W0 := ⟨in_W0 (in_t3 3 rfl) rfl, in_sel (q := (⟨"TakenInTurns$Tape", "readList", "(LTakenInTurns$Giving;I)Z"⟩, 3)) (List.mem_of_getElem? (i := 3) rfl)⟩
theorem f_VM_31 : wI 72 ∈ W0 ∧ wV 72 ∈ W0 := ⟨in_W0 (in_t2 235 rfl) rfl, in_sel (q := (⟨"TakenInTurns$Tape", "next", "()I"⟩, 3)) (List.mem_of_getElem? (i := 1) rfl)⟩
theorem f_VM_32 : wI 76 ∈ W0 ∧ wV 76 ∈ W0 := ⟨in_W0 (in_t3 11 rfl) rfl, in_sel (q := (⟨"TakenInTurns$Tape", "readHeld", "(LTakenInTurns$Giving;I)Z"⟩, 3)) (List.mem_of_getElem? (i := 4) rfl)⟩
theorem f_VM_33 : wI 25 ∈ W0 ∧ wV 25 ∈ W0 := ⟨in_W0 (in_t3 17 rfl) rfl, in_W0 (in_t3 18 rfl) rfl⟩
theorem f_VM_34 : wI 79 ∈ W0 ∧ wV 79 ∈ W0 := ⟨in_W0 (in_t3 223 rfl) rfl, in_sel (q := (⟨"TakenInTurns$Trade", "pointAll", "(LTakenInTurns$Giving;)Z"⟩, 4)) (List.mem_of_getElem? (i := 15) rfl)⟩
theorem f_VM_35 : wI 81 ∈ W0 ∧ wV 81 ∈ W0 := ⟨in_W0 (in_t3 232 rfl) rfl, in_sel (q := (⟨"TakenInTurns$Trade", "closeRing", "(LTakenInTurns$Giving;)V"⟩, 4)) (List.mem_of_getElem? (i := 17) rfl)⟩
theorem f_VM_36 : wI 83 ∈ W0 ∧ wV 83 ∈ W0 := ⟨in_W0 (in_t4 0 rfl) rfl, in_sel (q := (⟨"TakenInTurns$Trade", "takeRest", "(LTakenInTurns$Giving;)V"⟩, 4)) (List.mem_of_getElem? (i := 19) rfl)⟩
theorem f_VM_37 : wI 80 ∈ W0 ∧ wV 80 ∈ W0 := ⟨in_W0 (in_t3 228 rfl) rfl, in_sel (q := (⟨"TakenInTurns$Trade", "holderOf", "(LTakenInTurns$Giving;II)I"⟩, 4)) (List.mem_of_getElem? (i := 16) rfl)⟩
theorem f_VM_38 : wI 82 ∈ W0 ∧ wV 82 ∈ W0 := ⟨in_W0 (in_t3 236 rfl) rfl, in_sel (q := (⟨"TakenInTurns$Trade", "isInRing", "(LTakenInTurns$Giving;I)Z"⟩, 4)) (List.mem_of_getElem? (i := 18) rfl)⟩
theorem f_VM_39 : wI 84 ∈ W0 ∧ wV 84 ∈ W0 := ⟨in_W0 (in_t4 4 rfl) rfl, in_sel (q := (⟨"TakenInTurns$Trade", "leftOf", "(LTakenInTurns$Giving;)I"⟩, 4)) (List.mem_of_getElem? (i := 20) rfl)⟩
theorem f_VM_40 : wI 69 ∈ W0 ∧ wV 69 ∈ W0 := ⟨in_W0 (in_t2 207 rfl) rfl, in_W0 (in_t2 208 rfl) rfl⟩
theorem f_VM_41 : wI 70 ∈ W0 ∧ wV 70 ∈ W0 := ⟨in_W0 (in_t2 215 rfl) rfl, in_W0 (in_t2 216 rfl) rfl⟩
theorem f_VM_42 : wI 125 ∈ W0 ∧ wV 125 ∈ W0 := ⟨in_W0 (in_t3 30 rfl) rfl, in_sel (q := (⟨"TakenInTurns", "isGiving", "(I)Z"⟩, 19)) (List.mem_of_getElem? (i := 5) rfl)⟩
theorem f_VM_43 : wI 20 ∈ W0 ∧ wV 20 ∈ W0 := ⟨in_W0 (in_t3 63 rfl) rfl, in_W0 (in_t3 64 rfl) rfl⟩
theorem f_VM_44 : wI 71 ∈ W0 ∧ wV 71 ∈ W0 := ⟨in_W0 (in_t3 70 rfl) rfl, in_W0 (in_t3 71 rfl) rfl⟩
theorem f_VM_45 : wI 131 ∈ W0 ∧ wV 131 ∈ W0 := ⟨in_W0 (in_t3 79 rfl) rfl, in_sel (q := (⟨"TakenInTurns", "kindAt", "(I)I"⟩, 19)) (List.mem_of_getElem? (i := 6) rfl)⟩
theorem f_VM_46 : wI 47 ∈ W0 ∧ wV 47 ∈ W0 := ⟨in_W0 (in_t3 96 rfl) rfl, in_W0 (in_t3 97 rfl) rfl⟩
theorem f_VM_47 : wI 48 ∈ W0 ∧ wV 48 ∈ W0 := ⟨in_W0 (in_t3 123 rfl) rfl, in_W0 (in_t3 124 rfl) rfl⟩
theorem f_VM_48 : wI 136 ∈ W0 ∧ wV 136 ∈ W0 := ⟨in_W0 (in_t3 164 rfl) rfl, in_sel (q := (⟨"TakenInTurns", "sharesOf", "(LTakenInTurns$Giving;I)LTakenInTurns$Shares;"⟩, 19)) (List.mem_of_getElem? (i := 9) rfl)⟩
theorem f_VM_49 : wI 132 ∈ W0 ∧ wV 132 ∈ W0 := ⟨in_W0 (in_t4 54 rfl) rfl, in_sel (q := (⟨"TakenInTurns", "isToldWrongly", "(I)Z"⟩, 19)) (List.mem_of_getElem? (i := 23) rfl)⟩
theorem f_VM_50 : wI 137 ∈ W0 ∧ wV 137 ∈ W0 := ⟨in_W0 (in_t4 58 rfl) rfl, in_sel (q := (⟨"TakenInTurns", "compareOtherwise", "(LTakenInTurns$Giving;II)I"⟩, 19)) (List.mem_of_getElem? (i := 24) rfl)⟩
theorem f_VM_51 : wI 135 ∈ W0 ∧ wV 135 ∈ W0 := ⟨in_W0 (in_t4 82 rfl) rfl, in_sel (q := (⟨"TakenInTurns", "forgetTable", "(LTakenInTurns$Giving;)V"⟩, 19)) (List.mem_of_getElem? (i := 25) rfl)⟩
theorem f_VM_52 : wI 66 ∈ W0 ∧ wV 66 ∈ W0 := ⟨in_W0 (in_t4 96 rfl) rfl, in_W0 (in_t4 97 rfl) rfl⟩
theorem f_VM_53 : wI 31 ∈ W0 ∧ wV 31 ∈ W0 := ⟨in_W0 (in_t4 128 rfl) rfl, in_W0 (in_t4 129 rfl) rfl⟩
theorem f_VM_54 : wI 40 ∈ W0 ∧ wV 40 ∈ W0 := ⟨in_W0 (in_t4 133 rfl) rfl, in_W0 (in_t4 134 rfl) rfl⟩
theorem f_VM_55 : wI 12 ∈ W0 ∧ wV 12 ∈ W0 := ⟨in_W0 (in_t4 169 rfl) rfl, in_W0 (in_t4 170 rfl) rfl⟩
theorem f_VM_56 : wI 13 ∈ W0 ∧ wV 13 ∈ W0 := ⟨in_W0 (in_t4 173 rfl) rfl, in_W0 (in_t4 174 rfl) rfl⟩
theorem f_VM_57 : wI 14 ∈ W0 ∧ wV 14 ∈ W0 := ⟨in_W0 (in_t4 181 rfl) rfl, in_W0 (in_t4 182 rfl) rfl⟩
theorem f_VM_58 : wI 15 ∈ W0 ∧ wV 15 ∈ W0 := ⟨in_W0 (in_t4 189 rfl) rfl, in_W0 (in_t4 190 rfl) rfl⟩
theorem f_VM_59 : wI 139 ∈ W0 ∧ wV 139 ∈ W0 := ⟨in_W0 (in_t4 215 rfl) rfl, in_sel (q := (⟨"TakenInTurns", "findSwap", "(LTakenInTurns$Giving;)V"⟩, 19)) (List.mem_of_getElem? (i := 33) rfl)⟩
theorem f_VM_60 : wI 140 ∈ W0 ∧ wV 140 ∈ W0 := ⟨in_W0 (in_t4 234 rfl) rfl, in_sel (q := (⟨"TakenInTurns", "fewestFirst", "(I)V"⟩, 19)) (List.mem_of_getElem? (i := 34) rfl)⟩
theorem f_VM_61 : wI 1 ∈ W0 ∧ wV 1 ∈ W0 := ⟨in_W0 (in_t5 1 rfl) rfl, in_W0 (in_t5 2 rfl) rfl⟩
theorem f_VM_62 : wI 2 ∈ W0 ∧ wV 2 ∈ W0 := ⟨in_W0 (in_t5 5 rfl) rfl, in_W0 (in_t5 6 rfl) rfl⟩
theorem f_VM_63 : wI 64 ∈ W0 ∧ wV 64 ∈ W0 := ⟨in_W0 (in_t5 28 rfl) rfl, in_W0 (in_t5 29 rfl) rfl⟩
theorem f_VM_64 : wI 65 ∈ W0 ∧ wV 65 ∈ W0 := ⟨in_W0 (in_t5 36 rfl) rfl, in_W0 (in_t5 37 rfl) rfl⟩
theorem f_VM_65 : wI 134 ∈ W0 ∧ wV 134 ∈ W0 := ⟨in_W0 (in_t5 46 rfl) rfl, in_sel (q := (⟨"TakenInTurns", "refusalAt", "(II)I"⟩, 19)) (List.mem_of_getElem? (i := 36) rfl)⟩
theorem f_VM_66 : wI 67 ∈ W0 ∧ wV 67 ∈ W0 := ⟨in_W0 (in_t5 49 rfl) rfl, in_W0 (in_t5 50 rfl) rfl⟩
theorem f_VM_67 : wI 39 ∈ W0 ∧ wV 39 ∈ W0 := ⟨in_W0 (in_t4 85 rfl) rfl, in_W0 (in_t4 86 rfl) rfl⟩
theorem f_VM_68 : wI 56 ∈ W0 ∧ wV 56 ∈ W0 := ⟨in_W0 (in_t3 167 rfl) rfl, in_W0 (in_t3 168 rfl) rfl⟩
theorem f_VM_69 : wI 57 ∈ W0 ∧ wV 57 ∈ W0 := ⟨in_W0 (in_t3 174 rfl) rfl, in_W0 (in_t3 175 rfl) rfl⟩
theorem f_VM_70 : wI 6 ∈ W0 ∧ wV 6 ∈ W0 := ⟨in_W0 (in_t3 193 rfl) rfl, in_W0 (in_t3 194 rfl) rfl⟩
theorem f_VM_71 : wI 78 ∈ W0 ∧ wV 78 ∈ W0 := ⟨in_W0 (in_t3 218 rfl) rfl, in_W0 (in_t3 219 rfl) rfl⟩
theorem f_VM_72 : wI 59 ∈ W0 ∧ wV 59 ∈ W0 := ⟨in_W0 (in_t4 7 rfl) rfl, in_W0 (in_t4 8 rfl) rfl⟩
theorem f_VM_73 : wI 60 ∈ W0 ∧ wV 60 ∈ W0 := ⟨in_W0 (in_t4 12 rfl) rfl, in_W0 (in_t4 13 rfl) rfl⟩
theorem f_VM_74 : wI 24 ∈ W0 ∧ wV 24 ∈ W0 := ⟨in_W0 (in_t4 61 rfl) rfl, in_W0 (in_t4 62 rfl) rfl⟩
theorem f_VM_75 : wI 37 ∈ W0 ∧ wV 37 ∈ W0 := ⟨in_W0 (in_t4 219 rfl) rfl, in_W0 (in_t4 220 rfl) rfl⟩
theorem f_VM_76 : wI 149 ∈ W0 ∧ wV 149 ∈ W0 := ⟨in_W0 (in_t6 78 rfl) rfl, in_sel (q := (⟨"TakenInTurnsModel", "isGiving", "(I)Z"⟩, 65)) (List.mem_of_getElem? (i := 43) rfl)⟩
theorem f_VM_77 : wI 153 ∈ W0 ∧ wV 153 ∈ W0 := ⟨in_W0 (in_t6 58 rfl) rfl, in_sel (q := (⟨"TakenInTurnsModel", "here", "()I"⟩, 65)) (List.mem_of_getElem? (i := 39) rfl)⟩
theorem f_VM_78 : wI 155 ∈ W0 ∧ wV 155 ∈ W0 := ⟨in_W0 (in_t6 66 rfl) rfl, in_sel (q := (⟨"TakenInTurnsModel", "heldOf", "(III)I"⟩, 65)) (List.mem_of_getElem? (i := 41) rfl)⟩
theorem f_VM_79 : wI 154 ∈ W0 ∧ wV 154 ∈ W0 := ⟨in_W0 (in_t6 54 rfl) rfl, in_sel (q := (⟨"TakenInTurnsModel", "readsThings", "(I)Z"⟩, 65)) (List.mem_of_getElem? (i := 38) rfl)⟩
theorem f_VM_80 : wI 156 ∈ W0 ∧ wV 156 ∈ W0 := ⟨in_W0 (in_t6 62 rfl) rfl, in_sel (q := (⟨"TakenInTurnsModel", "readsList", "(II)Z"⟩, 65)) (List.mem_of_getElem? (i := 40) rfl)⟩
theorem f_VM_81 : wI 157 ∈ W0 ∧ wV 157 ∈ W0 := ⟨in_W0 (in_t6 50 rfl) rfl, in_sel (q := (⟨"TakenInTurnsModel", "readsGiving", "(I)Z"⟩, 65)) (List.mem_of_getElem? (i := 37) rfl)⟩
theorem f_VM_82 : wI 150 ∈ W0 ∧ wV 150 ∈ W0 := ⟨in_W0 (in_t6 74 rfl) rfl, in_sel (q := (⟨"TakenInTurnsModel", "isPerson", "(II)Z"⟩, 65)) (List.mem_of_getElem? (i := 42) rfl)⟩
theorem f_VM_83 : wI 159 ∈ W0 ∧ wV 159 ∈ W0 := ⟨in_W0 (in_t6 82 rfl) rfl, in_sel (q := (⟨"TakenInTurnsModel", "copies", "(II)V"⟩, 65)) (List.mem_of_getElem? (i := 44) rfl)⟩
theorem f_VM_84 : wI 151 ∈ W0 ∧ wV 151 ∈ W0 := ⟨in_W0 (in_t6 99 rfl) rfl, in_sel (q := (⟨"TakenInTurnsModel", "isThing", "(II)Z"⟩, 65)) (List.mem_of_getElem? (i := 45) rfl)⟩
theorem f_VM_85 : wI 168 ∈ W0 ∧ wV 168 ∈ W0 := ⟨in_W0 (in_t6 127 rfl) rfl, in_sel (q := (⟨"TakenInTurnsModel", "firstLeft", "(II)I"⟩, 65)) (List.mem_of_getElem? (i := 49) rfl)⟩
theorem f_VM_86 : wI 170 ∈ W0 ∧ wV 170 ∈ W0 := ⟨in_W0 (in_t6 115 rfl) rfl, in_sel (q := (⟨"TakenInTurnsModel", "isWay", "(I)Z"⟩, 65)) (List.mem_of_getElem? (i := 46) rfl)⟩
theorem f_VM_87 : wI 166 ∈ W0 ∧ wV 166 ∈ W0 := ⟨in_W0 (in_t6 119 rfl) rfl, in_sel (q := (⟨"TakenInTurnsModel", "isOrder", "(II)Z"⟩, 65)) (List.mem_of_getElem? (i := 47) rfl)⟩
theorem f_VM_88 : wI 169 ∈ W0 ∧ wV 169 ∈ W0 := ⟨in_W0 (in_t6 123 rfl) rfl, in_sel (q := (⟨"TakenInTurnsModel", "runs", "(IZ)V"⟩, 65)) (List.mem_of_getElem? (i := 48) rfl)⟩
theorem f_VM_89 : wI 175 ∈ W0 ∧ wV 175 ∈ W0 := ⟨in_W0 (in_t6 159 rfl) rfl, in_sel (q := (⟨"TakenInTurnsModel", "levelIn", "(II)I"⟩, 65)) (List.mem_of_getElem? (i := 53) rfl)⟩
theorem f_VM_90 : wI 176 ∈ W0 ∧ wV 176 ∈ W0 := ⟨in_W0 (in_t6 155 rfl) rfl, in_sel (q := (⟨"TakenInTurnsModel", "wishes", "(III)Z"⟩, 65)) (List.mem_of_getElem? (i := 52) rfl)⟩
theorem f_VM_91 : wI 178 ∈ W0 ∧ wV 178 ∈ W0 := ⟨in_W0 (in_t6 167 rfl) rfl, in_sel (q := (⟨"TakenInTurnsModel", "findsThings", "(II)Z"⟩, 65)) (List.mem_of_getElem? (i := 55) rfl)⟩
theorem f_VM_92 : wI 179 ∈ W0 ∧ wV 179 ∈ W0 := ⟨in_W0 (in_t6 163 rfl) rfl, in_sel (q := (⟨"TakenInTurnsModel", "findsPeople", "(III)Z"⟩, 65)) (List.mem_of_getElem? (i := 54) rfl)⟩
theorem f_VM_93 : wI 177 ∈ W0 ∧ wV 177 ∈ W0 := ⟨in_W0 (in_t6 151 rfl) rfl, in_sel (q := (⟨"TakenInTurnsModel", "findsOne", "()Z"⟩, 65)) (List.mem_of_getElem? (i := 51) rfl)⟩
theorem f_VM_94 : wI 180 ∈ W0 ∧ wV 180 ∈ W0 := ⟨in_W0 (in_t6 147 rfl) rfl, in_sel (q := (⟨"TakenInTurnsModel", "findsRing", "()V"⟩, 65)) (List.mem_of_getElem? (i := 50) rfl)⟩
theorem f_VM_95 : wI 188 ∈ W0 ∧ wV 188 ∈ W0 := ⟨in_W0 (in_t6 195 rfl) rfl, in_sel (q := (⟨"TakenInTurnsModel", "firstOrder", "(I)V"⟩, 65)) (List.mem_of_getElem? (i := 59) rfl)⟩
theorem f_VM_96 : wI 187 ∈ W0 ∧ wV 187 ∈ W0 := ⟨in_W0 (in_t6 199 rfl) rfl, in_sel (q := (⟨"TakenInTurnsModel", "nextOrder", "(I)Z"⟩, 65)) (List.mem_of_getElem? (i := 60) rfl)⟩
theorem f_VM_97 : wI 186 ∈ W0 ∧ wV 186 ∈ W0 := ⟨in_W0 (in_t6 203 rfl) rfl, in_sel (q := (⟨"TakenInTurnsModel", "puts", "(IJJ)V"⟩, 65)) (List.mem_of_getElem? (i := 61) rfl)⟩
theorem f_VM_98 : wI 191 ∈ W0 ∧ wV 191 ∈ W0 := ⟨in_W0 (in_t6 218 rfl) rfl, in_sel (q := (⟨"TakenInTurnsModel", "firstUneaten", "(II)I"⟩, 65)) (List.mem_of_getElem? (i := 64) rfl)⟩
theorem f_VM_99 : wI 192 ∈ W0 ∧ wV 192 ∈ W0 := ⟨in_W0 (in_t6 214 rfl) rfl, in_sel (q := (⟨"TakenInTurnsModel", "eatNow", "(I)I"⟩, 65)) (List.mem_of_getElem? (i := 63) rfl)⟩
theorem f_VM_100 : wI 190 ∈ W0 ∧ wV 190 ∈ W0 := ⟨in_W0 (in_t6 223 rfl) rfl, in_sel (q := (⟨"TakenInTurnsModel", "adds", "(JJJJ)V"⟩, 65)) (List.mem_of_getElem? (i := 65) rfl)⟩
theorem f_VM_101 : wI 194 ∈ W0 ∧ wV 194 ∈ W0 := ⟨in_W0 (in_t6 236 rfl) rfl, in_sel (q := (⟨"TakenInTurnsModel", "pointOf", "(II)I"⟩, 65)) (List.mem_of_getElem? (i := 68) rfl)⟩
theorem f_VM_102 : wI 195 ∈ W0 ∧ wV 195 ∈ W0 := ⟨in_W0 (in_t6 232 rfl) rfl, in_sel (q := (⟨"TakenInTurnsModel", "endsSome", "(I)Z"⟩, 65)) (List.mem_of_getElem? (i := 67) rfl)⟩
theorem f_VM_103 : wI 196 ∈ W0 ∧ wV 196 ∈ W0 := ⟨in_W0 (in_t7 0 rfl) rfl, in_sel (q := (⟨"TakenInTurnsModel", "endsRing", "(I)Z"⟩, 65)) (List.mem_of_getElem? (i := 69) rfl)⟩
theorem f_VM_104 : wI 202 ∈ W0 ∧ wV 202 ∈ W0 := ⟨in_W0 (in_t7 8 rfl) rfl, in_sel (q := (⟨"TakenInTurnsModel", "mends", "(I)V"⟩, 65)) (List.mem_of_getElem? (i := 71) rfl)⟩
theorem f_VM_105 : wI 199 ∈ W0 ∧ wV 199 ∈ W0 := ⟨in_W0 (in_t7 12 rfl) rfl, in_sel (q := (⟨"TakenInTurnsModel", "sumOf", "(II)I"⟩, 65)) (List.mem_of_getElem? (i := 72) rfl)⟩
theorem f_VM_106 : wI 201 ∈ W0 ∧ wV 201 ∈ W0 := ⟨in_W0 (in_t7 16 rfl) rfl, in_sel (q := (⟨"TakenInTurnsModel", "less", "(II)V"⟩, 65)) (List.mem_of_getElem? (i := 73) rfl)⟩
theorem f_VM_107 : wI 200 ∈ W0 ∧ wV 200 ∈ W0 := ⟨in_W0 (in_t7 20 rfl) rfl, in_sel (q := (⟨"TakenInTurnsModel", "sumOver", "(II)I"⟩, 65)) (List.mem_of_getElem? (i := 74) rfl)⟩
theorem f_VM_108 : wI 185 ∈ W0 ∧ wV 185 ∈ W0 := ⟨in_W0 (in_t6 187 rfl) rfl, in_sel (q := (⟨"TakenInTurnsModel", "clears", "()V"⟩, 65)) (List.mem_of_getElem? (i := 57) rfl)⟩
theorem f_VM_109 : wI 189 ∈ W0 ∧ wV 189 ∈ W0 := ⟨in_W0 (in_t6 191 rfl) rfl, in_sel (q := (⟨"TakenInTurnsModel", "means", "(IZ)V"⟩, 65)) (List.mem_of_getElem? (i := 58) rfl)⟩
theorem f_VM_110 : wI 193 ∈ W0 ∧ wV 193 ∈ W0 := ⟨in_W0 (in_t6 210 rfl) rfl, in_sel (q := (⟨"TakenInTurnsModel", "eating", "(I)V"⟩, 65)) (List.mem_of_getElem? (i := 62) rfl)⟩
theorem f_VM_111 : wI 197 ∈ W0 ∧ wV 197 ∈ W0 := ⟨in_W0 (in_t6 228 rfl) rfl, in_sel (q := (⟨"TakenInTurnsModel", "trades", "(I)V"⟩, 65)) (List.mem_of_getElem? (i := 66) rfl)⟩
theorem f_VM_112 : wI 198 ∈ W0 ∧ wV 198 ∈ W0 := ⟨in_W0 (in_t7 4 rfl) rfl, in_sel (q := (⟨"TakenInTurnsModel", "takesParts", "(IZ)V"⟩, 65)) (List.mem_of_getElem? (i := 70) rfl)⟩
theorem f_VM_113 : wI 203 ∈ W0 ∧ wV 203 ∈ W0 := ⟨in_W0 (in_t6 183 rfl) rfl, in_sel (q := (⟨"TakenInTurnsModel", "shares", "(II)V"⟩, 65)) (List.mem_of_getElem? (i := 56) rfl)⟩
theorem f_VM_114 : wI 206 ∈ W0 ∧ wV 206 ∈ W0 := ⟨in_W0 (in_t7 34 rfl) rfl, in_sel (q := (⟨"TakenInTurnsModel", "keepsRow", "(I)V"⟩, 65)) (List.mem_of_getElem? (i := 75) rfl)⟩
theorem f_VM_115 : wI 207 ∈ W0 ∧ wV 207 ∈ W0 := ⟨in_W0 (in_t7 38 rfl) rfl, in_sel (q := (⟨"TakenInTurnsModel", "against", "(III)I"⟩, 65)) (List.mem_of_getElem? (i := 76) rfl)⟩
theorem f_VM_116 : wI 213 ∈ W0 ∧ wV 213 ∈ W0 := ⟨in_W0 (in_t7 50 rfl) rfl, in_sel (q := (⟨"TakenInTurnsModel", "isLie", "(III)Z"⟩, 65)) (List.mem_of_getElem? (i := 77) rfl)⟩
theorem f_VM_117 : wI 210 ∈ W0 ∧ wV 210 ∈ W0 := ⟨in_W0 (in_t7 54 rfl) rfl, in_sel (q := (⟨"TakenInTurnsModel", "areDigits", "(II)Z"⟩, 65)) (List.mem_of_getElem? (i := 78) rfl)⟩
theorem f_VM_118 : wI 212 ∈ W0 ∧ wV 212 ∈ W0 := ⟨in_W0 (in_t7 58 rfl) rfl, in_sel (q := (⟨"TakenInTurnsModel", "keepsOwn", "(III)Z"⟩, 65)) (List.mem_of_getElem? (i := 79) rfl)⟩
theorem f_VM_119 : wI 211 ∈ W0 ∧ wV 211 ∈ W0 := ⟨in_W0 (in_t7 62 rfl) rfl, in_sel (q := (⟨"TakenInTurnsModel", "tries", "(III)I"⟩, 65)) (List.mem_of_getElem? (i := 80) rfl)⟩
theorem f_VM_120 : wI 215 ∈ W0 ∧ wV 215 ∈ W0 := ⟨in_W0 (in_t7 70 rfl) rfl, in_sel (q := (⟨"TakenInTurnsModel", "triesAll", "(IIIIII)I"⟩, 65)) (List.mem_of_getElem? (i := 81) rfl)⟩
theorem f_VM_121 : wI 219 ∈ W0 ∧ wV 219 ∈ W0 := ⟨in_W0 (in_t7 86 rfl) rfl, in_sel (q := (⟨"TakenInTurnsModel", "barsOf", "(I)I"⟩, 65)) (List.mem_of_getElem? (i := 82) rfl)⟩
theorem f_VM_122 : wI 221 ∈ W0 ∧ wV 221 ∈ W0 := ⟨in_W0 (in_t7 94 rfl) rfl, in_sel (q := (⟨"TakenInTurnsModel", "finds", "(II)Z"⟩, 65)) (List.mem_of_getElem? (i := 83) rfl)⟩
theorem f_VM_123 : wI 222 ∈ W0 ∧ wV 222 ∈ W0 := ⟨in_W0 (in_t7 98 rfl) rfl, in_sel (q := (⟨"TakenInTurnsModel", "most", "(II)I"⟩, 65)) (List.mem_of_getElem? (i := 84) rfl)⟩
theorem f_VM_124 : wI 224 ∈ W0 ∧ wV 224 ∈ W0 := ⟨in_W0 (in_t7 110 rfl) rfl, in_sel (q := (⟨"TakenInTurnsModel", "pointsOf", "(II)I"⟩, 65)) (List.mem_of_getElem? (i := 85) rfl)⟩
theorem f_VM_125 : wI 167 ∈ W0 ∧ wV 167 ∈ W0 := ⟨in_W0 (in_t7 123 rfl) rfl, in_sel (q := (⟨"TakenInTurnsModel", "asDigits", "(I)I"⟩, 65)) (List.mem_of_getElem? (i := 86) rfl)⟩
theorem f_VM_126 : wI 230 ∈ W0 ∧ wV 230 ∈ W0 := ⟨in_W0 (in_t7 139 rfl) rfl, in_sel (q := (⟨"TakenInTurnsModel", "begins", "(I)V"⟩, 65)) (List.mem_of_getElem? (i := 88) rfl)⟩
theorem f_VM_127 : wI 232 ∈ W0 ∧ wV 232 ∈ W0 := ⟨in_W0 (in_t7 135 rfl) rfl, in_sel (q := (⟨"TakenInTurnsModel", "takesFrom", "(III)I"⟩, 65)) (List.mem_of_getElem? (i := 87) rfl)⟩
theorem f_VM_128 : wI 233 ∈ W0 ∧ wV 233 ∈ W0 := ⟨in_W0 (in_t7 146 rfl) rfl, in_sel (q := (⟨"TakenInTurnsModel", "leavesFrom", "(III)I"⟩, 65)) (List.mem_of_getElem? (i := 89) rfl)⟩
theorem f_VM_129 : wI 234 ∈ W0 ∧ wV 234 ∈ W0 := ⟨in_W0 (in_t7 150 rfl) rfl, in_sel (q := (⟨"TakenInTurnsModel", "likesFrom", "(III)I"⟩, 65)) (List.mem_of_getElem? (i := 90) rfl)⟩
theorem f_VM_130 : wI 235 ∈ W0 ∧ wV 235 ∈ W0 := ⟨in_W0 (in_t7 154 rfl) rfl, in_sel (q := (⟨"TakenInTurnsModel", "tellsFrom", "(III)I"⟩, 65)) (List.mem_of_getElem? (i := 91) rfl)⟩
theorem f_VM_131 : wI 241 ∈ W0 ∧ wV 241 ∈ W0 := ⟨in_W0 (in_t7 177 rfl) rfl, in_sel (q := (⟨"TakenInTurnsModel", "barred", "(II)I"⟩, 65)) (List.mem_of_getElem? (i := 92) rfl)⟩
theorem f_VM_132 : wI 86 ∈ W0 ∧ wV 86 ∈ W0 := ⟨in_W0 (in_t2 203 rfl) rfl, in_W0 (in_t2 204 rfl) rfl⟩
theorem f_VM_133 : wI 152 ∈ W0 ∧ wV 152 ∈ W0 := ⟨in_W0 (in_t6 38 rfl) rfl, in_W0 (in_t6 39 rfl) rfl⟩
theorem f_VM_134 : wI 87 ∈ W0 ∧ wV 87 ∈ W0 := ⟨in_W0 (in_t2 211 rfl) rfl, in_W0 (in_t2 212 rfl) rfl⟩
theorem f_VM_135 : wI 158 ∈ W0 ∧ wV 158 ∈ W0 := ⟨in_W0 (in_t6 45 rfl) rfl, in_W0 (in_t6 46 rfl) rfl⟩
theorem f_VM_136 : wI 88 ∈ W0 ∧ wV 88 ∈ W0 := ⟨in_W0 (in_t3 25 rfl) rfl, in_W0 (in_t3 26 rfl) rfl⟩
theorem f_VM_137 : wI 161 ∈ W0 ∧ wV 161 ∈ W0 := ⟨in_W0 (in_t6 85 rfl) rfl, in_W0 (in_t6 86 rfl) rfl⟩
theorem f_VM_138 : wI 89 ∈ W0 ∧ wV 89 ∈ W0 := ⟨in_W0 (in_t3 38 rfl) rfl, in_W0 (in_t3 39 rfl) rfl⟩
theorem f_VM_139 : wI 162 ∈ W0 ∧ wV 162 ∈ W0 := ⟨in_W0 (in_t6 90 rfl) rfl, in_W0 (in_t6 91 rfl) rfl⟩
theorem f_VM_140 : wI 90 ∈ W0 ∧ wV 90 ∈ W0 := ⟨in_W0 (in_t3 43 rfl) rfl, in_W0 (in_t3 44 rfl) rfl⟩
theorem f_VM_141 : wI 163 ∈ W0 ∧ wV 163 ∈ W0 := ⟨in_W0 (in_t6 94 rfl) rfl, in_W0 (in_t6 95 rfl) rfl⟩
theorem f_VM_142 : wI 91 ∈ W0 ∧ wV 91 ∈ W0 := ⟨in_W0 (in_t3 47 rfl) rfl, in_W0 (in_t3 48 rfl) rfl⟩
theorem f_VM_143 : wI 164 ∈ W0 ∧ wV 164 ∈ W0 := ⟨in_W0 (in_t6 102 rfl) rfl, in_W0 (in_t6 103 rfl) rfl⟩
theorem f_VM_144 : wI 92 ∈ W0 ∧ wV 92 ∈ W0 := ⟨in_W0 (in_t3 51 rfl) rfl, in_W0 (in_t3 52 rfl) rfl⟩
theorem f_VM_145 : wI 165 ∈ W0 ∧ wV 165 ∈ W0 := ⟨in_W0 (in_t6 106 rfl) rfl, in_W0 (in_t6 107 rfl) rfl⟩
theorem f_VM_146 : wI 93 ∈ W0 ∧ wV 93 ∈ W0 := ⟨in_W0 (in_t3 59 rfl) rfl, in_W0 (in_t3 60 rfl) rfl⟩
theorem f_VM_147 : wI 160 ∈ W0 ∧ wV 160 ∈ W0 := ⟨in_W0 (in_t6 69 rfl) rfl, in_W0 (in_t6 70 rfl) rfl⟩
theorem f_VM_148 : wI 94 ∈ W0 ∧ wV 94 ∈ W0 := ⟨in_W0 (in_t3 74 rfl) rfl, in_W0 (in_t3 75 rfl) rfl⟩
theorem f_VM_149 : wI 171 ∈ W0 ∧ wV 171 ∈ W0 := ⟨in_W0 (in_t6 110 rfl) rfl, in_W0 (in_t6 111 rfl) rfl⟩
theorem f_VM_150 : wI 95 ∈ W0 ∧ wV 95 ∈ W0 := ⟨in_W0 (in_t3 100 rfl) rfl, in_W0 (in_t3 101 rfl) rfl⟩
theorem f_VM_151 : wI 172 ∈ W0 ∧ wV 172 ∈ W0 := ⟨in_W0 (in_t6 130 rfl) rfl, in_W0 (in_t6 131 rfl) rfl⟩
theorem f_VM_152 : wI 96 ∈ W0 ∧ wV 96 ∈ W0 := ⟨in_W0 (in_t3 108 rfl) rfl, in_W0 (in_t3 109 rfl) rfl⟩
theorem f_VM_153 : wI 173 ∈ W0 ∧ wV 173 ∈ W0 := ⟨in_W0 (in_t6 134 rfl) rfl, in_W0 (in_t6 135 rfl) rfl⟩
theorem f_VM_154 : wI 97 ∈ W0 ∧ wV 97 ∈ W0 := ⟨in_W0 (in_t3 112 rfl) rfl, in_W0 (in_t3 113 rfl) rfl⟩
theorem f_VM_155 : wI 174 ∈ W0 ∧ wV 174 ∈ W0 := ⟨in_W0 (in_t6 138 rfl) rfl, in_W0 (in_t6 139 rfl) rfl⟩
theorem f_VM_156 : wI 98 ∈ W0 ∧ wV 98 ∈ W0 := ⟨in_W0 (in_t3 119 rfl) rfl, in_W0 (in_t3 120 rfl) rfl⟩
theorem f_VM_157 : wI 181 ∈ W0 ∧ wV 181 ∈ W0 := ⟨in_W0 (in_t6 142 rfl) rfl, in_W0 (in_t6 143 rfl) rfl⟩
theorem f_VM_158 : wI 99 ∈ W0 ∧ wV 99 ∈ W0 := ⟨in_W0 (in_t3 147 rfl) rfl, in_W0 (in_t3 148 rfl) rfl⟩
theorem f_VM_159 : wI 182 ∈ W0 ∧ wV 182 ∈ W0 := ⟨in_W0 (in_t6 170 rfl) rfl, in_W0 (in_t6 171 rfl) rfl⟩
theorem f_VM_160 : wI 100 ∈ W0 ∧ wV 100 ∈ W0 := ⟨in_W0 (in_t3 151 rfl) rfl, in_W0 (in_t3 152 rfl) rfl⟩
theorem f_VM_161 : wI 183 ∈ W0 ∧ wV 183 ∈ W0 := ⟨in_W0 (in_t6 174 rfl) rfl, in_W0 (in_t6 175 rfl) rfl⟩
theorem f_VM_162 : wI 101 ∈ W0 ∧ wV 101 ∈ W0 := ⟨in_W0 (in_t3 155 rfl) rfl, in_W0 (in_t3 156 rfl) rfl⟩
theorem f_VM_163 : wI 204 ∈ W0 ∧ wV 204 ∈ W0 := ⟨in_W0 (in_t6 178 rfl) rfl, in_W0 (in_t6 179 rfl) rfl⟩
theorem f_VM_164 : wI 102 ∈ W0 ∧ wV 102 ∈ W0 := ⟨in_W0 (in_t4 34 rfl) rfl, in_W0 (in_t4 35 rfl) rfl⟩
theorem f_VM_165 : wI 205 ∈ W0 ∧ wV 205 ∈ W0 := ⟨in_W0 (in_t7 25 rfl) rfl, in_W0 (in_t7 26 rfl) rfl⟩
theorem f_VM_166 : wI 103 ∈ W0 ∧ wV 103 ∈ W0 := ⟨in_W0 (in_t4 38 rfl) rfl, in_W0 (in_t4 39 rfl) rfl⟩
theorem f_VM_167 : wI 208 ∈ W0 ∧ wV 208 ∈ W0 := ⟨in_W0 (in_t7 29 rfl) rfl, in_W0 (in_t7 30 rfl) rfl⟩
theorem f_VM_168 : wI 104 ∈ W0 ∧ wV 104 ∈ W0 := ⟨in_W0 (in_t4 45 rfl) rfl, in_W0 (in_t4 46 rfl) rfl⟩
theorem f_VM_169 : wI 209 ∈ W0 ∧ wV 209 ∈ W0 := ⟨in_W0 (in_t7 41 rfl) rfl, in_W0 (in_t7 42 rfl) rfl⟩
theorem f_VM_170 : wI 105 ∈ W0 ∧ wV 105 ∈ W0 := ⟨in_W0 (in_t4 49 rfl) rfl, in_W0 (in_t4 50 rfl) rfl⟩
theorem f_VM_171 : wI 214 ∈ W0 ∧ wV 214 ∈ W0 := ⟨in_W0 (in_t7 45 rfl) rfl, in_W0 (in_t7 46 rfl) rfl⟩
theorem f_VM_172 : wI 106 ∈ W0 ∧ wV 106 ∈ W0 := ⟨in_W0 (in_t4 67 rfl) rfl, in_W0 (in_t4 68 rfl) rfl⟩
theorem f_VM_173 : wI 216 ∈ W0 ∧ wV 216 ∈ W0 := ⟨in_W0 (in_t7 65 rfl) rfl, in_W0 (in_t7 66 rfl) rfl⟩
theorem f_VM_174 : wI 107 ∈ W0 ∧ wV 107 ∈ W0 := ⟨in_W0 (in_t4 77 rfl) rfl, in_W0 (in_t4 78 rfl) rfl⟩
theorem f_VM_175 : wI 217 ∈ W0 ∧ wV 217 ∈ W0 := ⟨in_W0 (in_t7 73 rfl) rfl, in_W0 (in_t7 74 rfl) rfl⟩
theorem f_VM_176 : wI 108 ∈ W0 ∧ wV 108 ∈ W0 := ⟨in_W0 (in_t4 89 rfl) rfl, in_W0 (in_t4 90 rfl) rfl⟩
theorem f_VM_177 : wI 218 ∈ W0 ∧ wV 218 ∈ W0 := ⟨in_W0 (in_t7 77 rfl) rfl, in_W0 (in_t7 78 rfl) rfl⟩
theorem f_VM_178 : wI 109 ∈ W0 ∧ wV 109 ∈ W0 := ⟨in_W0 (in_t4 104 rfl) rfl, in_W0 (in_t4 105 rfl) rfl⟩
theorem f_VM_179 : wI 220 ∈ W0 ∧ wV 220 ∈ W0 := ⟨in_W0 (in_t7 81 rfl) rfl, in_W0 (in_t7 82 rfl) rfl⟩
theorem f_VM_180 : wI 110 ∈ W0 ∧ wV 110 ∈ W0 := ⟨in_W0 (in_t4 124 rfl) rfl, in_W0 (in_t4 125 rfl) rfl⟩
theorem f_VM_181 : wI 223 ∈ W0 ∧ wV 223 ∈ W0 := ⟨in_W0 (in_t7 89 rfl) rfl, in_W0 (in_t7 90 rfl) rfl⟩
theorem f_VM_182 : wI 111 ∈ W0 ∧ wV 111 ∈ W0 := ⟨in_W0 (in_t4 165 rfl) rfl, in_W0 (in_t4 166 rfl) rfl⟩
theorem f_VM_183 : wI 225 ∈ W0 ∧ wV 225 ∈ W0 := ⟨in_W0 (in_t7 101 rfl) rfl, in_W0 (in_t7 102 rfl) rfl⟩
theorem f_VM_184 : wI 112 ∈ W0 ∧ wV 112 ∈ W0 := ⟨in_W0 (in_t4 177 rfl) rfl, in_W0 (in_t4 178 rfl) rfl⟩
theorem f_VM_185 : wI 226 ∈ W0 ∧ wV 226 ∈ W0 := ⟨in_W0 (in_t7 105 rfl) rfl, in_W0 (in_t7 106 rfl) rfl⟩
theorem f_VM_186 : wI 113 ∈ W0 ∧ wV 113 ∈ W0 := ⟨in_W0 (in_t4 206 rfl) rfl, in_W0 (in_t4 207 rfl) rfl⟩
theorem f_VM_187 : wI 227 ∈ W0 ∧ wV 227 ∈ W0 := ⟨in_W0 (in_t7 114 rfl) rfl, in_W0 (in_t7 115 rfl) rfl⟩
theorem f_VM_188 : wI 114 ∈ W0 ∧ wV 114 ∈ W0 := ⟨in_W0 (in_t4 210 rfl) rfl, in_W0 (in_t4 211 rfl) rfl⟩
theorem f_VM_189 : wI 228 ∈ W0 ∧ wV 228 ∈ W0 := ⟨in_W0 (in_t7 118 rfl) rfl, in_W0 (in_t7 119 rfl) rfl⟩
theorem f_VM_190 : wI 115 ∈ W0 ∧ wV 115 ∈ W0 := ⟨in_W0 (in_t4 227 rfl) rfl, in_W0 (in_t4 228 rfl) rfl⟩
theorem f_VM_191 : wI 229 ∈ W0 ∧ wV 229 ∈ W0 := ⟨in_W0 (in_t7 126 rfl) rfl, in_W0 (in_t7 127 rfl) rfl⟩
theorem f_VM_192 : wI 116 ∈ W0 ∧ wV 116 ∈ W0 := ⟨in_W0 (in_t4 237 rfl) rfl, in_W0 (in_t4 238 rfl) rfl⟩
theorem f_VM_193 : wI 236 ∈ W0 ∧ wV 236 ∈ W0 := ⟨in_W0 (in_t7 130 rfl) rfl, in_W0 (in_t7 131 rfl) rfl⟩
theorem f_VM_194 : wI 117 ∈ W0 ∧ wV 117 ∈ W0 := ⟨in_W0 (in_t5 20 rfl) rfl, in_W0 (in_t5 21 rfl) rfl⟩
theorem f_VM_195 : wI 237 ∈ W0 ∧ wV 237 ∈ W0 := ⟨in_W0 (in_t7 157 rfl) rfl, in_W0 (in_t7 158 rfl) rfl⟩
theorem f_VM_196 : wI 118 ∈ W0 ∧ wV 118 ∈ W0 := ⟨in_W0 (in_t5 24 rfl) rfl, in_W0 (in_t5 25 rfl) rfl⟩
theorem f_VM_197 : wI 239 ∈ W0 ∧ wV 239 ∈ W0 := ⟨in_W0 (in_t7 161 rfl) rfl, in_W0 (in_t7 162 rfl) rfl⟩
theorem f_VM_198 : wI 119 ∈ W0 ∧ wV 119 ∈ W0 := ⟨in_W0 (in_t5 32 rfl) rfl, in_W0 (in_t5 33 rfl) rfl⟩
theorem f_VM_199 : wI 240 ∈ W0 ∧ wV 240 ∈ W0 := ⟨in_W0 (in_t7 168 rfl) rfl, in_W0 (in_t7 169 rfl) rfl⟩
theorem f_VM_200 : wI 120 ∈ W0 ∧ wV 120 ∈ W0 := ⟨in_W0 (in_t5 41 rfl) rfl, in_W0 (in_t5 42 rfl) rfl⟩
theorem f_VM_201 : wI 242 ∈ W0 ∧ wV 242 ∈ W0 := ⟨in_W0 (in_t7 172 rfl) rfl, in_W0 (in_t7 173 rfl) rfl⟩
theorem f_VM_202 : wI 121 ∈ W0 ∧ wV 121 ∈ W0 := ⟨in_W0 (in_t5 53 rfl) rfl, in_W0 (in_t5 54 rfl) rfl⟩
theorem f_VM_203 : wI 243 ∈ W0 ∧ wV 243 ∈ W0 := ⟨in_W0 (in_t7 180 rfl) rfl, in_W0 (in_t7 181 rfl) rfl⟩
theorem f_VM_204 : wI 122 ∈ W0 ∧ wV 122 ∈ W0 := ⟨in_W0 (in_t5 58 rfl) rfl, in_W0 (in_t5 59 rfl) rfl⟩
theorem f_VM_205 : wI 244 ∈ W0 ∧ wV 244 ∈ W0 := ⟨in_W0 (in_t7 185 rfl) rfl, in_W0 (in_t7 186 rfl) rfl⟩
theorem f_VM_206 : wI 123 ∈ W0 ∧ wV 123 ∈ W0 := ⟨in_W0 (in_t5 63 rfl) rfl, in_W0 (in_t5 64 rfl) rfl⟩
theorem f_VM_207 : wI 245 ∈ W0 ∧ wV 245 ∈ W0 := ⟨in_W0 (in_t7 189 rfl) rfl, in_W0 (in_t7 190 rfl) rfl⟩
theorem f_VM_208 : wI 124 ∈ W0 ∧ wV 124 ∈ W0 := ⟨in_W0 (in_t5 71 rfl) rfl, in_W0 (in_t5 72 rfl) rfl⟩
theorem f_VM_209 : wI 246 ∈ W0 ∧ wV 246 ∈ W0 := ⟨in_W0 (in_t7 193 rfl) rfl, in_W0 (in_t7 194 rfl) rfl⟩
theorem VM_ok_nil : ∀ q ∈ ([] : List Nat), wI q ∈ W0 ∧ wV q ∈ W0 := fun _ h => absurd h List.not_mem_nil
set_option maxRecDepth 100000 in
theorem VM_ok : ∀ q ∈ LVM, wI q ∈ W0 ∧ wV q ∈ W0 := List.forall_mem_cons.mpr ⟨f_VM_0, List.forall_mem_cons.mpr ⟨f_VM_1, List.forall_mem_cons.mpr ⟨f_VM_2, List.forall_mem_cons.mpr ⟨f_VM_3, List.forall_mem_cons.mpr ⟨f_VM_4, List.forall_mem_cons.mpr ⟨f_VM_5, List.forall_mem_cons.mpr ⟨f_VM_6, List.forall_mem_cons.mpr ⟨f_VM_7, List.forall_mem_cons.mpr ⟨f_VM_8, List.forall_mem_cons.mpr ⟨f_VM_9, List.forall_mem_cons.mpr ⟨f_VM_10, List.forall_mem_cons.mpr ⟨f_VM_11, List.forall_mem_cons.mpr ⟨f_VM_12, List.forall_mem_cons.mpr ⟨f_VM_13, List.forall_mem_cons.mpr ⟨f_VM_14, List.forall_mem_cons.mpr ⟨f_VM_15, List.forall_mem_cons.mpr ⟨f_VM_16, List.forall_mem_cons.mpr ⟨f_VM_17, List.forall_mem_cons.mpr ⟨f_VM_18, List.forall_mem_cons.mpr ⟨f_VM_19, List.forall_mem_cons.mpr ⟨f_VM_20, List.forall_mem_cons.mpr ⟨f_VM_21, List.forall_mem_cons.mpr ⟨f_VM_22, List.forall_mem_cons.mpr ⟨f_VM_23, List.forall_mem_cons.mpr ⟨f_VM_24, List.forall_mem_cons.mpr ⟨f_VM_25, List.forall_mem_cons.mpr ⟨f_VM_26, List.forall_mem_cons.mpr ⟨f_VM_27, List.forall_mem_cons.mpr ⟨f_VM_28, List.forall_mem_cons.mpr ⟨f_VM_29, List.forall_mem_cons.mpr ⟨f_VM_30, List.forall_mem_cons.mpr ⟨f_VM_31, List.forall_mem_cons.mpr ⟨f_VM_32, List.forall_mem_cons.mpr ⟨f_VM_33, List.forall_mem_cons.mpr ⟨f_VM_34, List.forall_mem_cons.mpr ⟨f_VM_35, List.forall_mem_cons.mpr ⟨f_VM_36, List.forall_mem_cons.mpr ⟨f_VM_37, List.forall_mem_cons.mpr ⟨f_VM_38, List.forall_mem_cons.mpr ⟨f_VM_39, List.forall_mem_cons.mpr ⟨f_VM_40, List.forall_mem_cons.mpr ⟨f_VM_41, List.forall_mem_cons.mpr ⟨f_VM_42, List.forall_mem_cons.mpr ⟨f_VM_43, List.forall_mem_cons.mpr ⟨f_VM_44, List.forall_mem_cons.mpr ⟨f_VM_45, List.forall_mem_cons.mpr ⟨f_VM_46, List.forall_mem_cons.mpr ⟨f_VM_47, List.forall_mem_cons.mpr ⟨f_VM_48, List.forall_mem_cons.mpr ⟨f_VM_49, List.forall_mem_cons.mpr ⟨f_VM_50, List.forall_mem_cons.mpr ⟨f_VM_51, List.forall_mem_cons.mpr ⟨f_VM_52, List.forall_mem_cons.mpr ⟨f_VM_53, List.forall_mem_cons.mpr ⟨f_VM_54, List.forall_mem_cons.mpr ⟨f_VM_55, List.forall_mem_cons.mpr ⟨f_VM_56, List.forall_mem_cons.mpr ⟨f_VM_57, List.forall_mem_cons.mpr ⟨f_VM_58, List.forall_mem_cons.mpr ⟨f_VM_59, List.forall_mem_cons.mpr ⟨f_VM_60, List.forall_mem_cons.mpr ⟨f_VM_61, List.forall_mem_cons.mpr ⟨f_VM_62, List.forall_mem_cons.mpr ⟨f_VM_63, List.forall_mem_cons.mpr ⟨f_VM_64, List.forall_mem_cons.mpr ⟨f_VM_65, List.forall_mem_cons.mpr ⟨f_VM_66, List.forall_mem_cons.mpr ⟨f_VM_67, List.forall_mem_cons.mpr ⟨f_VM_68, List.forall_mem_cons.mpr ⟨f_VM_69, List.forall_mem_cons.mpr ⟨f_VM_70, List.forall_mem_cons.mpr ⟨f_VM_71, List.forall_mem_cons.mpr ⟨f_VM_72, List.forall_mem_cons.mpr ⟨f_VM_73, List.forall_mem_cons.mpr ⟨f_VM_74, List.forall_mem_cons.mpr ⟨f_VM_75, List.forall_mem_cons.mpr ⟨f_VM_76, List.forall_mem_cons.mpr ⟨f_VM_77, List.forall_mem_cons.mpr ⟨f_VM_78, List.forall_mem_cons.mpr ⟨f_VM_79, List.forall_mem_cons.mpr ⟨f_VM_80, List.forall_mem_cons.mpr ⟨f_VM_81, List.forall_mem_cons.mpr ⟨f_VM_82, List.forall_mem_cons.mpr ⟨f_VM_83, List.forall_mem_cons.mpr ⟨f_VM_84, List.forall_mem_cons.mpr ⟨f_VM_85, List.forall_mem_cons.mpr ⟨f_VM_86, List.forall_mem_cons.mpr ⟨f_VM_87, List.forall_mem_cons.mpr ⟨f_VM_88, List.forall_mem_cons.mpr ⟨f_VM_89, List.forall_mem_cons.mpr ⟨f_VM_90, List.forall_mem_cons.mpr ⟨f_VM_91, List.forall_mem_cons.mpr ⟨f_VM_92, List.forall_mem_cons.mpr ⟨f_VM_93, List.forall_mem_cons.mpr ⟨f_VM_94, List.forall_mem_cons.mpr ⟨f_VM_95, List.forall_mem_cons.mpr ⟨f_VM_96, List.forall_mem_cons.mpr ⟨f_VM_97, List.forall_mem_cons.mpr ⟨f_VM_98, List.forall_mem_cons.mpr ⟨f_VM_99, List.forall_mem_cons.mpr ⟨f_VM_100, List.forall_mem_cons.mpr ⟨f_VM_101, List.forall_mem_cons.mpr ⟨f_VM_102, List.forall_mem_cons.mpr ⟨f_VM_103, List.forall_mem_cons.mpr ⟨f_VM_104, List.forall_mem_cons.mpr ⟨f_VM_105, List.forall_mem_cons.mpr ⟨f_VM_106, List.forall_mem_cons.mpr ⟨f_VM_107, List.forall_mem_cons.mpr ⟨f_VM_108, List.forall_mem_cons.mpr ⟨f_VM_109, List.forall_mem_cons.mpr ⟨f_VM_110, List.forall_mem_cons.mpr ⟨f_VM_111, List.forall_mem_cons.mpr ⟨f_VM_112, List.forall_mem_cons.mpr ⟨f_VM_113, List.forall_mem_cons.mpr ⟨f_VM_114, List.forall_mem_cons.mpr ⟨f_VM_115, List.forall_mem_cons.mpr ⟨f_VM_116, List.forall_mem_cons.mpr ⟨f_VM_117, List.forall_mem_cons.mpr ⟨f_VM_118, List.forall_mem_cons.mpr ⟨f_VM_119, List.forall_mem_cons.mpr ⟨f_VM_120, List.forall_mem_cons.mpr ⟨f_VM_121, List.forall_mem_cons.mpr ⟨f_VM_122, List.forall_mem_cons.mpr ⟨f_VM_123, List.forall_mem_cons.mpr ⟨f_VM_124, List.forall_mem_cons.mpr ⟨f_VM_125, List.forall_mem_cons.mpr ⟨f_VM_126, List.forall_mem_cons.mpr ⟨f_VM_127, List.forall_mem_cons.mpr ⟨f_VM_128, List.forall_mem_cons.mpr ⟨f_VM_129, List.forall_mem_cons.mpr ⟨f_VM_130, List.forall_mem_cons.mpr ⟨f_VM_131, List.forall_mem_cons.mpr ⟨f_VM_132, List.forall_mem_cons.mpr ⟨f_VM_133, List.forall_mem_cons.mpr ⟨f_VM_134, List.forall_mem_cons.mpr ⟨f_VM_135, List.forall_mem_cons.mpr ⟨f_VM_136, List.forall_mem_cons.mpr ⟨f_VM_137, List.forall_mem_cons.mpr ⟨f_VM_138, List.forall_mem_cons.mpr ⟨f_VM_139, List.forall_mem_cons.mpr ⟨f_VM_140, List.forall_mem_cons.mpr ⟨f_VM_141, List.forall_mem_cons.mpr ⟨f_VM_142, List.forall_mem_cons.mpr ⟨f_VM_143, List.forall_mem_cons.mpr ⟨f_VM_144, List.forall_mem_cons.mpr ⟨f_VM_145, List.forall_mem_cons.mpr ⟨f_VM_146, List.forall_mem_cons.mpr ⟨f_VM_147, List.forall_mem_cons.mpr ⟨f_VM_148, List.forall_mem_cons.mpr ⟨f_VM_149, List.forall_mem_cons.mpr ⟨f_VM_150, List.forall_mem_cons.mpr ⟨f_VM_151, List.forall_mem_cons.mpr ⟨f_VM_152, List.forall_mem_cons.mpr ⟨f_VM_153, List.forall_mem_cons.mpr ⟨f_VM_154, List.forall_mem_cons.mpr ⟨f_VM_155, List.forall_mem_cons.mpr ⟨f_VM_156, List.forall_mem_cons.mpr ⟨f_VM_157, List.forall_mem_cons.mpr ⟨f_VM_158, List.forall_mem_cons.mpr ⟨f_VM_159, List.forall_mem_cons.mpr ⟨f_VM_160, List.forall_mem_cons.mpr ⟨f_VM_161, List.forall_mem_cons.mpr ⟨f_VM_162, List.forall_mem_cons.mpr ⟨f_VM_163, List.forall_mem_cons.mpr ⟨f_VM_164, List.forall_mem_cons.mpr ⟨f_VM_165, List.forall_mem_cons.mpr ⟨f_VM_166, List.forall_mem_cons.mpr ⟨f_VM_167, List.forall_mem_cons.mpr ⟨f_VM_168, List.forall_mem_cons.mpr ⟨f_VM_169, List.forall_mem_cons.mpr ⟨f_VM_170, List.forall_mem_cons.mpr ⟨f_VM_171, List.forall_mem_cons.mpr ⟨f_VM_172, List.forall_mem_cons.mpr ⟨f_VM_173, List.forall_mem_cons.mpr ⟨f_VM_174, List.forall_mem_cons.mpr ⟨f_VM_175, List.forall_mem_cons.mpr ⟨f_VM_176, List.forall_mem_cons.mpr ⟨f_VM_177, List.forall_mem_cons.mpr ⟨f_VM_178, List.forall_mem_cons.mpr ⟨f_VM_179, List.forall_mem_cons.mpr ⟨f_VM_180, List.forall_mem_cons.mpr ⟨f_VM_181, List.forall_mem_cons.mpr ⟨f_VM_182, List.forall_mem_cons.mpr ⟨f_VM_183, List.forall_mem_cons.mpr ⟨f_VM_184, List.forall_mem_cons.mpr ⟨f_VM_185, List.forall_mem_cons.mpr ⟨f_VM_186, List.forall_mem_cons.mpr ⟨f_VM_187, List.forall_mem_cons.mpr ⟨f_VM_188, List.forall_mem_cons.mpr ⟨f_VM_189, List.forall_mem_cons.mpr ⟨f_VM_190, List.forall_mem_cons.mpr ⟨f_VM_191, List.forall_mem_cons.mpr ⟨f_VM_192, List.forall_mem_cons.mpr ⟨f_VM_193, List.forall_mem_cons.mpr ⟨f_VM_194, List.forall_mem_cons.mpr ⟨f_VM_195, List.forall_mem_cons.mpr ⟨f_VM_196, List.forall_mem_cons.mpr ⟨f_VM_197, List.forall_mem_cons.mpr ⟨f_VM_198, List.forall_mem_cons.mpr ⟨f_VM_199, List.forall_mem_cons.mpr ⟨f_VM_200, List.forall_mem_cons.mpr ⟨f_VM_201, List.forall_mem_cons.mpr ⟨f_VM_202, List.forall_mem_cons.mpr ⟨f_VM_203, List.forall_mem_cons.mpr ⟨f_VM_204, List.forall_mem_cons.mpr ⟨f_VM_205, List.forall_mem_cons.mpr ⟨f_VM_206, List.forall_mem_cons.mpr ⟨f_VM_207, List.forall_mem_cons.mpr ⟨f_VM_208, List.forall_mem_cons.mpr ⟨f_VM_209, VM_ok_nil⟩⟩⟩⟩⟩⟩⟩⟩⟩⟩⟩⟩⟩⟩⟩⟩⟩⟩⟩⟩⟩⟩⟩⟩⟩⟩⟩⟩⟩⟩⟩⟩⟩⟩⟩⟩⟩⟩⟩⟩⟩⟩⟩⟩⟩⟩⟩⟩⟩⟩⟩⟩⟩⟩⟩⟩⟩⟩⟩⟩⟩⟩⟩⟩⟩⟩⟩⟩⟩⟩⟩⟩⟩⟩⟩⟩⟩⟩⟩⟩⟩⟩⟩⟩⟩⟩⟩⟩⟩⟩⟩⟩⟩⟩⟩⟩⟩⟩⟩⟩⟩⟩⟩⟩⟩⟩⟩⟩⟩⟩⟩⟩⟩⟩⟩⟩⟩⟩⟩⟩⟩⟩⟩⟩⟩⟩⟩⟩⟩⟩⟩⟩⟩⟩⟩⟩⟩⟩⟩⟩⟩⟩⟩⟩⟩⟩⟩⟩⟩⟩⟩⟩⟩⟩⟩⟩⟩⟩⟩⟩⟩⟩⟩⟩⟩⟩⟩⟩⟩⟩⟩⟩⟩⟩⟩⟩⟩⟩⟩⟩⟩⟩⟩⟩⟩⟩⟩⟩⟩⟩⟩⟩⟩⟩⟩⟩⟩⟩⟩⟩⟩⟩⟩⟩⟩⟩⟩⟩⟩⟩
theorem f_IM_0 : wI 55 ∈ W0 ∧ (mN (callee 55)).name = "<init>" := ⟨in_W0 (in_t1 58 rfl) rfl, rfl⟩
theorem f_IM_1 : wI 68 ∈ W0 ∧ (mN (callee 68)).name = "<init>" := ⟨in_W0 (in_t1 29 rfl) rfl, rfl⟩
theorem f_IM_2 : wI 17 ∈ W0 ∧ (mN (callee 17)).name = "<init>" := ⟨in_W0 (in_t1 49 rfl) rfl, rfl⟩
theorem f_IM_3 : wI 32 ∈ W0 ∧ (mN (callee 32)).name = "<init>" := ⟨in_W0 (in_t1 176 rfl) rfl, rfl⟩
theorem f_IM_4 : wI 46 ∈ W0 ∧ (mN (callee 46)).name = "<init>" := ⟨in_W0 (in_t1 206 rfl) rfl, rfl⟩
theorem f_IM_5 : wI 5 ∈ W0 ∧ (mN (callee 5)).name = "<init>" := ⟨in_W0 (in_t1 228 rfl) rfl, rfl⟩
theorem f_IM_6 : wI 77 ∈ W0 ∧ (mN (callee 77)).name = "<init>" := ⟨in_W0 (in_t2 7 rfl) rfl, rfl⟩
theorem f_IM_7 : wI 38 ∈ W0 ∧ (mN (callee 38)).name = "<init>" := ⟨in_W0 (in_t2 27 rfl) rfl, rfl⟩
theorem f_IM_8 : wI 11 ∈ W0 ∧ (mN (callee 11)).name = "<init>" := ⟨in_W0 (in_t2 68 rfl) rfl, rfl⟩
theorem f_IM_9 : wI 0 ∈ W0 ∧ (mN (callee 0)).name = "<init>" := ⟨in_W0 (in_t2 99 rfl) rfl, rfl⟩
theorem f_IM_10 : wI 63 ∈ W0 ∧ (mN (callee 63)).name = "<init>" := ⟨in_W0 (in_t2 121 rfl) rfl, rfl⟩
theorem f_IM_11 : wI 85 ∈ W0 ∧ (mN (callee 85)).name = "<init>" := ⟨in_W0 (in_t1 21 rfl) rfl, rfl⟩
theorem f_IM_12 : wI 147 ∈ W0 ∧ (mN (callee 147)).name = "<init>" := ⟨in_W0 (in_t5 77 rfl) rfl, rfl⟩
theorem IM_ok_nil : ∀ q ∈ ([] : List Nat), wI q ∈ W0 ∧ (mN (callee q)).name = "<init>" := fun _ h => absurd h List.not_mem_nil
set_option maxRecDepth 100000 in
theorem IM_ok : ∀ q ∈ LIM, wI q ∈ W0 ∧ (mN (callee q)).name = "<init>" := List.forall_mem_cons.mpr ⟨f_IM_0, List.forall_mem_cons.mpr ⟨f_IM_1, List.forall_mem_cons.mpr ⟨f_IM_2, List.forall_mem_cons.mpr ⟨f_IM_3, List.forall_mem_cons.mpr ⟨f_IM_4, List.forall_mem_cons.mpr ⟨f_IM_5, List.forall_mem_cons.mpr ⟨f_IM_6, List.forall_mem_cons.mpr ⟨f_IM_7, List.forall_mem_cons.mpr ⟨f_IM_8, List.forall_mem_cons.mpr ⟨f_IM_9, List.forall_mem_cons.mpr ⟨f_IM_10, List.forall_mem_cons.mpr ⟨f_IM_11, List.forall_mem_cons.mpr ⟨f_IM_12, IM_ok_nil⟩⟩⟩⟩⟩⟩⟩⟩⟩⟩⟩⟩⟩
theorem f_NM_0 : ∃ host, (ownNm 2, 48, mN (callee 146), host) ∈ nestM := ⟨"TakenInTurns", List.mem_of_getElem? (i := 14) rfl⟩
theorem f_NM_1 : ∃ host, (ownNm 3, 38, mN (callee 55), host) ∈ nestM := ⟨"TakenInTurns", List.mem_of_getElem? (i := 1) rfl⟩
theorem f_NM_2 : ∃ host, (ownNm 5, 76, mN (callee 142), host) ∈ nestM := ⟨"TakenInTurns", List.mem_of_getElem? (i := 13) rfl⟩
theorem f_NM_3 : ∃ host, (ownNm 7, 38, mN (callee 143), host) ∈ nestM := ⟨"TakenInTurns", List.mem_of_getElem? (i := 11) rfl⟩
theorem f_NM_4 : ∃ host, (ownNm 7, 53, mN (callee 144), host) ∈ nestM := ⟨"TakenInTurns", List.mem_of_getElem? (i := 12) rfl⟩
theorem f_NM_5 : ∃ host, (ownNm 9, 58, mN (callee 127), host) ∈ nestM := ⟨"TakenInTurns", List.mem_of_getElem? (i := 10) rfl⟩
theorem f_NM_6 : ∃ host, (ownNm 11, 11, mN (callee 68), host) ∈ nestM := ⟨"TakenInTurns", List.mem_of_getElem? (i := 0) rfl⟩
theorem f_NM_7 : ∃ host, (ownNm 11, 33, mN (callee 32), host) ∈ nestM := ⟨"TakenInTurns", List.mem_of_getElem? (i := 2) rfl⟩
theorem f_NM_8 : ∃ host, (ownNm 11, 40, mN (callee 46), host) ∈ nestM := ⟨"TakenInTurns", List.mem_of_getElem? (i := 3) rfl⟩
theorem f_NM_9 : ∃ host, (ownNm 11, 60, mN (callee 5), host) ∈ nestM := ⟨"TakenInTurns", List.mem_of_getElem? (i := 4) rfl⟩
theorem f_NM_10 : ∃ host, (ownNm 11, 67, mN (callee 77), host) ∈ nestM := ⟨"TakenInTurns", List.mem_of_getElem? (i := 5) rfl⟩
theorem f_NM_11 : ∃ host, (ownNm 11, 74, mN (callee 38), host) ∈ nestM := ⟨"TakenInTurns", List.mem_of_getElem? (i := 6) rfl⟩
theorem f_NM_12 : ∃ host, (ownNm 11, 81, mN (callee 11), host) ∈ nestM := ⟨"TakenInTurns", List.mem_of_getElem? (i := 7) rfl⟩
theorem f_NM_13 : ∃ host, (ownNm 11, 88, mN (callee 0), host) ∈ nestM := ⟨"TakenInTurns", List.mem_of_getElem? (i := 8) rfl⟩
theorem f_NM_14 : ∃ host, (ownNm 11, 99, mN (callee 63), host) ∈ nestM := ⟨"TakenInTurns", List.mem_of_getElem? (i := 9) rfl⟩
theorem NM_ok_nil : ∀ q ∈ ([] : List (Nat × Nat × Nat)), ∃ host, (ownNm q.1, q.2.1, mN (callee q.2.2), host) ∈ nestM := fun _ h => absurd h List.not_mem_nil
set_option maxRecDepth 100000 in
theorem NM_ok : ∀ q ∈ LNM, ∃ host, (ownNm q.1, q.2.1, mN (callee q.2.2), host) ∈ nestM := List.forall_mem_cons.mpr ⟨f_NM_0, List.forall_mem_cons.mpr ⟨f_NM_1, List.forall_mem_cons.mpr ⟨f_NM_2, List.forall_mem_cons.mpr ⟨f_NM_3, List.forall_mem_cons.mpr ⟨f_NM_4, List.forall_mem_cons.mpr ⟨f_NM_5, List.forall_mem_cons.mpr ⟨f_NM_6, List.forall_mem_cons.mpr ⟨f_NM_7, List.forall_mem_cons.mpr ⟨f_NM_8, List.forall_mem_cons.mpr ⟨f_NM_9, List.forall_mem_cons.mpr ⟨f_NM_10, List.forall_mem_cons.mpr ⟨f_NM_11, List.forall_mem_cons.mpr ⟨f_NM_12, List.forall_mem_cons.mpr ⟨f_NM_13, List.forall_mem_cons.mpr ⟨f_NM_14, NM_ok_nil⟩⟩⟩⟩⟩⟩⟩⟩⟩⟩⟩⟩⟩⟩⟩
theorem wAC_copy {own c : Nat} (h : c < 1000) : wAC (own, c) = .methodLink (ownNm own) c arraycopyName := if_pos h
theorem own_ne : ∀ k, k < 16 → ownNm k ≠ "java/lang/invoke/MethodHandle" ∧ ownNm k ≠ "java/lang/invoke/VarHandle" := by decide +kernel
theorem own_pl : ∀ k, k < 16 → ¬ k = 15 → plainName (ownNm k) = true := by decide +kernel
theorem own_cls : ∀ k, k < 13 → ownNm k = (clsOf k).1 := by decide +kernel
theorem fld_own : ∀ a, a < 13 → ∀ b, b < (clsOf a).2.2 → ((clsOf a).2.1 b).1 = ownNm a := by decide +kernel
theorem ini_0 : Jvm.Cond.initialized (ownNm 0) ∈ W0 := in_W0 (in_t1 11 rfl) rfl
theorem ini_1 : Jvm.Cond.initialized (ownNm 1) ∈ W0 := in_W0 (in_t1 7 rfl) rfl
theorem ini_2 : Jvm.Cond.initialized (ownNm 2) ∈ W0 := in_W0 (in_t1 10 rfl) rfl
theorem ini_3 : Jvm.Cond.initialized (ownNm 3) ∈ W0 := in_W0 (in_t1 3 rfl) rfl
theorem ini_4 : Jvm.Cond.initialized (ownNm 4) ∈ W0 := in_W0 (in_t1 5 rfl) rfl
theorem ini_5 : Jvm.Cond.initialized (ownNm 5) ∈ W0 := in_W0 (in_t1 9 rfl) rfl
theorem ini_6 : Jvm.Cond.initialized (ownNm 6) ∈ W0 := in_W0 (in_t1 6 rfl) rfl
theorem ini_7 : Jvm.Cond.initialized (ownNm 7) ∈ W0 := in_W0 (in_t1 4 rfl) rfl
theorem ini_8 : Jvm.Cond.initialized (ownNm 8) ∈ W0 := in_W0 (in_t1 12 rfl) rfl
theorem ini_9 : Jvm.Cond.initialized (ownNm 9) ∈ W0 := in_W0 (in_t1 2 rfl) rfl
theorem ini_10 : Jvm.Cond.initialized (ownNm 10) ∈ W0 := in_W0 (in_t1 8 rfl) rfl
theorem ini_11 : Jvm.Cond.initialized (ownNm 11) ∈ W0 := in_W0 (in_t1 1 rfl) rfl
theorem ini_12 : Jvm.Cond.initialized (ownNm 12) ∈ W0 := in_W0 (in_t1 13 rfl) rfl
theorem ini_13 : Jvm.Cond.initialized (ownNm 13) ∈ W0 := in_W0 (in_t1 17 rfl) rfl
theorem ini_14 : Jvm.Cond.initialized (ownNm 14) ∈ W0 := in_W0 (in_t1 14 rfl) rfl
theorem ini_15 : Jvm.Cond.initialized (ownNm 15) ∈ W0 := in_W0 (in_t1 16 rfl) rfl
theorem ok_of {M : MI} (k : Nat) (hk : k < 16 ∧ ¬ k = 15) (hc : (mN M).cls = ownNm k) (hi : Jvm.Cond.initialized (ownNm k) ∈ W0) (h1 : Jvm.Cond.code (mN M) (mC M) (mL M) (mR M) ∈ W0) (h2 : mL M ≤ 45) (h6 : retOk (mR M) = true) (h7 : (parseMethodDescriptor (mN M).desc).map (fun z => z.parameters.length) = some (mA M)) (h8 : mO M = ownNm k) : okM M := ⟨h1, h2, by rw [hc]; exact own_ne k hk.1, by rw [hc]; exact own_pl k hk.1 hk.2, by rw [hc]; exact hi, h6, h7, by rw [hc, h8]⟩
theorem pd_0 : (parseMethodDescriptor "()V").map (fun z => z.parameters.length) = some 0 := by decide +kernel
theorem pd_1 : (parseMethodDescriptor "(IIII)I").map (fun z => z.parameters.length) = some 4 := by decide +kernel
theorem pd_2 : (parseMethodDescriptor "(I)V").map (fun z => z.parameters.length) = some 1 := by decide +kernel
theorem pd_3 : (parseMethodDescriptor "(LTakenInTurns$Acts;IIII)I").map (fun z => z.parameters.length) = some 5 := by decide +kernel
theorem pd_4 : (parseMethodDescriptor "(LTakenInTurns$Giving;LTakenInTurns$Shares;)V").map (fun z => z.parameters.length) = some 2 := by decide +kernel
theorem pd_5 : (parseMethodDescriptor "(LTakenInTurns$Giving;)Z").map (fun z => z.parameters.length) = some 1 := by decide +kernel
theorem pd_6 : (parseMethodDescriptor "(LTakenInTurns$Giving;LTakenInTurns$Shares;)I").map (fun z => z.parameters.length) = some 2 := by decide +kernel
theorem pd_7 : (parseMethodDescriptor "(LTakenInTurns$Shares;J)V").map (fun z => z.parameters.length) = some 2 := by decide +kernel
theorem pd_8 : (parseMethodDescriptor "(LTakenInTurns$Giving;LTakenInTurns$Shares;J)V").map (fun z => z.parameters.length) = some 3 := by decide +kernel
theorem pd_9 : (parseMethodDescriptor "(I)Z").map (fun z => z.parameters.length) = some 1 := by decide +kernel
theorem pd_10 : (parseMethodDescriptor "(II)V").map (fun z => z.parameters.length) = some 2 := by decide +kernel
theorem pd_11 : (parseMethodDescriptor "(ILTakenInTurns$Giving;LTakenInTurns$Hand;)V").map (fun z => z.parameters.length) = some 3 := by decide +kernel
theorem pd_12 : (parseMethodDescriptor "(I)I").map (fun z => z.parameters.length) = some 1 := by decide +kernel
theorem pd_13 : (parseMethodDescriptor "(II)I").map (fun z => z.parameters.length) = some 2 := by decide +kernel
theorem pd_14 : (parseMethodDescriptor "(J)Z").map (fun z => z.parameters.length) = some 1 := by decide +kernel
theorem pd_15 : (parseMethodDescriptor "(LTakenInTurns$Giving;)V").map (fun z => z.parameters.length) = some 1 := by decide +kernel
theorem pd_16 : (parseMethodDescriptor "(III)V").map (fun z => z.parameters.length) = some 3 := by decide +kernel
theorem pd_17 : (parseMethodDescriptor "(ILTakenInTurns$Giving;[I)V").map (fun z => z.parameters.length) = some 3 := by decide +kernel
theorem pd_18 : (parseMethodDescriptor "()I").map (fun z => z.parameters.length) = some 0 := by decide +kernel
theorem pd_19 : (parseMethodDescriptor "()Z").map (fun z => z.parameters.length) = some 0 := by decide +kernel
theorem pd_20 : (parseMethodDescriptor "(LTakenInTurns$Giving;[IZ)V").map (fun z => z.parameters.length) = some 3 := by decide +kernel
theorem pd_21 : (parseMethodDescriptor "(LTakenInTurns$Giving;II)V").map (fun z => z.parameters.length) = some 3 := by decide +kernel
theorem pd_22 : (parseMethodDescriptor "(LTakenInTurns$Giving;I)I").map (fun z => z.parameters.length) = some 2 := by decide +kernel
theorem pd_23 : (parseMethodDescriptor "(LTakenInTurns$Giving;)I").map (fun z => z.parameters.length) = some 1 := by decide +kernel
theorem pd_24 : (parseMethodDescriptor "(LTakenInTurns$Giving;I)V").map (fun z => z.parameters.length) = some 2 := by decide +kernel
theorem pd_25 : (parseMethodDescriptor "(LTakenInTurns$Giving;I)Z").map (fun z => z.parameters.length) = some 2 := by decide +kernel
theorem pd_26 : (parseMethodDescriptor "(LTakenInTurns$Giving;LTakenInTurns$Hand;)V").map (fun z => z.parameters.length) = some 2 := by decide +kernel
theorem pd_27 : (parseMethodDescriptor "(LTakenInTurns$Giving;LTakenInTurns$Hand;)Z").map (fun z => z.parameters.length) = some 2 := by decide +kernel
theorem pd_28 : (parseMethodDescriptor "(LTakenInTurns$Giving;LTakenInTurns$Hand;II)Z").map (fun z => z.parameters.length) = some 4 := by decide +kernel
theorem pd_29 : (parseMethodDescriptor "(LTakenInTurns$Giving;III)Z").map (fun z => z.parameters.length) = some 4 := by decide +kernel
theorem pd_30 : (parseMethodDescriptor "(LTakenInTurns$Rings;LTakenInTurns$Giving;LTakenInTurns$Hand;II)Z").map (fun z => z.parameters.length) = some 5 := by decide +kernel
theorem pd_31 : (parseMethodDescriptor "([III)Z").map (fun z => z.parameters.length) = some 3 := by decide +kernel
theorem pd_32 : (parseMethodDescriptor "(LTakenInTurns$Giving;LTakenInTurns$Hand;[IZ)V").map (fun z => z.parameters.length) = some 4 := by decide +kernel
theorem pd_33 : (parseMethodDescriptor "(LTakenInTurns$Giving;I)J").map (fun z => z.parameters.length) = some 2 := by decide +kernel
theorem pd_34 : (parseMethodDescriptor "(IIJ)J").map (fun z => z.parameters.length) = some 3 := by decide +kernel
theorem pd_35 : (parseMethodDescriptor "(JJ)Z").map (fun z => z.parameters.length) = some 2 := by decide +kernel
theorem pd_36 : (parseMethodDescriptor "(IJ)V").map (fun z => z.parameters.length) = some 2 := by decide +kernel
theorem pd_37 : (parseMethodDescriptor "(LTakenInTurns$Giving;II)I").map (fun z => z.parameters.length) = some 3 := by decide +kernel
theorem pd_38 : (parseMethodDescriptor "(III)I").map (fun z => z.parameters.length) = some 3 := by decide +kernel
theorem pd_39 : (parseMethodDescriptor "(IIII)J").map (fun z => z.parameters.length) = some 4 := by decide +kernel
theorem pd_40 : (parseMethodDescriptor "(IIJ)I").map (fun z => z.parameters.length) = some 3 := by decide +kernel
theorem pd_41 : (parseMethodDescriptor "(II)J").map (fun z => z.parameters.length) = some 2 := by decide +kernel
theorem pd_42 : (parseMethodDescriptor "(IIIII)I").map (fun z => z.parameters.length) = some 5 := by decide +kernel
theorem pd_43 : (parseMethodDescriptor "(II)Z").map (fun z => z.parameters.length) = some 2 := by decide +kernel
theorem pd_44 : (parseMethodDescriptor "(LTakenInTurns$Giving;I)LTakenInTurns$Shares;").map (fun z => z.parameters.length) = some 2 := by decide +kernel
theorem pd_45 : (parseMethodDescriptor "(LTakenInTurns$Giving;ILTakenInTurns$Shares;ILTakenInTurns$Shares;I)I").map (fun z => z.parameters.length) = some 6 := by decide +kernel
theorem pd_46 : (parseMethodDescriptor "(III[I)Z").map (fun z => z.parameters.length) = some 4 := by decide +kernel
theorem pd_47 : (parseMethodDescriptor "([III)I").map (fun z => z.parameters.length) = some 3 := by decide +kernel
theorem pd_48 : (parseMethodDescriptor "([II)V").map (fun z => z.parameters.length) = some 2 := by decide +kernel
theorem pd_49 : (parseMethodDescriptor "([II)Z").map (fun z => z.parameters.length) = some 2 := by decide +kernel
theorem pd_50 : (parseMethodDescriptor "([III)V").map (fun z => z.parameters.length) = some 3 := by decide +kernel
theorem pd_51 : (parseMethodDescriptor "(JJ)J").map (fun z => z.parameters.length) = some 2 := by decide +kernel
theorem pd_52 : (parseMethodDescriptor "(III)Z").map (fun z => z.parameters.length) = some 3 := by decide +kernel
theorem pd_53 : (parseMethodDescriptor "(IZ)V").map (fun z => z.parameters.length) = some 2 := by decide +kernel
theorem pd_54 : (parseMethodDescriptor "(IJJ)V").map (fun z => z.parameters.length) = some 3 := by decide +kernel
theorem pd_55 : (parseMethodDescriptor "(JJJJ)V").map (fun z => z.parameters.length) = some 4 := by decide +kernel
theorem pd_56 : (parseMethodDescriptor "(IIIIII)I").map (fun z => z.parameters.length) = some 6 := by decide +kernel
theorem pd_57 : (parseMethodDescriptor "([JJ)V").map (fun z => z.parameters.length) = some 2 := by decide +kernel
theorem pd_58 : (parseMethodDescriptor "(J)J").map (fun z => z.parameters.length) = some 1 := by decide +kernel
theorem pd_59 : (parseMethodDescriptor "([I)Z").map (fun z => z.parameters.length) = some 1 := by decide +kernel
theorem ok_Acts_init : okM i_Acts_init := ok_of 0 (by decide) rfl ini_0 (in_W0 (in_t2 100 rfl) rfl) (Nat.le_of_ble_eq_true rfl) rfl pd_0 rfl
theorem ok_Acts_clear : okM i_Acts_clear := ok_of 0 (by decide) rfl ini_0 (in_W0 (in_t5 3 rfl) rfl) (Nat.le_of_ble_eq_true rfl) rfl pd_0 rfl
theorem ok_Acts_perform : okM i_Acts_perform := ok_of 0 (by decide) rfl ini_0 (in_W0 (in_t5 7 rfl) rfl) (Nat.le_of_ble_eq_true rfl) rfl pd_1 rfl
theorem ok_Acts_note : okM i_Acts_note := ok_of 0 (by decide) rfl ini_0 (in_W0 (in_t5 18 rfl) rfl) (Nat.le_of_ble_eq_true rfl) rfl pd_2 rfl
theorem ok_Acts_begin : okM i_Acts_begin := ok_of 0 (by decide) rfl ini_0 (in_W0 (in_t5 10 rfl) rfl) (Nat.le_of_ble_eq_true rfl) rfl pd_3 rfl
theorem ok_Eating_init : okM i_Eating_init := ok_of 1 (by decide) rfl ini_1 (in_W0 (in_t1 229 rfl) rfl) (Nat.le_of_ble_eq_true rfl) rfl pd_0 rfl
theorem ok_Eating_eat : okM i_Eating_eat := ok_of 1 (by decide) rfl ini_1 (in_W0 (in_t3 195 rfl) rfl) (Nat.le_of_ble_eq_true rfl) rfl pd_4 rfl
theorem ok_Eating_choose : okM i_Eating_choose := ok_of 1 (by decide) rfl ini_1 (in_W0 (in_t3 199 rfl) rfl) (Nat.le_of_ble_eq_true rfl) rfl pd_5 rfl
theorem ok_Eating_nextEaten : okM i_Eating_nextEaten := ok_of 1 (by decide) rfl ini_1 (in_W0 (in_t3 204 rfl) rfl) (Nat.le_of_ble_eq_true rfl) rfl pd_6 rfl
theorem ok_Eating_widen : okM i_Eating_widen := ok_of 1 (by decide) rfl ini_1 (in_W0 (in_t3 212 rfl) rfl) (Nat.le_of_ble_eq_true rfl) rfl pd_7 rfl
theorem ok_Eating_pass : okM i_Eating_pass := ok_of 1 (by decide) rfl ini_1 (in_W0 (in_t3 216 rfl) rfl) (Nat.le_of_ble_eq_true rfl) rfl pd_8 rfl
theorem ok_Evens_init : okM i_Evens_init := ok_of 2 (by decide) rfl ini_2 (in_W0 (in_t2 69 rfl) rfl) (Nat.le_of_ble_eq_true rfl) rfl pd_0 rfl
theorem ok_Evens_isTold : okM i_Evens_isTold := ok_of 2 (by decide) rfl ini_2 (in_W0 (in_t4 171 rfl) rfl) (Nat.le_of_ble_eq_true rfl) rfl pd_9 rfl
theorem ok_Evens_add : okM i_Evens_add := ok_of 2 (by decide) rfl ini_2 (in_W0 (in_t4 175 rfl) rfl) (Nat.le_of_ble_eq_true rfl) rfl pd_10 rfl
theorem ok_Evens_keepPoints : okM i_Evens_keepPoints := ok_of 2 (by decide) rfl ini_2 (in_W0 (in_t4 183 rfl) rfl) (Nat.le_of_ble_eq_true rfl) rfl pd_11 rfl
theorem ok_Evens_choose : okM i_Evens_choose := ok_of 2 (by decide) rfl ini_2 (in_W0 (in_t4 191 rfl) rfl) (Nat.le_of_ble_eq_true rfl) rfl pd_12 rfl
theorem ok_Evens_leastOf : okM i_Evens_leastOf := ok_of 2 (by decide) rfl ini_2 (in_W0 (in_t4 195 rfl) rfl) (Nat.le_of_ble_eq_true rfl) rfl pd_13 rfl
theorem ok_Giving_init : okM i_Giving_init := ok_of 3 (by decide) rfl ini_3 (in_W0 (in_t1 50 rfl) rfl) (Nat.le_of_ble_eq_true rfl) rfl pd_0 rfl
theorem ok_Giving_isPart : okM i_Giving_isPart := ok_of 3 (by decide) rfl ini_3 (in_W0 (in_t4 101 rfl) rfl) (Nat.le_of_ble_eq_true rfl) rfl pd_14 rfl
theorem ok_Giving_clear : okM i_Giving_clear := ok_of 3 (by decide) rfl ini_3 (in_W0 (in_t2 221 rfl) rfl) (Nat.le_of_ble_eq_true rfl) rfl pd_0 rfl
theorem ok_Giving_become : okM i_Giving_become := ok_of 3 (by decide) rfl ini_3 (in_W0 (in_t3 65 rfl) rfl) (Nat.le_of_ble_eq_true rfl) rfl pd_15 rfl
theorem ok_Giving_forgetAll : okM i_Giving_forgetAll := ok_of 3 (by decide) rfl ini_3 (in_W0 (in_t2 228 rfl) rfl) (Nat.le_of_ble_eq_true rfl) rfl pd_0 rfl
theorem ok_Giving_unlist : okM i_Giving_unlist := ok_of 3 (by decide) rfl ini_3 (in_W0 (in_t3 8 rfl) rfl) (Nat.le_of_ble_eq_true rfl) rfl pd_2 rfl
theorem ok_Giving_append : okM i_Giving_append := ok_of 3 (by decide) rfl ini_3 (in_W0 (in_t3 23 rfl) rfl) (Nat.le_of_ble_eq_true rfl) rfl pd_16 rfl
theorem ok_Giving_relist : okM i_Giving_relist := ok_of 3 (by decide) rfl ini_3 (in_W0 (in_t4 63 rfl) rfl) (Nat.le_of_ble_eq_true rfl) rfl pd_17 rfl
theorem ok_Giving_heldOf : okM i_Giving_heldOf := ok_of 3 (by decide) rfl ini_3 (in_W0 (in_t3 19 rfl) rfl) (Nat.le_of_ble_eq_true rfl) rfl pd_12 rfl
theorem ok_Giving_firstOf : okM i_Giving_firstOf := ok_of 3 (by decide) rfl ini_3 (in_W0 (in_t3 57 rfl) rfl) (Nat.le_of_ble_eq_true rfl) rfl pd_13 rfl
theorem ok_Giving_partsOfPerson : okM i_Giving_partsOfPerson := ok_of 3 (by decide) rfl ini_3 (in_W0 (in_t4 114 rfl) rfl) (Nat.le_of_ble_eq_true rfl) rfl pd_12 rfl
theorem ok_Giving_partsOfThing : okM i_Giving_partsOfThing := ok_of 3 (by decide) rfl ini_3 (in_W0 (in_t4 122 rfl) rfl) (Nat.le_of_ble_eq_true rfl) rfl pd_12 rfl
theorem ok_Giving_barring : okM i_Giving_barring := ok_of 3 (by decide) rfl ini_3 (in_W0 (in_t4 110 rfl) rfl) (Nat.le_of_ble_eq_true rfl) rfl pd_18 rfl
theorem ok_Giving_hasUnlisted : okM i_Giving_hasUnlisted := ok_of 3 (by decide) rfl ini_3 (in_W0 (in_t4 118 rfl) rfl) (Nat.le_of_ble_eq_true rfl) rfl pd_9 rfl
theorem ok_Giving_canBeParted : okM i_Giving_canBeParted := ok_of 3 (by decide) rfl ini_3 (in_W0 (in_t4 130 rfl) rfl) (Nat.le_of_ble_eq_true rfl) rfl pd_19 rfl
theorem ok_Hand_init : okM i_Hand_init := ok_of 4 (by decide) rfl ini_4 (in_W0 (in_t1 177 rfl) rfl) (Nat.le_of_ble_eq_true rfl) rfl pd_0 rfl
theorem ok_Hand_deal : okM i_Hand_deal := ok_of 4 (by decide) rfl ini_4 (in_W0 (in_t3 87 rfl) rfl) (Nat.le_of_ble_eq_true rfl) rfl pd_20 rfl
theorem ok_Hand_take : okM i_Hand_take := ok_of 4 (by decide) rfl ini_4 (in_W0 (in_t3 93 rfl) rfl) (Nat.le_of_ble_eq_true rfl) rfl pd_21 rfl
theorem ok_Hand_countOf : okM i_Hand_countOf := ok_of 4 (by decide) rfl ini_4 (in_W0 (in_t3 106 rfl) rfl) (Nat.le_of_ble_eq_true rfl) rfl pd_13 rfl
theorem ok_Hand_pointsOf : okM i_Hand_pointsOf := ok_of 4 (by decide) rfl ini_4 (in_W0 (in_t4 187 rfl) rfl) (Nat.le_of_ble_eq_true rfl) rfl pd_22 rfl
theorem ok_Hand_gapOf : okM i_Hand_gapOf := ok_of 4 (by decide) rfl ini_4 (in_W0 (in_t4 221 rfl) rfl) (Nat.le_of_ble_eq_true rfl) rfl pd_23 rfl
theorem ok_Parting_init : okM i_Parting_init := ok_of 5 (by decide) rfl ini_5 (in_W0 (in_t2 28 rfl) rfl) (Nat.le_of_ble_eq_true rfl) rfl pd_0 rfl
theorem ok_Parting_forget : okM i_Parting_forget := ok_of 5 (by decide) rfl ini_5 (in_W0 (in_t4 87 rfl) rfl) (Nat.le_of_ble_eq_true rfl) rfl pd_0 rfl
theorem ok_Parting_split : okM i_Parting_split := ok_of 5 (by decide) rfl ini_5 (in_W0 (in_t4 135 rfl) rfl) (Nat.le_of_ble_eq_true rfl) rfl pd_15 rfl
theorem ok_Parting_measure : okM i_Parting_measure := ok_of 5 (by decide) rfl ini_5 (in_W0 (in_t4 140 rfl) rfl) (Nat.le_of_ble_eq_true rfl) rfl pd_24 rfl
theorem ok_Parting_pickFirst : okM i_Parting_pickFirst := ok_of 5 (by decide) rfl ini_5 (in_W0 (in_t4 147 rfl) rfl) (Nat.le_of_ble_eq_true rfl) rfl pd_5 rfl
theorem ok_Parting_pickFor : okM i_Parting_pickFor := ok_of 5 (by decide) rfl ini_5 (in_W0 (in_t4 151 rfl) rfl) (Nat.le_of_ble_eq_true rfl) rfl pd_25 rfl
theorem ok_Parting_canGoOn : okM i_Parting_canGoOn := ok_of 5 (by decide) rfl ini_5 (in_W0 (in_t4 155 rfl) rfl) (Nat.le_of_ble_eq_true rfl) rfl pd_25 rfl
theorem ok_Parting_mostOff : okM i_Parting_mostOff := ok_of 5 (by decide) rfl ini_5 (in_W0 (in_t4 159 rfl) rfl) (Nat.le_of_ble_eq_true rfl) rfl pd_23 rfl
theorem ok_Rings_init : okM i_Rings_init := ok_of 6 (by decide) rfl ini_6 (in_W0 (in_t1 207 rfl) rfl) (Nat.le_of_ble_eq_true rfl) rfl pd_0 rfl
theorem ok_Rings_forget : okM i_Rings_forget := ok_of 6 (by decide) rfl ini_6 (in_W0 (in_t3 98 rfl) rfl) (Nat.le_of_ble_eq_true rfl) rfl pd_0 rfl
theorem ok_Rings_find : okM i_Rings_find := ok_of 6 (by decide) rfl ini_6 (in_W0 (in_t3 125 rfl) rfl) (Nat.le_of_ble_eq_true rfl) rfl pd_26 rfl
theorem ok_Rings_findAlone : okM i_Rings_findAlone := ok_of 6 (by decide) rfl ini_6 (in_W0 (in_t3 129 rfl) rfl) (Nat.le_of_ble_eq_true rfl) rfl pd_27 rfl
theorem ok_Rings_findLeft : okM i_Rings_findLeft := ok_of 6 (by decide) rfl ini_6 (in_W0 (in_t3 133 rfl) rfl) (Nat.le_of_ble_eq_true rfl) rfl pd_28 rfl
theorem ok_Rings_isBetter : okM i_Rings_isBetter := ok_of 6 (by decide) rfl ini_6 (in_W0 (in_t3 136 rfl) rfl) (Nat.le_of_ble_eq_true rfl) rfl pd_29 rfl
theorem ok_Rings_addPerson : okM i_Rings_addPerson := ok_of 6 (by decide) rfl ini_6 (in_W0 (in_t3 139 rfl) rfl) (Nat.le_of_ble_eq_true rfl) rfl pd_30 rfl
theorem ok_Rings_isAmong : okM i_Rings_isAmong := ok_of 6 (by decide) rfl ini_6 (in_W0 (in_t3 145 rfl) rfl) (Nat.le_of_ble_eq_true rfl) rfl pd_31 rfl
theorem ok_Rings_addThing : okM i_Rings_addThing := ok_of 6 (by decide) rfl ini_6 (in_W0 (in_t3 142 rfl) rfl) (Nat.le_of_ble_eq_true rfl) rfl pd_30 rfl
theorem ok_Shares_init : okM i_Shares_init := ok_of 7 (by decide) rfl ini_7 (in_W0 (in_t1 59 rfl) rfl) (Nat.le_of_ble_eq_true rfl) rfl pd_0 rfl
theorem ok_Shares_clear : okM i_Shares_clear := ok_of 7 (by decide) rfl ini_7 (in_W0 (in_t3 169 rfl) rfl) (Nat.le_of_ble_eq_true rfl) rfl pd_0 rfl
theorem ok_Shares_addOrders : okM i_Shares_addOrders := ok_of 7 (by decide) rfl ini_7 (in_W0 (in_t3 176 rfl) rfl) (Nat.le_of_ble_eq_true rfl) rfl pd_32 rfl
theorem ok_Shares_addHand : okM i_Shares_addHand := ok_of 7 (by decide) rfl ini_7 (in_W0 (in_t3 185 rfl) rfl) (Nat.le_of_ble_eq_true rfl) rfl pd_26 rfl
theorem ok_Shares_copyTable : okM i_Shares_copyTable := ok_of 7 (by decide) rfl ini_7 (in_W0 (in_t4 9 rfl) rfl) (Nat.le_of_ble_eq_true rfl) rfl pd_15 rfl
theorem ok_Shares_mend : okM i_Shares_mend := ok_of 7 (by decide) rfl ini_7 (in_W0 (in_t4 14 rfl) rfl) (Nat.le_of_ble_eq_true rfl) rfl pd_15 rfl
theorem ok_Shares_dropUnlisted : okM i_Shares_dropUnlisted := ok_of 7 (by decide) rfl ini_7 (in_W0 (in_t4 18 rfl) rfl) (Nat.le_of_ble_eq_true rfl) rfl pd_33 rfl
theorem ok_Shares_cut : okM i_Shares_cut := ok_of 7 (by decide) rfl ini_7 (in_W0 (in_t4 22 rfl) rfl) (Nat.le_of_ble_eq_true rfl) rfl pd_34 rfl
theorem ok_Shelf_init : okM i_Shelf_init := ok_of 8 (by decide) rfl ini_8 (in_W0 (in_t2 122 rfl) rfl) (Nat.le_of_ble_eq_true rfl) rfl pd_0 rfl
theorem ok_Shelf_keepKind : okM i_Shelf_keepKind := ok_of 8 (by decide) rfl ini_8 (in_W0 (in_t5 30 rfl) rfl) (Nat.le_of_ble_eq_true rfl) rfl pd_2 rfl
theorem ok_Shelf_keepRow : okM i_Shelf_keepRow := ok_of 8 (by decide) rfl ini_8 (in_W0 (in_t5 38 rfl) rfl) (Nat.le_of_ble_eq_true rfl) rfl pd_10 rfl
theorem ok_Shelf_hasRoom : okM i_Shelf_hasRoom := ok_of 8 (by decide) rfl ini_8 (in_W0 (in_t4 98 rfl) rfl) (Nat.le_of_ble_eq_true rfl) rfl pd_35 rfl
theorem ok_Shelf_write : okM i_Shelf_write := ok_of 8 (by decide) rfl ini_8 (in_W0 (in_t5 51 rfl) rfl) (Nat.le_of_ble_eq_true rfl) rfl pd_36 rfl
theorem ok_Tape_init : okM i_Tape_init := ok_of 9 (by decide) rfl ini_9 (in_W0 (in_t1 30 rfl) rfl) (Nat.le_of_ble_eq_true rfl) rfl pd_0 rfl
theorem ok_Tape_add : okM i_Tape_add := ok_of 9 (by decide) rfl ini_9 (in_W0 (in_t2 209 rfl) rfl) (Nat.le_of_ble_eq_true rfl) rfl pd_2 rfl
theorem ok_Tape_readGiving : okM i_Tape_readGiving := ok_of 9 (by decide) rfl ini_9 (in_W0 (in_t2 217 rfl) rfl) (Nat.le_of_ble_eq_true rfl) rfl pd_5 rfl
theorem ok_Tape_readInstead : okM i_Tape_readInstead := ok_of 9 (by decide) rfl ini_9 (in_W0 (in_t3 72 rfl) rfl) (Nat.le_of_ble_eq_true rfl) rfl pd_25 rfl
theorem ok_Tape_next : okM i_Tape_next := ok_of 9 (by decide) rfl ini_9 (in_W0 (in_t2 236 rfl) rfl) (Nat.le_of_ble_eq_true rfl) rfl pd_18 rfl
theorem ok_Tape_readThings : okM i_Tape_readThings := ok_of 9 (by decide) rfl ini_9 (in_W0 (in_t2 232 rfl) rfl) (Nat.le_of_ble_eq_true rfl) rfl pd_5 rfl
theorem ok_Tape_readLists : okM i_Tape_readLists := ok_of 9 (by decide) rfl ini_9 (in_W0 (in_t3 0 rfl) rfl) (Nat.le_of_ble_eq_true rfl) rfl pd_5 rfl
theorem ok_Tape_readList : okM i_Tape_readList := ok_of 9 (by decide) rfl ini_9 (in_W0 (in_t3 4 rfl) rfl) (Nat.le_of_ble_eq_true rfl) rfl pd_25 rfl
theorem ok_Tape_readHeld : okM i_Tape_readHeld := ok_of 9 (by decide) rfl ini_9 (in_W0 (in_t3 12 rfl) rfl) (Nat.le_of_ble_eq_true rfl) rfl pd_25 rfl
theorem ok_Trade_init : okM i_Trade_init := ok_of 10 (by decide) rfl ini_10 (in_W0 (in_t2 8 rfl) rfl) (Nat.le_of_ble_eq_true rfl) rfl pd_0 rfl
theorem ok_Trade_exchange : okM i_Trade_exchange := ok_of 10 (by decide) rfl ini_10 (in_W0 (in_t3 220 rfl) rfl) (Nat.le_of_ble_eq_true rfl) rfl pd_4 rfl
theorem ok_Trade_pointAll : okM i_Trade_pointAll := ok_of 10 (by decide) rfl ini_10 (in_W0 (in_t3 224 rfl) rfl) (Nat.le_of_ble_eq_true rfl) rfl pd_5 rfl
theorem ok_Trade_holderOf : okM i_Trade_holderOf := ok_of 10 (by decide) rfl ini_10 (in_W0 (in_t3 229 rfl) rfl) (Nat.le_of_ble_eq_true rfl) rfl pd_37 rfl
theorem ok_Trade_closeRing : okM i_Trade_closeRing := ok_of 10 (by decide) rfl ini_10 (in_W0 (in_t3 233 rfl) rfl) (Nat.le_of_ble_eq_true rfl) rfl pd_15 rfl
theorem ok_Trade_isInRing : okM i_Trade_isInRing := ok_of 10 (by decide) rfl ini_10 (in_W0 (in_t3 237 rfl) rfl) (Nat.le_of_ble_eq_true rfl) rfl pd_25 rfl
theorem ok_Trade_takeRest : okM i_Trade_takeRest := ok_of 10 (by decide) rfl ini_10 (in_W0 (in_t4 1 rfl) rfl) (Nat.le_of_ble_eq_true rfl) rfl pd_15 rfl
theorem ok_Trade_leftOf : okM i_Trade_leftOf := ok_of 10 (by decide) rfl ini_10 (in_W0 (in_t4 5 rfl) rfl) (Nat.le_of_ble_eq_true rfl) rfl pd_23 rfl
theorem ok_X_init : okM i_X_init := ok_of 11 (by decide) rfl ini_11 (in_W0 (in_t1 22 rfl) rfl) (Nat.le_of_ble_eq_true rfl) rfl pd_0 rfl
theorem ok_X_feed : okM i_X_feed := ok_of 11 (by decide) rfl ini_11 (in_W0 (in_t2 205 rfl) rfl) (Nat.le_of_ble_eq_true rfl) rfl pd_13 rfl
theorem ok_X_giving : okM i_X_giving := ok_of 11 (by decide) rfl ini_11 (in_W0 (in_t2 213 rfl) rfl) (Nat.le_of_ble_eq_true rfl) rfl pd_18 rfl
theorem ok_X_of : okM i_X_of := ok_of 11 (by decide) rfl ini_11 (in_W0 (in_t3 27 rfl) rfl) (Nat.le_of_ble_eq_true rfl) rfl pd_13 rfl
theorem ok_X_rounds : okM i_X_rounds := ok_of 11 (by decide) rfl ini_11 (in_W0 (in_t3 40 rfl) rfl) (Nat.le_of_ble_eq_true rfl) rfl pd_13 rfl
theorem ok_X_level : okM i_X_level := ok_of 11 (by decide) rfl ini_11 (in_W0 (in_t3 45 rfl) rfl) (Nat.le_of_ble_eq_true rfl) rfl pd_38 rfl
theorem ok_X_listed : okM i_X_listed := ok_of 11 (by decide) rfl ini_11 (in_W0 (in_t3 49 rfl) rfl) (Nat.le_of_ble_eq_true rfl) rfl pd_38 rfl
theorem ok_X_takes : okM i_X_takes := ok_of 11 (by decide) rfl ini_11 (in_W0 (in_t3 53 rfl) rfl) (Nat.le_of_ble_eq_true rfl) rfl pd_38 rfl
theorem ok_X_instead : okM i_X_instead := ok_of 11 (by decide) rfl ini_11 (in_W0 (in_t3 61 rfl) rfl) (Nat.le_of_ble_eq_true rfl) rfl pd_13 rfl
theorem ok_X_run : okM i_X_run := ok_of 11 (by decide) rfl ini_11 (in_W0 (in_t3 76 rfl) rfl) (Nat.le_of_ble_eq_true rfl) rfl pd_38 rfl
theorem ok_X_has : okM i_X_has := ok_of 11 (by decide) rfl ini_11 (in_W0 (in_t3 102 rfl) rfl) (Nat.le_of_ble_eq_true rfl) rfl pd_13 rfl
theorem ok_X_left : okM i_X_left := ok_of 11 (by decide) rfl ini_11 (in_W0 (in_t3 110 rfl) rfl) (Nat.le_of_ble_eq_true rfl) rfl pd_12 rfl
theorem ok_X_led : okM i_X_led := ok_of 11 (by decide) rfl ini_11 (in_W0 (in_t3 114 rfl) rfl) (Nat.le_of_ble_eq_true rfl) rfl pd_38 rfl
theorem ok_X_ring : okM i_X_ring := ok_of 11 (by decide) rfl ini_11 (in_W0 (in_t3 121 rfl) rfl) (Nat.le_of_ble_eq_true rfl) rfl pd_12 rfl
theorem ok_X_way : okM i_X_way := ok_of 11 (by decide) rfl ini_11 (in_W0 (in_t3 149 rfl) rfl) (Nat.le_of_ble_eq_true rfl) rfl pd_12 rfl
theorem ok_X_kindOf : okM i_X_kindOf := ok_of 11 (by decide) rfl ini_11 (in_W0 (in_t3 153 rfl) rfl) (Nat.le_of_ble_eq_true rfl) rfl pd_12 rfl
theorem ok_X_share : okM i_X_share := ok_of 11 (by decide) rfl ini_11 (in_W0 (in_t3 157 rfl) rfl) (Nat.le_of_ble_eq_true rfl) rfl pd_39 rfl
theorem ok_X_stops : okM i_X_stops := ok_of 11 (by decide) rfl ini_11 (in_W0 (in_t4 36 rfl) rfl) (Nat.le_of_ble_eq_true rfl) rfl pd_12 rfl
theorem ok_X_rather : okM i_X_rather := ok_of 11 (by decide) rfl ini_11 (in_W0 (in_t4 40 rfl) rfl) (Nat.le_of_ble_eq_true rfl) rfl pd_1 rfl
theorem ok_X_envy : okM i_X_envy := ok_of 11 (by decide) rfl ini_11 (in_W0 (in_t4 47 rfl) rfl) (Nat.le_of_ble_eq_true rfl) rfl pd_13 rfl
theorem ok_X_wrongly : okM i_X_wrongly := ok_of 11 (by decide) rfl ini_11 (in_W0 (in_t4 51 rfl) rfl) (Nat.le_of_ble_eq_true rfl) rfl pd_1 rfl
theorem ok_X_gains : okM i_X_gains := ok_of 11 (by decide) rfl ini_11 (in_W0 (in_t4 69 rfl) rfl) (Nat.le_of_ble_eq_true rfl) rfl pd_38 rfl
theorem ok_X_told : okM i_X_told := ok_of 11 (by decide) rfl ini_11 (in_W0 (in_t4 79 rfl) rfl) (Nat.le_of_ble_eq_true rfl) rfl pd_38 rfl
theorem ok_X_table : okM i_X_table := ok_of 11 (by decide) rfl ini_11 (in_W0 (in_t4 91 rfl) rfl) (Nat.le_of_ble_eq_true rfl) rfl pd_38 rfl
theorem ok_X_bars : okM i_X_bars := ok_of 11 (by decide) rfl ini_11 (in_W0 (in_t4 106 rfl) rfl) (Nat.le_of_ble_eq_true rfl) rfl pd_12 rfl
theorem ok_X_parted : okM i_X_parted := ok_of 11 (by decide) rfl ini_11 (in_W0 (in_t4 126 rfl) rfl) (Nat.le_of_ble_eq_true rfl) rfl pd_38 rfl
theorem ok_X_order : okM i_X_order := ok_of 11 (by decide) rfl ini_11 (in_W0 (in_t4 167 rfl) rfl) (Nat.le_of_ble_eq_true rfl) rfl pd_13 rfl
theorem ok_X_even : okM i_X_even := ok_of 11 (by decide) rfl ini_11 (in_W0 (in_t4 179 rfl) rfl) (Nat.le_of_ble_eq_true rfl) rfl pd_18 rfl
theorem ok_X_evenIs : okM i_X_evenIs := ok_of 11 (by decide) rfl ini_11 (in_W0 (in_t4 208 rfl) rfl) (Nat.le_of_ble_eq_true rfl) rfl pd_12 rfl
theorem ok_X_swap : okM i_X_swap := ok_of 11 (by decide) rfl ini_11 (in_W0 (in_t4 212 rfl) rfl) (Nat.le_of_ble_eq_true rfl) rfl pd_13 rfl
theorem ok_X_years : okM i_X_years := ok_of 11 (by decide) rfl ini_11 (in_W0 (in_t4 229 rfl) rfl) (Nat.le_of_ble_eq_true rfl) rfl pd_1 rfl
theorem ok_X_act : okM i_X_act := ok_of 11 (by decide) rfl ini_11 (in_W0 (in_t4 239 rfl) rfl) (Nat.le_of_ble_eq_true rfl) rfl pd_38 rfl
theorem ok_X_trace : okM i_X_trace := ok_of 11 (by decide) rfl ini_11 (in_W0 (in_t5 22 rfl) rfl) (Nat.le_of_ble_eq_true rfl) rfl pd_12 rfl
theorem ok_X_keep : okM i_X_keep := ok_of 11 (by decide) rfl ini_11 (in_W0 (in_t5 26 rfl) rfl) (Nat.le_of_ble_eq_true rfl) rfl pd_13 rfl
theorem ok_X_row : okM i_X_row := ok_of 11 (by decide) rfl ini_11 (in_W0 (in_t5 34 rfl) rfl) (Nat.le_of_ble_eq_true rfl) rfl pd_38 rfl
theorem ok_X_put : okM i_X_put := ok_of 11 (by decide) rfl ini_11 (in_W0 (in_t5 43 rfl) rfl) (Nat.le_of_ble_eq_true rfl) rfl pd_40 rfl
theorem ok_X_element : okM i_X_element := ok_of 11 (by decide) rfl ini_11 (in_W0 (in_t5 55 rfl) rfl) (Nat.le_of_ble_eq_true rfl) rfl pd_41 rfl
theorem ok_X_shift : okM i_X_shift := ok_of 11 (by decide) rfl ini_11 (in_W0 (in_t5 60 rfl) rfl) (Nat.le_of_ble_eq_true rfl) rfl pd_42 rfl
theorem ok_X_taken : okM i_X_taken := ok_of 11 (by decide) rfl ini_11 (in_W0 (in_t5 65 rfl) rfl) (Nat.le_of_ble_eq_true rfl) rfl pd_13 rfl
theorem ok_X_count : okM i_X_count := ok_of 11 (by decide) rfl ini_11 (in_W0 (in_t5 73 rfl) rfl) (Nat.le_of_ble_eq_true rfl) rfl pd_12 rfl
theorem ok_X_isGiving : okM i_X_isGiving := ok_of 11 (by decide) rfl ini_11 (in_W0 (in_t3 31 rfl) rfl) (Nat.le_of_ble_eq_true rfl) rfl pd_9 rfl
theorem ok_X_isPerson : okM i_X_isPerson := ok_of 11 (by decide) rfl ini_11 (in_W0 (in_t3 35 rfl) rfl) (Nat.le_of_ble_eq_true rfl) rfl pd_25 rfl
theorem ok_X_isThing : okM i_X_isThing := ok_of 11 (by decide) rfl ini_11 (in_W0 (in_t3 15 rfl) rfl) (Nat.le_of_ble_eq_true rfl) rfl pd_25 rfl
theorem ok_X_isCell : okM i_X_isCell := ok_of 11 (by decide) rfl ini_11 (in_W0 (in_t3 160 rfl) rfl) (Nat.le_of_ble_eq_true rfl) rfl pd_25 rfl
theorem ok_X_isShelf : okM i_X_isShelf := ok_of 11 (by decide) rfl ini_11 (in_W0 (in_t4 94 rfl) rfl) (Nat.le_of_ble_eq_true rfl) rfl pd_9 rfl
theorem ok_X_isNoSide : okM i_X_isNoSide := ok_of 11 (by decide) rfl ini_11 (in_W0 (in_t3 117 rfl) rfl) (Nat.le_of_ble_eq_true rfl) rfl pd_9 rfl
theorem ok_X_kindAt : okM i_X_kindAt := ok_of 11 (by decide) rfl ini_11 (in_W0 (in_t3 80 rfl) rfl) (Nat.le_of_ble_eq_true rfl) rfl pd_12 rfl
theorem ok_X_isToldWrongly : okM i_X_isToldWrongly := ok_of 11 (by decide) rfl ini_11 (in_W0 (in_t4 55 rfl) rfl) (Nat.le_of_ble_eq_true rfl) rfl pd_9 rfl
theorem ok_X_isUnder : okM i_X_isUnder := ok_of 11 (by decide) rfl ini_11 (in_W0 (in_t5 68 rfl) rfl) (Nat.le_of_ble_eq_true rfl) rfl pd_43 rfl
theorem ok_X_refusalAt : okM i_X_refusalAt := ok_of 11 (by decide) rfl ini_11 (in_W0 (in_t5 47 rfl) rfl) (Nat.le_of_ble_eq_true rfl) rfl pd_13 rfl
theorem ok_X_forgetTable : okM i_X_forgetTable := ok_of 11 (by decide) rfl ini_11 (in_W0 (in_t4 83 rfl) rfl) (Nat.le_of_ble_eq_true rfl) rfl pd_15 rfl
theorem ok_X_sharesOf : okM i_X_sharesOf := ok_of 11 (by decide) rfl ini_11 (in_W0 (in_t3 165 rfl) rfl) (Nat.le_of_ble_eq_true rfl) rfl pd_44 rfl
theorem ok_X_compareOtherwise : okM i_X_compareOtherwise := ok_of 11 (by decide) rfl ini_11 (in_W0 (in_t4 59 rfl) rfl) (Nat.le_of_ble_eq_true rfl) rfl pd_37 rfl
theorem ok_X_compareRows : okM i_X_compareRows := ok_of 11 (by decide) rfl ini_11 (in_W0 (in_t4 43 rfl) rfl) (Nat.le_of_ble_eq_true rfl) rfl pd_45 rfl
theorem ok_X_findSwap : okM i_X_findSwap := ok_of 11 (by decide) rfl ini_11 (in_W0 (in_t4 216 rfl) rfl) (Nat.le_of_ble_eq_true rfl) rfl pd_15 rfl
theorem ok_X_fewestFirst : okM i_X_fewestFirst := ok_of 11 (by decide) rfl ini_11 (in_W0 (in_t4 235 rfl) rfl) (Nat.le_of_ble_eq_true rfl) rfl pd_2 rfl
theorem ok_X_readLine : okM i_X_readLine := ok_of 11 (by decide) rfl ini_11 (in_W0 (in_t3 83 rfl) rfl) (Nat.le_of_ble_eq_true rfl) rfl pd_46 rfl
theorem ok_X_numberOf : okM i_X_numberOf := ok_of 11 (by decide) rfl ini_11 (in_W0 (in_t4 74 rfl) rfl) (Nat.le_of_ble_eq_true rfl) rfl pd_47 rfl
theorem ok_X_firstLine : okM i_X_firstLine := ok_of 11 (by decide) rfl ini_11 (in_W0 (in_t3 179 rfl) rfl) (Nat.le_of_ble_eq_true rfl) rfl pd_48 rfl
theorem ok_X_nextLine : okM i_X_nextLine := ok_of 11 (by decide) rfl ini_11 (in_W0 (in_t3 188 rfl) rfl) (Nat.le_of_ble_eq_true rfl) rfl pd_49 rfl
theorem ok_X_exchange : okM i_X_exchange := ok_of 11 (by decide) rfl ini_11 (in_W0 (in_t3 191 rfl) rfl) (Nat.le_of_ble_eq_true rfl) rfl pd_50 rfl
theorem ok_X_commonOf : okM i_X_commonOf := ok_of 11 (by decide) rfl ini_11 (in_W0 (in_t4 29 rfl) rfl) (Nat.le_of_ble_eq_true rfl) rfl pd_51 rfl
theorem ok_M_init : okM i_M_init := ok_of 12 (by decide) rfl ini_12 (in_W0 (in_t5 78 rfl) rfl) (Nat.le_of_ble_eq_true rfl) rfl pd_0 rfl
theorem ok_M_in : okM i_M_in := ok_of 12 (by decide) rfl ini_12 (in_W0 (in_t6 43 rfl) rfl) (Nat.le_of_ble_eq_true rfl) rfl pd_52 rfl
theorem ok_M_isGiving : okM i_M_isGiving := ok_of 12 (by decide) rfl ini_12 (in_W0 (in_t6 79 rfl) rfl) (Nat.le_of_ble_eq_true rfl) rfl pd_9 rfl
theorem ok_M_isPerson : okM i_M_isPerson := ok_of 12 (by decide) rfl ini_12 (in_W0 (in_t6 75 rfl) rfl) (Nat.le_of_ble_eq_true rfl) rfl pd_43 rfl
theorem ok_M_isThing : okM i_M_isThing := ok_of 12 (by decide) rfl ini_12 (in_W0 (in_t6 100 rfl) rfl) (Nat.le_of_ble_eq_true rfl) rfl pd_43 rfl
theorem ok_M_feed : okM i_M_feed := ok_of 12 (by decide) rfl ini_12 (in_W0 (in_t6 40 rfl) rfl) (Nat.le_of_ble_eq_true rfl) rfl pd_13 rfl
theorem ok_M_here : okM i_M_here := ok_of 12 (by decide) rfl ini_12 (in_W0 (in_t6 59 rfl) rfl) (Nat.le_of_ble_eq_true rfl) rfl pd_18 rfl
theorem ok_M_readsThings : okM i_M_readsThings := ok_of 12 (by decide) rfl ini_12 (in_W0 (in_t6 55 rfl) rfl) (Nat.le_of_ble_eq_true rfl) rfl pd_9 rfl
theorem ok_M_heldOf : okM i_M_heldOf := ok_of 12 (by decide) rfl ini_12 (in_W0 (in_t6 67 rfl) rfl) (Nat.le_of_ble_eq_true rfl) rfl pd_38 rfl
theorem ok_M_readsList : okM i_M_readsList := ok_of 12 (by decide) rfl ini_12 (in_W0 (in_t6 63 rfl) rfl) (Nat.le_of_ble_eq_true rfl) rfl pd_43 rfl
theorem ok_M_readsGiving : okM i_M_readsGiving := ok_of 12 (by decide) rfl ini_12 (in_W0 (in_t6 51 rfl) rfl) (Nat.le_of_ble_eq_true rfl) rfl pd_9 rfl
theorem ok_M_giving : okM i_M_giving := ok_of 12 (by decide) rfl ini_12 (in_W0 (in_t6 47 rfl) rfl) (Nat.le_of_ble_eq_true rfl) rfl pd_18 rfl
theorem ok_M_copies : okM i_M_copies := ok_of 12 (by decide) rfl ini_12 (in_W0 (in_t6 83 rfl) rfl) (Nat.le_of_ble_eq_true rfl) rfl pd_10 rfl
theorem ok_M_instead : okM i_M_instead := ok_of 12 (by decide) rfl ini_12 (in_W0 (in_t6 71 rfl) rfl) (Nat.le_of_ble_eq_true rfl) rfl pd_13 rfl
theorem ok_M_of : okM i_M_of := ok_of 12 (by decide) rfl ini_12 (in_W0 (in_t6 87 rfl) rfl) (Nat.le_of_ble_eq_true rfl) rfl pd_13 rfl
theorem ok_M_rounds : okM i_M_rounds := ok_of 12 (by decide) rfl ini_12 (in_W0 (in_t6 92 rfl) rfl) (Nat.le_of_ble_eq_true rfl) rfl pd_13 rfl
theorem ok_M_level : okM i_M_level := ok_of 12 (by decide) rfl ini_12 (in_W0 (in_t6 96 rfl) rfl) (Nat.le_of_ble_eq_true rfl) rfl pd_38 rfl
theorem ok_M_listed : okM i_M_listed := ok_of 12 (by decide) rfl ini_12 (in_W0 (in_t6 104 rfl) rfl) (Nat.le_of_ble_eq_true rfl) rfl pd_38 rfl
theorem ok_M_takes : okM i_M_takes := ok_of 12 (by decide) rfl ini_12 (in_W0 (in_t6 108 rfl) rfl) (Nat.le_of_ble_eq_true rfl) rfl pd_38 rfl
theorem ok_M_isOrder : okM i_M_isOrder := ok_of 12 (by decide) rfl ini_12 (in_W0 (in_t6 120 rfl) rfl) (Nat.le_of_ble_eq_true rfl) rfl pd_43 rfl
theorem ok_M_asDigits : okM i_M_asDigits := ok_of 12 (by decide) rfl ini_12 (in_W0 (in_t7 124 rfl) rfl) (Nat.le_of_ble_eq_true rfl) rfl pd_12 rfl
theorem ok_M_firstLeft : okM i_M_firstLeft := ok_of 12 (by decide) rfl ini_12 (in_W0 (in_t6 128 rfl) rfl) (Nat.le_of_ble_eq_true rfl) rfl pd_13 rfl
theorem ok_M_runs : okM i_M_runs := ok_of 12 (by decide) rfl ini_12 (in_W0 (in_t6 124 rfl) rfl) (Nat.le_of_ble_eq_true rfl) rfl pd_53 rfl
theorem ok_M_isWay : okM i_M_isWay := ok_of 12 (by decide) rfl ini_12 (in_W0 (in_t6 116 rfl) rfl) (Nat.le_of_ble_eq_true rfl) rfl pd_9 rfl
theorem ok_M_run : okM i_M_run := ok_of 12 (by decide) rfl ini_12 (in_W0 (in_t6 112 rfl) rfl) (Nat.le_of_ble_eq_true rfl) rfl pd_38 rfl
theorem ok_M_has : okM i_M_has := ok_of 12 (by decide) rfl ini_12 (in_W0 (in_t6 132 rfl) rfl) (Nat.le_of_ble_eq_true rfl) rfl pd_13 rfl
theorem ok_M_left : okM i_M_left := ok_of 12 (by decide) rfl ini_12 (in_W0 (in_t6 136 rfl) rfl) (Nat.le_of_ble_eq_true rfl) rfl pd_12 rfl
theorem ok_M_led : okM i_M_led := ok_of 12 (by decide) rfl ini_12 (in_W0 (in_t6 140 rfl) rfl) (Nat.le_of_ble_eq_true rfl) rfl pd_38 rfl
theorem ok_M_levelIn : okM i_M_levelIn := ok_of 12 (by decide) rfl ini_12 (in_W0 (in_t6 160 rfl) rfl) (Nat.le_of_ble_eq_true rfl) rfl pd_13 rfl
theorem ok_M_wishes : okM i_M_wishes := ok_of 12 (by decide) rfl ini_12 (in_W0 (in_t6 156 rfl) rfl) (Nat.le_of_ble_eq_true rfl) rfl pd_52 rfl
theorem ok_M_findsOne : okM i_M_findsOne := ok_of 12 (by decide) rfl ini_12 (in_W0 (in_t6 152 rfl) rfl) (Nat.le_of_ble_eq_true rfl) rfl pd_19 rfl
theorem ok_M_findsThings : okM i_M_findsThings := ok_of 12 (by decide) rfl ini_12 (in_W0 (in_t6 168 rfl) rfl) (Nat.le_of_ble_eq_true rfl) rfl pd_43 rfl
theorem ok_M_findsPeople : okM i_M_findsPeople := ok_of 12 (by decide) rfl ini_12 (in_W0 (in_t6 164 rfl) rfl) (Nat.le_of_ble_eq_true rfl) rfl pd_52 rfl
theorem ok_M_findsRing : okM i_M_findsRing := ok_of 12 (by decide) rfl ini_12 (in_W0 (in_t6 148 rfl) rfl) (Nat.le_of_ble_eq_true rfl) rfl pd_0 rfl
theorem ok_M_ring : okM i_M_ring := ok_of 12 (by decide) rfl ini_12 (in_W0 (in_t6 144 rfl) rfl) (Nat.le_of_ble_eq_true rfl) rfl pd_12 rfl
theorem ok_M_way : okM i_M_way := ok_of 12 (by decide) rfl ini_12 (in_W0 (in_t6 172 rfl) rfl) (Nat.le_of_ble_eq_true rfl) rfl pd_12 rfl
theorem ok_M_kindOf : okM i_M_kindOf := ok_of 12 (by decide) rfl ini_12 (in_W0 (in_t6 176 rfl) rfl) (Nat.le_of_ble_eq_true rfl) rfl pd_12 rfl
theorem ok_M_common : okM i_M_common := ok_of 12 (by decide) rfl ini_12 (in_W0 (in_t6 207 rfl) rfl) (Nat.le_of_ble_eq_true rfl) rfl pd_51 rfl
theorem ok_M_clears : okM i_M_clears := ok_of 12 (by decide) rfl ini_12 (in_W0 (in_t6 188 rfl) rfl) (Nat.le_of_ble_eq_true rfl) rfl pd_0 rfl
theorem ok_M_puts : okM i_M_puts := ok_of 12 (by decide) rfl ini_12 (in_W0 (in_t6 204 rfl) rfl) (Nat.le_of_ble_eq_true rfl) rfl pd_54 rfl
theorem ok_M_nextOrder : okM i_M_nextOrder := ok_of 12 (by decide) rfl ini_12 (in_W0 (in_t6 200 rfl) rfl) (Nat.le_of_ble_eq_true rfl) rfl pd_9 rfl
theorem ok_M_firstOrder : okM i_M_firstOrder := ok_of 12 (by decide) rfl ini_12 (in_W0 (in_t6 196 rfl) rfl) (Nat.le_of_ble_eq_true rfl) rfl pd_2 rfl
theorem ok_M_means : okM i_M_means := ok_of 12 (by decide) rfl ini_12 (in_W0 (in_t6 192 rfl) rfl) (Nat.le_of_ble_eq_true rfl) rfl pd_53 rfl
theorem ok_M_adds : okM i_M_adds := ok_of 12 (by decide) rfl ini_12 (in_W0 (in_t6 224 rfl) rfl) (Nat.le_of_ble_eq_true rfl) rfl pd_55 rfl
theorem ok_M_firstUneaten : okM i_M_firstUneaten := ok_of 12 (by decide) rfl ini_12 (in_W0 (in_t6 219 rfl) rfl) (Nat.le_of_ble_eq_true rfl) rfl pd_13 rfl
theorem ok_M_eatNow : okM i_M_eatNow := ok_of 12 (by decide) rfl ini_12 (in_W0 (in_t6 215 rfl) rfl) (Nat.le_of_ble_eq_true rfl) rfl pd_12 rfl
theorem ok_M_eating : okM i_M_eating := ok_of 12 (by decide) rfl ini_12 (in_W0 (in_t6 211 rfl) rfl) (Nat.le_of_ble_eq_true rfl) rfl pd_2 rfl
theorem ok_M_pointOf : okM i_M_pointOf := ok_of 12 (by decide) rfl ini_12 (in_W0 (in_t6 237 rfl) rfl) (Nat.le_of_ble_eq_true rfl) rfl pd_13 rfl
theorem ok_M_endsSome : okM i_M_endsSome := ok_of 12 (by decide) rfl ini_12 (in_W0 (in_t6 233 rfl) rfl) (Nat.le_of_ble_eq_true rfl) rfl pd_9 rfl
theorem ok_M_endsRing : okM i_M_endsRing := ok_of 12 (by decide) rfl ini_12 (in_W0 (in_t7 1 rfl) rfl) (Nat.le_of_ble_eq_true rfl) rfl pd_9 rfl
theorem ok_M_trades : okM i_M_trades := ok_of 12 (by decide) rfl ini_12 (in_W0 (in_t6 229 rfl) rfl) (Nat.le_of_ble_eq_true rfl) rfl pd_2 rfl
theorem ok_M_takesParts : okM i_M_takesParts := ok_of 12 (by decide) rfl ini_12 (in_W0 (in_t7 5 rfl) rfl) (Nat.le_of_ble_eq_true rfl) rfl pd_53 rfl
theorem ok_M_sumOf : okM i_M_sumOf := ok_of 12 (by decide) rfl ini_12 (in_W0 (in_t7 13 rfl) rfl) (Nat.le_of_ble_eq_true rfl) rfl pd_13 rfl
theorem ok_M_sumOver : okM i_M_sumOver := ok_of 12 (by decide) rfl ini_12 (in_W0 (in_t7 21 rfl) rfl) (Nat.le_of_ble_eq_true rfl) rfl pd_13 rfl
theorem ok_M_less : okM i_M_less := ok_of 12 (by decide) rfl ini_12 (in_W0 (in_t7 17 rfl) rfl) (Nat.le_of_ble_eq_true rfl) rfl pd_10 rfl
theorem ok_M_mends : okM i_M_mends := ok_of 12 (by decide) rfl ini_12 (in_W0 (in_t7 9 rfl) rfl) (Nat.le_of_ble_eq_true rfl) rfl pd_2 rfl
theorem ok_M_shares : okM i_M_shares := ok_of 12 (by decide) rfl ini_12 (in_W0 (in_t6 184 rfl) rfl) (Nat.le_of_ble_eq_true rfl) rfl pd_10 rfl
theorem ok_M_share : okM i_M_share := ok_of 12 (by decide) rfl ini_12 (in_W0 (in_t6 180 rfl) rfl) (Nat.le_of_ble_eq_true rfl) rfl pd_39 rfl
theorem ok_M_stops : okM i_M_stops := ok_of 12 (by decide) rfl ini_12 (in_W0 (in_t7 27 rfl) rfl) (Nat.le_of_ble_eq_true rfl) rfl pd_12 rfl
theorem ok_M_keepsRow : okM i_M_keepsRow := ok_of 12 (by decide) rfl ini_12 (in_W0 (in_t7 35 rfl) rfl) (Nat.le_of_ble_eq_true rfl) rfl pd_2 rfl
theorem ok_M_against : okM i_M_against := ok_of 12 (by decide) rfl ini_12 (in_W0 (in_t7 39 rfl) rfl) (Nat.le_of_ble_eq_true rfl) rfl pd_38 rfl
theorem ok_M_rather : okM i_M_rather := ok_of 12 (by decide) rfl ini_12 (in_W0 (in_t7 31 rfl) rfl) (Nat.le_of_ble_eq_true rfl) rfl pd_1 rfl
theorem ok_M_envy : okM i_M_envy := ok_of 12 (by decide) rfl ini_12 (in_W0 (in_t7 43 rfl) rfl) (Nat.le_of_ble_eq_true rfl) rfl pd_13 rfl
theorem ok_M_areDigits : okM i_M_areDigits := ok_of 12 (by decide) rfl ini_12 (in_W0 (in_t7 55 rfl) rfl) (Nat.le_of_ble_eq_true rfl) rfl pd_43 rfl
theorem ok_M_tries : okM i_M_tries := ok_of 12 (by decide) rfl ini_12 (in_W0 (in_t7 63 rfl) rfl) (Nat.le_of_ble_eq_true rfl) rfl pd_38 rfl
theorem ok_M_keepsOwn : okM i_M_keepsOwn := ok_of 12 (by decide) rfl ini_12 (in_W0 (in_t7 59 rfl) rfl) (Nat.le_of_ble_eq_true rfl) rfl pd_52 rfl
theorem ok_M_isLie : okM i_M_isLie := ok_of 12 (by decide) rfl ini_12 (in_W0 (in_t7 51 rfl) rfl) (Nat.le_of_ble_eq_true rfl) rfl pd_52 rfl
theorem ok_M_wrongly : okM i_M_wrongly := ok_of 12 (by decide) rfl ini_12 (in_W0 (in_t7 47 rfl) rfl) (Nat.le_of_ble_eq_true rfl) rfl pd_1 rfl
theorem ok_M_triesAll : okM i_M_triesAll := ok_of 12 (by decide) rfl ini_12 (in_W0 (in_t7 71 rfl) rfl) (Nat.le_of_ble_eq_true rfl) rfl pd_56 rfl
theorem ok_M_gains : okM i_M_gains := ok_of 12 (by decide) rfl ini_12 (in_W0 (in_t7 67 rfl) rfl) (Nat.le_of_ble_eq_true rfl) rfl pd_38 rfl
theorem ok_M_told : okM i_M_told := ok_of 12 (by decide) rfl ini_12 (in_W0 (in_t7 75 rfl) rfl) (Nat.le_of_ble_eq_true rfl) rfl pd_38 rfl
theorem ok_M_table : okM i_M_table := ok_of 12 (by decide) rfl ini_12 (in_W0 (in_t7 79 rfl) rfl) (Nat.le_of_ble_eq_true rfl) rfl pd_38 rfl
theorem ok_M_barsOf : okM i_M_barsOf := ok_of 12 (by decide) rfl ini_12 (in_W0 (in_t7 87 rfl) rfl) (Nat.le_of_ble_eq_true rfl) rfl pd_12 rfl
theorem ok_M_bars : okM i_M_bars := ok_of 12 (by decide) rfl ini_12 (in_W0 (in_t7 83 rfl) rfl) (Nat.le_of_ble_eq_true rfl) rfl pd_12 rfl
theorem ok_M_finds : okM i_M_finds := ok_of 12 (by decide) rfl ini_12 (in_W0 (in_t7 95 rfl) rfl) (Nat.le_of_ble_eq_true rfl) rfl pd_43 rfl
theorem ok_M_most : okM i_M_most := ok_of 12 (by decide) rfl ini_12 (in_W0 (in_t7 99 rfl) rfl) (Nat.le_of_ble_eq_true rfl) rfl pd_13 rfl
theorem ok_M_parted : okM i_M_parted := ok_of 12 (by decide) rfl ini_12 (in_W0 (in_t7 91 rfl) rfl) (Nat.le_of_ble_eq_true rfl) rfl pd_38 rfl
theorem ok_M_pointsOf : okM i_M_pointsOf := ok_of 12 (by decide) rfl ini_12 (in_W0 (in_t7 111 rfl) rfl) (Nat.le_of_ble_eq_true rfl) rfl pd_13 rfl
theorem ok_M_order : okM i_M_order := ok_of 12 (by decide) rfl ini_12 (in_W0 (in_t7 103 rfl) rfl) (Nat.le_of_ble_eq_true rfl) rfl pd_13 rfl
theorem ok_M_even : okM i_M_even := ok_of 12 (by decide) rfl ini_12 (in_W0 (in_t7 107 rfl) rfl) (Nat.le_of_ble_eq_true rfl) rfl pd_18 rfl
theorem ok_M_evenIs : okM i_M_evenIs := ok_of 12 (by decide) rfl ini_12 (in_W0 (in_t7 116 rfl) rfl) (Nat.le_of_ble_eq_true rfl) rfl pd_12 rfl
theorem ok_M_swap : okM i_M_swap := ok_of 12 (by decide) rfl ini_12 (in_W0 (in_t7 120 rfl) rfl) (Nat.le_of_ble_eq_true rfl) rfl pd_13 rfl
theorem ok_M_years : okM i_M_years := ok_of 12 (by decide) rfl ini_12 (in_W0 (in_t7 128 rfl) rfl) (Nat.le_of_ble_eq_true rfl) rfl pd_1 rfl
theorem ok_M_begins : okM i_M_begins := ok_of 12 (by decide) rfl ini_12 (in_W0 (in_t7 140 rfl) rfl) (Nat.le_of_ble_eq_true rfl) rfl pd_2 rfl
theorem ok_M_aboveOf : okM i_M_aboveOf := ok_of 12 (by decide) rfl ini_12 (in_W0 (in_t7 143 rfl) rfl) (Nat.le_of_ble_eq_true rfl) rfl pd_12 rfl
theorem ok_M_takesFrom : okM i_M_takesFrom := ok_of 12 (by decide) rfl ini_12 (in_W0 (in_t7 136 rfl) rfl) (Nat.le_of_ble_eq_true rfl) rfl pd_38 rfl
theorem ok_M_leavesFrom : okM i_M_leavesFrom := ok_of 12 (by decide) rfl ini_12 (in_W0 (in_t7 147 rfl) rfl) (Nat.le_of_ble_eq_true rfl) rfl pd_38 rfl
theorem ok_M_likesFrom : okM i_M_likesFrom := ok_of 12 (by decide) rfl ini_12 (in_W0 (in_t7 151 rfl) rfl) (Nat.le_of_ble_eq_true rfl) rfl pd_38 rfl
theorem ok_M_tellsFrom : okM i_M_tellsFrom := ok_of 12 (by decide) rfl ini_12 (in_W0 (in_t7 155 rfl) rfl) (Nat.le_of_ble_eq_true rfl) rfl pd_38 rfl
theorem ok_M_act : okM i_M_act := ok_of 12 (by decide) rfl ini_12 (in_W0 (in_t7 132 rfl) rfl) (Nat.le_of_ble_eq_true rfl) rfl pd_38 rfl
theorem ok_M_trace : okM i_M_trace := ok_of 12 (by decide) rfl ini_12 (in_W0 (in_t7 159 rfl) rfl) (Nat.le_of_ble_eq_true rfl) rfl pd_12 rfl
theorem ok_M_isShelf : okM i_M_isShelf := ok_of 12 (by decide) rfl ini_12 (in_W0 (in_t7 166 rfl) rfl) (Nat.le_of_ble_eq_true rfl) rfl pd_9 rfl
theorem ok_M_keep : okM i_M_keep := ok_of 12 (by decide) rfl ini_12 (in_W0 (in_t7 163 rfl) rfl) (Nat.le_of_ble_eq_true rfl) rfl pd_13 rfl
theorem ok_M_row : okM i_M_row := ok_of 12 (by decide) rfl ini_12 (in_W0 (in_t7 170 rfl) rfl) (Nat.le_of_ble_eq_true rfl) rfl pd_38 rfl
theorem ok_M_barred : okM i_M_barred := ok_of 12 (by decide) rfl ini_12 (in_W0 (in_t7 178 rfl) rfl) (Nat.le_of_ble_eq_true rfl) rfl pd_13 rfl
theorem ok_M_put : okM i_M_put := ok_of 12 (by decide) rfl ini_12 (in_W0 (in_t7 174 rfl) rfl) (Nat.le_of_ble_eq_true rfl) rfl pd_40 rfl
theorem ok_M_element : okM i_M_element := ok_of 12 (by decide) rfl ini_12 (in_W0 (in_t7 182 rfl) rfl) (Nat.le_of_ble_eq_true rfl) rfl pd_41 rfl
theorem ok_M_shift : okM i_M_shift := ok_of 12 (by decide) rfl ini_12 (in_W0 (in_t7 187 rfl) rfl) (Nat.le_of_ble_eq_true rfl) rfl pd_42 rfl
theorem ok_M_taken : okM i_M_taken := ok_of 12 (by decide) rfl ini_12 (in_W0 (in_t7 191 rfl) rfl) (Nat.le_of_ble_eq_true rfl) rfl pd_13 rfl
theorem ok_M_count : okM i_M_count := ok_of 12 (by decide) rfl ini_12 (in_W0 (in_t7 195 rfl) rfl) (Nat.le_of_ble_eq_true rfl) rfl pd_12 rfl
theorem ok_Integer_bitCount : okM i_Integer_bitCount := ok_of 13 (by decide) rfl ini_13 (in_W0 (in_t4 200 rfl) rfl) (Nat.le_of_ble_eq_true rfl) rfl pd_12 rfl
theorem ok_Arrays_fill_J : okM i_Arrays_fill_J := ok_of 14 (by decide) rfl ini_14 (in_W0 (in_t3 172 rfl) rfl) (Nat.le_of_ble_eq_true rfl) rfl pd_57 rfl
theorem ok_Arrays_fill_I : okM i_Arrays_fill_I := ok_of 14 (by decide) rfl ini_14 (in_W0 (in_t2 224 rfl) rfl) (Nat.le_of_ble_eq_true rfl) rfl pd_48 rfl
theorem okA : ∀ a, a < 250 → okM (callee a) := by
  intro a ha
  match a, ha with
  | 0, _ => exact ok_Acts_init
  | 1, _ => exact ok_Acts_clear
  | 2, _ => exact ok_Acts_perform
  | 3, _ => exact ok_Acts_note
  | 4, _ => exact ok_Acts_begin
  | 5, _ => exact ok_Eating_init
  | 6, _ => exact ok_Eating_eat
  | 7, _ => exact ok_Eating_choose
  | 8, _ => exact ok_Eating_nextEaten
  | 9, _ => exact ok_Eating_widen
  | 10, _ => exact ok_Eating_pass
  | 11, _ => exact ok_Evens_init
  | 12, _ => exact ok_Evens_isTold
  | 13, _ => exact ok_Evens_add
  | 14, _ => exact ok_Evens_keepPoints
  | 15, _ => exact ok_Evens_choose
  | 16, _ => exact ok_Evens_leastOf
  | 17, _ => exact ok_Giving_init
  | 18, _ => exact ok_Giving_isPart
  | 19, _ => exact ok_Giving_clear
  | 20, _ => exact ok_Giving_become
  | 21, _ => exact ok_Giving_forgetAll
  | 22, _ => exact ok_Giving_unlist
  | 23, _ => exact ok_Giving_append
  | 24, _ => exact ok_Giving_relist
  | 25, _ => exact ok_Giving_heldOf
  | 26, _ => exact ok_Giving_firstOf
  | 27, _ => exact ok_Giving_partsOfPerson
  | 28, _ => exact ok_Giving_partsOfThing
  | 29, _ => exact ok_Giving_barring
  | 30, _ => exact ok_Giving_hasUnlisted
  | 31, _ => exact ok_Giving_canBeParted
  | 32, _ => exact ok_Hand_init
  | 33, _ => exact ok_Hand_deal
  | 34, _ => exact ok_Hand_take
  | 35, _ => exact ok_Hand_countOf
  | 36, _ => exact ok_Hand_pointsOf
  | 37, _ => exact ok_Hand_gapOf
  | 38, _ => exact ok_Parting_init
  | 39, _ => exact ok_Parting_forget
  | 40, _ => exact ok_Parting_split
  | 41, _ => exact ok_Parting_measure
  | 42, _ => exact ok_Parting_pickFirst
  | 43, _ => exact ok_Parting_pickFor
  | 44, _ => exact ok_Parting_canGoOn
  | 45, _ => exact ok_Parting_mostOff
  | 46, _ => exact ok_Rings_init
  | 47, _ => exact ok_Rings_forget
  | 48, _ => exact ok_Rings_find
  | 49, _ => exact ok_Rings_findAlone
  | 50, _ => exact ok_Rings_findLeft
  | 51, _ => exact ok_Rings_isBetter
  | 52, _ => exact ok_Rings_addPerson
  | 53, _ => exact ok_Rings_isAmong
  | 54, _ => exact ok_Rings_addThing
  | 55, _ => exact ok_Shares_init
  | 56, _ => exact ok_Shares_clear
  | 57, _ => exact ok_Shares_addOrders
  | 58, _ => exact ok_Shares_addHand
  | 59, _ => exact ok_Shares_copyTable
  | 60, _ => exact ok_Shares_mend
  | 61, _ => exact ok_Shares_dropUnlisted
  | 62, _ => exact ok_Shares_cut
  | 63, _ => exact ok_Shelf_init
  | 64, _ => exact ok_Shelf_keepKind
  | 65, _ => exact ok_Shelf_keepRow
  | 66, _ => exact ok_Shelf_hasRoom
  | 67, _ => exact ok_Shelf_write
  | 68, _ => exact ok_Tape_init
  | 69, _ => exact ok_Tape_add
  | 70, _ => exact ok_Tape_readGiving
  | 71, _ => exact ok_Tape_readInstead
  | 72, _ => exact ok_Tape_next
  | 73, _ => exact ok_Tape_readThings
  | 74, _ => exact ok_Tape_readLists
  | 75, _ => exact ok_Tape_readList
  | 76, _ => exact ok_Tape_readHeld
  | 77, _ => exact ok_Trade_init
  | 78, _ => exact ok_Trade_exchange
  | 79, _ => exact ok_Trade_pointAll
  | 80, _ => exact ok_Trade_holderOf
  | 81, _ => exact ok_Trade_closeRing
  | 82, _ => exact ok_Trade_isInRing
  | 83, _ => exact ok_Trade_takeRest
  | 84, _ => exact ok_Trade_leftOf
  | 85, _ => exact ok_X_init
  | 86, _ => exact ok_X_feed
  | 87, _ => exact ok_X_giving
  | 88, _ => exact ok_X_of
  | 89, _ => exact ok_X_rounds
  | 90, _ => exact ok_X_level
  | 91, _ => exact ok_X_listed
  | 92, _ => exact ok_X_takes
  | 93, _ => exact ok_X_instead
  | 94, _ => exact ok_X_run
  | 95, _ => exact ok_X_has
  | 96, _ => exact ok_X_left
  | 97, _ => exact ok_X_led
  | 98, _ => exact ok_X_ring
  | 99, _ => exact ok_X_way
  | 100, _ => exact ok_X_kindOf
  | 101, _ => exact ok_X_share
  | 102, _ => exact ok_X_stops
  | 103, _ => exact ok_X_rather
  | 104, _ => exact ok_X_envy
  | 105, _ => exact ok_X_wrongly
  | 106, _ => exact ok_X_gains
  | 107, _ => exact ok_X_told
  | 108, _ => exact ok_X_table
  | 109, _ => exact ok_X_bars
  | 110, _ => exact ok_X_parted
  | 111, _ => exact ok_X_order
  | 112, _ => exact ok_X_even
  | 113, _ => exact ok_X_evenIs
  | 114, _ => exact ok_X_swap
  | 115, _ => exact ok_X_years
  | 116, _ => exact ok_X_act
  | 117, _ => exact ok_X_trace
  | 118, _ => exact ok_X_keep
  | 119, _ => exact ok_X_row
  | 120, _ => exact ok_X_put
  | 121, _ => exact ok_X_element
  | 122, _ => exact ok_X_shift
  | 123, _ => exact ok_X_taken
  | 124, _ => exact ok_X_count
  | 125, _ => exact ok_X_isGiving
  | 126, _ => exact ok_X_isPerson
  | 127, _ => exact ok_X_isThing
  | 128, _ => exact ok_X_isCell
  | 129, _ => exact ok_X_isShelf
  | 130, _ => exact ok_X_isNoSide
  | 131, _ => exact ok_X_kindAt
  | 132, _ => exact ok_X_isToldWrongly
  | 133, _ => exact ok_X_isUnder
  | 134, _ => exact ok_X_refusalAt
  | 135, _ => exact ok_X_forgetTable
  | 136, _ => exact ok_X_sharesOf
  | 137, _ => exact ok_X_compareOtherwise
  | 138, _ => exact ok_X_compareRows
  | 139, _ => exact ok_X_findSwap
  | 140, _ => exact ok_X_fewestFirst
  | 141, _ => exact ok_X_readLine
  | 142, _ => exact ok_X_numberOf
  | 143, _ => exact ok_X_firstLine
  | 144, _ => exact ok_X_nextLine
  | 145, _ => exact ok_X_exchange
  | 146, _ => exact ok_X_commonOf
  | 147, _ => exact ok_M_init
  | 148, _ => exact ok_M_in
  | 149, _ => exact ok_M_isGiving
  | 150, _ => exact ok_M_isPerson
  | 151, _ => exact ok_M_isThing
  | 152, _ => exact ok_M_feed
  | 153, _ => exact ok_M_here
  | 154, _ => exact ok_M_readsThings
  | 155, _ => exact ok_M_heldOf
  | 156, _ => exact ok_M_readsList
  | 157, _ => exact ok_M_readsGiving
  | 158, _ => exact ok_M_giving
  | 159, _ => exact ok_M_copies
  | 160, _ => exact ok_M_instead
  | 161, _ => exact ok_M_of
  | 162, _ => exact ok_M_rounds
  | 163, _ => exact ok_M_level
  | 164, _ => exact ok_M_listed
  | 165, _ => exact ok_M_takes
  | 166, _ => exact ok_M_isOrder
  | 167, _ => exact ok_M_asDigits
  | 168, _ => exact ok_M_firstLeft
  | 169, _ => exact ok_M_runs
  | 170, _ => exact ok_M_isWay
  | 171, _ => exact ok_M_run
  | 172, _ => exact ok_M_has
  | 173, _ => exact ok_M_left
  | 174, _ => exact ok_M_led
  | 175, _ => exact ok_M_levelIn
  | 176, _ => exact ok_M_wishes
  | 177, _ => exact ok_M_findsOne
  | 178, _ => exact ok_M_findsThings
  | 179, _ => exact ok_M_findsPeople
  | 180, _ => exact ok_M_findsRing
  | 181, _ => exact ok_M_ring
  | 182, _ => exact ok_M_way
  | 183, _ => exact ok_M_kindOf
  | 184, _ => exact ok_M_common
  | 185, _ => exact ok_M_clears
  | 186, _ => exact ok_M_puts
  | 187, _ => exact ok_M_nextOrder
  | 188, _ => exact ok_M_firstOrder
  | 189, _ => exact ok_M_means
  | 190, _ => exact ok_M_adds
  | 191, _ => exact ok_M_firstUneaten
  | 192, _ => exact ok_M_eatNow
  | 193, _ => exact ok_M_eating
  | 194, _ => exact ok_M_pointOf
  | 195, _ => exact ok_M_endsSome
  | 196, _ => exact ok_M_endsRing
  | 197, _ => exact ok_M_trades
  | 198, _ => exact ok_M_takesParts
  | 199, _ => exact ok_M_sumOf
  | 200, _ => exact ok_M_sumOver
  | 201, _ => exact ok_M_less
  | 202, _ => exact ok_M_mends
  | 203, _ => exact ok_M_shares
  | 204, _ => exact ok_M_share
  | 205, _ => exact ok_M_stops
  | 206, _ => exact ok_M_keepsRow
  | 207, _ => exact ok_M_against
  | 208, _ => exact ok_M_rather
  | 209, _ => exact ok_M_envy
  | 210, _ => exact ok_M_areDigits
  | 211, _ => exact ok_M_tries
  | 212, _ => exact ok_M_keepsOwn
  | 213, _ => exact ok_M_isLie
  | 214, _ => exact ok_M_wrongly
  | 215, _ => exact ok_M_triesAll
  | 216, _ => exact ok_M_gains
  | 217, _ => exact ok_M_told
  | 218, _ => exact ok_M_table
  | 219, _ => exact ok_M_barsOf
  | 220, _ => exact ok_M_bars
  | 221, _ => exact ok_M_finds
  | 222, _ => exact ok_M_most
  | 223, _ => exact ok_M_parted
  | 224, _ => exact ok_M_pointsOf
  | 225, _ => exact ok_M_order
  | 226, _ => exact ok_M_even
  | 227, _ => exact ok_M_evenIs
  | 228, _ => exact ok_M_swap
  | 229, _ => exact ok_M_years
  | 230, _ => exact ok_M_begins
  | 231, _ => exact ok_M_aboveOf
  | 232, _ => exact ok_M_takesFrom
  | 233, _ => exact ok_M_leavesFrom
  | 234, _ => exact ok_M_likesFrom
  | 235, _ => exact ok_M_tellsFrom
  | 236, _ => exact ok_M_act
  | 237, _ => exact ok_M_trace
  | 238, _ => exact ok_M_isShelf
  | 239, _ => exact ok_M_keep
  | 240, _ => exact ok_M_row
  | 241, _ => exact ok_M_barred
  | 242, _ => exact ok_M_put
  | 243, _ => exact ok_M_element
  | 244, _ => exact ok_M_shift
  | 245, _ => exact ok_M_taken
  | 246, _ => exact ok_M_count
  | 247, _ => exact ok_Integer_bitCount
  | 248, _ => exact ok_Arrays_fill_J
  | 249, _ => exact ok_Arrays_fill_I
  | k + 250, h => omega
theorem f_LY_0_0 : u_lay (clsOf 0).1 (clsOf 0).2.1 0 ∈ W0 := in_W0 (in_t2 108 rfl) rfl
theorem f_LY_0_1 : u_lay (clsOf 0).1 (clsOf 0).2.1 1 ∈ W0 := in_W0 (in_t2 110 rfl) rfl
theorem f_LY_0_2 : u_lay (clsOf 0).1 (clsOf 0).2.1 2 ∈ W0 := in_W0 (in_t2 112 rfl) rfl
theorem f_LY_0_3 : u_lay (clsOf 0).1 (clsOf 0).2.1 3 ∈ W0 := in_W0 (in_t2 114 rfl) rfl
theorem ly_0 : ∀ j, j < 4 → u_lay (clsOf 0).1 (clsOf 0).2.1 j ∈ W0 := by
  intro j hj
  match j, hj with
  | 0, _ => exact f_LY_0_0
  | 1, _ => exact f_LY_0_1
  | 2, _ => exact f_LY_0_2
  | 3, _ => exact f_LY_0_3
  | k + 4, h => omega
theorem f_LY_1_0 : u_lay (clsOf 1).1 (clsOf 1).2.1 0 ∈ W0 := in_W0 (in_t1 235 rfl) rfl
theorem f_LY_1_1 : u_lay (clsOf 1).1 (clsOf 1).2.1 1 ∈ W0 := in_W0 (in_t1 237 rfl) rfl
theorem f_LY_1_2 : u_lay (clsOf 1).1 (clsOf 1).2.1 2 ∈ W0 := in_W0 (in_t1 239 rfl) rfl
theorem f_LY_1_3 : u_lay (clsOf 1).1 (clsOf 1).2.1 3 ∈ W0 := in_W0 (in_t2 1 rfl) rfl
theorem ly_1 : ∀ j, j < 4 → u_lay (clsOf 1).1 (clsOf 1).2.1 j ∈ W0 := by
  intro j hj
  match j, hj with
  | 0, _ => exact f_LY_1_0
  | 1, _ => exact f_LY_1_1
  | 2, _ => exact f_LY_1_2
  | 3, _ => exact f_LY_1_3
  | k + 4, h => omega
theorem f_LY_2_0 : u_lay (clsOf 2).1 (clsOf 2).2.1 0 ∈ W0 := in_W0 (in_t2 83 rfl) rfl
theorem f_LY_2_1 : u_lay (clsOf 2).1 (clsOf 2).2.1 1 ∈ W0 := in_W0 (in_t2 85 rfl) rfl
theorem f_LY_2_2 : u_lay (clsOf 2).1 (clsOf 2).2.1 2 ∈ W0 := in_W0 (in_t2 87 rfl) rfl
theorem f_LY_2_3 : u_lay (clsOf 2).1 (clsOf 2).2.1 3 ∈ W0 := in_W0 (in_t2 89 rfl) rfl
theorem f_LY_2_4 : u_lay (clsOf 2).1 (clsOf 2).2.1 4 ∈ W0 := in_W0 (in_t2 91 rfl) rfl
theorem f_LY_2_5 : u_lay (clsOf 2).1 (clsOf 2).2.1 5 ∈ W0 := in_W0 (in_t2 93 rfl) rfl
theorem ly_2 : ∀ j, j < 6 → u_lay (clsOf 2).1 (clsOf 2).2.1 j ∈ W0 := by
  intro j hj
  match j, hj with
  | 0, _ => exact f_LY_2_0
  | 1, _ => exact f_LY_2_1
  | 2, _ => exact f_LY_2_2
  | 3, _ => exact f_LY_2_3
  | 4, _ => exact f_LY_2_4
  | 5, _ => exact f_LY_2_5
  | k + 6, h => omega
theorem f_LY_3_0 : u_lay (clsOf 3).1 (clsOf 3).2.1 0 ∈ W0 := in_W0 (in_t1 146 rfl) rfl
theorem f_LY_3_1 : u_lay (clsOf 3).1 (clsOf 3).2.1 1 ∈ W0 := in_W0 (in_t1 148 rfl) rfl
theorem f_LY_3_2 : u_lay (clsOf 3).1 (clsOf 3).2.1 2 ∈ W0 := in_W0 (in_t1 150 rfl) rfl
theorem f_LY_3_3 : u_lay (clsOf 3).1 (clsOf 3).2.1 3 ∈ W0 := in_W0 (in_t1 152 rfl) rfl
theorem f_LY_3_4 : u_lay (clsOf 3).1 (clsOf 3).2.1 4 ∈ W0 := in_W0 (in_t1 154 rfl) rfl
theorem f_LY_3_5 : u_lay (clsOf 3).1 (clsOf 3).2.1 5 ∈ W0 := in_W0 (in_t1 156 rfl) rfl
theorem f_LY_3_6 : u_lay (clsOf 3).1 (clsOf 3).2.1 6 ∈ W0 := in_W0 (in_t1 158 rfl) rfl
theorem f_LY_3_7 : u_lay (clsOf 3).1 (clsOf 3).2.1 7 ∈ W0 := in_W0 (in_t1 160 rfl) rfl
theorem f_LY_3_8 : u_lay (clsOf 3).1 (clsOf 3).2.1 8 ∈ W0 := in_W0 (in_t1 162 rfl) rfl
theorem f_LY_3_9 : u_lay (clsOf 3).1 (clsOf 3).2.1 9 ∈ W0 := in_W0 (in_t1 164 rfl) rfl
theorem f_LY_3_10 : u_lay (clsOf 3).1 (clsOf 3).2.1 10 ∈ W0 := in_W0 (in_t1 166 rfl) rfl
theorem f_LY_3_11 : u_lay (clsOf 3).1 (clsOf 3).2.1 11 ∈ W0 := in_W0 (in_t1 168 rfl) rfl
theorem f_LY_3_12 : u_lay (clsOf 3).1 (clsOf 3).2.1 12 ∈ W0 := in_W0 (in_t1 170 rfl) rfl
theorem ly_3 : ∀ j, j < 13 → u_lay (clsOf 3).1 (clsOf 3).2.1 j ∈ W0 := by
  intro j hj
  match j, hj with
  | 0, _ => exact f_LY_3_0
  | 1, _ => exact f_LY_3_1
  | 2, _ => exact f_LY_3_2
  | 3, _ => exact f_LY_3_3
  | 4, _ => exact f_LY_3_4
  | 5, _ => exact f_LY_3_5
  | 6, _ => exact f_LY_3_6
  | 7, _ => exact f_LY_3_7
  | 8, _ => exact f_LY_3_8
  | 9, _ => exact f_LY_3_9
  | 10, _ => exact f_LY_3_10
  | 11, _ => exact f_LY_3_11
  | 12, _ => exact f_LY_3_12
  | k + 13, h => omega
theorem f_LY_4_0 : u_lay (clsOf 4).1 (clsOf 4).2.1 0 ∈ W0 := in_W0 (in_t1 192 rfl) rfl
theorem f_LY_4_1 : u_lay (clsOf 4).1 (clsOf 4).2.1 1 ∈ W0 := in_W0 (in_t1 194 rfl) rfl
theorem f_LY_4_2 : u_lay (clsOf 4).1 (clsOf 4).2.1 2 ∈ W0 := in_W0 (in_t1 196 rfl) rfl
theorem f_LY_4_3 : u_lay (clsOf 4).1 (clsOf 4).2.1 3 ∈ W0 := in_W0 (in_t1 198 rfl) rfl
theorem f_LY_4_4 : u_lay (clsOf 4).1 (clsOf 4).2.1 4 ∈ W0 := in_W0 (in_t1 200 rfl) rfl
theorem ly_4 : ∀ j, j < 5 → u_lay (clsOf 4).1 (clsOf 4).2.1 j ∈ W0 := by
  intro j hj
  match j, hj with
  | 0, _ => exact f_LY_4_0
  | 1, _ => exact f_LY_4_1
  | 2, _ => exact f_LY_4_2
  | 3, _ => exact f_LY_4_3
  | 4, _ => exact f_LY_4_4
  | k + 5, h => omega
theorem f_LY_5_0 : u_lay (clsOf 5).1 (clsOf 5).2.1 0 ∈ W0 := in_W0 (in_t2 44 rfl) rfl
theorem f_LY_5_1 : u_lay (clsOf 5).1 (clsOf 5).2.1 1 ∈ W0 := in_W0 (in_t2 46 rfl) rfl
theorem f_LY_5_2 : u_lay (clsOf 5).1 (clsOf 5).2.1 2 ∈ W0 := in_W0 (in_t2 48 rfl) rfl
theorem f_LY_5_3 : u_lay (clsOf 5).1 (clsOf 5).2.1 3 ∈ W0 := in_W0 (in_t2 50 rfl) rfl
theorem f_LY_5_4 : u_lay (clsOf 5).1 (clsOf 5).2.1 4 ∈ W0 := in_W0 (in_t2 52 rfl) rfl
theorem f_LY_5_5 : u_lay (clsOf 5).1 (clsOf 5).2.1 5 ∈ W0 := in_W0 (in_t2 54 rfl) rfl
theorem f_LY_5_6 : u_lay (clsOf 5).1 (clsOf 5).2.1 6 ∈ W0 := in_W0 (in_t2 56 rfl) rfl
theorem f_LY_5_7 : u_lay (clsOf 5).1 (clsOf 5).2.1 7 ∈ W0 := in_W0 (in_t2 58 rfl) rfl
theorem f_LY_5_8 : u_lay (clsOf 5).1 (clsOf 5).2.1 8 ∈ W0 := in_W0 (in_t2 60 rfl) rfl
theorem f_LY_5_9 : u_lay (clsOf 5).1 (clsOf 5).2.1 9 ∈ W0 := in_W0 (in_t2 62 rfl) rfl
theorem ly_5 : ∀ j, j < 10 → u_lay (clsOf 5).1 (clsOf 5).2.1 j ∈ W0 := by
  intro j hj
  match j, hj with
  | 0, _ => exact f_LY_5_0
  | 1, _ => exact f_LY_5_1
  | 2, _ => exact f_LY_5_2
  | 3, _ => exact f_LY_5_3
  | 4, _ => exact f_LY_5_4
  | 5, _ => exact f_LY_5_5
  | 6, _ => exact f_LY_5_6
  | 7, _ => exact f_LY_5_7
  | 8, _ => exact f_LY_5_8
  | 9, _ => exact f_LY_5_9
  | k + 10, h => omega
theorem f_LY_6_0 : u_lay (clsOf 6).1 (clsOf 6).2.1 0 ∈ W0 := in_W0 (in_t1 216 rfl) rfl
theorem f_LY_6_1 : u_lay (clsOf 6).1 (clsOf 6).2.1 1 ∈ W0 := in_W0 (in_t1 218 rfl) rfl
theorem f_LY_6_2 : u_lay (clsOf 6).1 (clsOf 6).2.1 2 ∈ W0 := in_W0 (in_t1 220 rfl) rfl
theorem f_LY_6_3 : u_lay (clsOf 6).1 (clsOf 6).2.1 3 ∈ W0 := in_W0 (in_t1 222 rfl) rfl
theorem ly_6 : ∀ j, j < 4 → u_lay (clsOf 6).1 (clsOf 6).2.1 j ∈ W0 := by
  intro j hj
  match j, hj with
  | 0, _ => exact f_LY_6_0
  | 1, _ => exact f_LY_6_1
  | 2, _ => exact f_LY_6_2
  | 3, _ => exact f_LY_6_3
  | k + 4, h => omega
theorem f_LY_7_0 : u_lay (clsOf 7).1 (clsOf 7).2.1 0 ∈ W0 := in_W0 (in_t1 76 rfl) rfl
theorem f_LY_7_1 : u_lay (clsOf 7).1 (clsOf 7).2.1 1 ∈ W0 := in_W0 (in_t1 78 rfl) rfl
theorem f_LY_7_2 : u_lay (clsOf 7).1 (clsOf 7).2.1 2 ∈ W0 := in_W0 (in_t1 80 rfl) rfl
theorem f_LY_7_3 : u_lay (clsOf 7).1 (clsOf 7).2.1 3 ∈ W0 := in_W0 (in_t1 82 rfl) rfl
theorem f_LY_7_4 : u_lay (clsOf 7).1 (clsOf 7).2.1 4 ∈ W0 := in_W0 (in_t1 84 rfl) rfl
theorem ly_7 : ∀ j, j < 5 → u_lay (clsOf 7).1 (clsOf 7).2.1 j ∈ W0 := by
  intro j hj
  match j, hj with
  | 0, _ => exact f_LY_7_0
  | 1, _ => exact f_LY_7_1
  | 2, _ => exact f_LY_7_2
  | 3, _ => exact f_LY_7_3
  | 4, _ => exact f_LY_7_4
  | k + 5, h => omega
theorem f_LY_8_0 : u_lay (clsOf 8).1 (clsOf 8).2.1 0 ∈ W0 := in_W0 (in_t2 133 rfl) rfl
theorem f_LY_8_1 : u_lay (clsOf 8).1 (clsOf 8).2.1 1 ∈ W0 := in_W0 (in_t2 135 rfl) rfl
theorem f_LY_8_2 : u_lay (clsOf 8).1 (clsOf 8).2.1 2 ∈ W0 := in_W0 (in_t2 137 rfl) rfl
theorem f_LY_8_3 : u_lay (clsOf 8).1 (clsOf 8).2.1 3 ∈ W0 := in_W0 (in_t2 139 rfl) rfl
theorem f_LY_8_4 : u_lay (clsOf 8).1 (clsOf 8).2.1 4 ∈ W0 := in_W0 (in_t2 141 rfl) rfl
theorem ly_8 : ∀ j, j < 5 → u_lay (clsOf 8).1 (clsOf 8).2.1 j ∈ W0 := by
  intro j hj
  match j, hj with
  | 0, _ => exact f_LY_8_0
  | 1, _ => exact f_LY_8_1
  | 2, _ => exact f_LY_8_2
  | 3, _ => exact f_LY_8_3
  | 4, _ => exact f_LY_8_4
  | k + 5, h => omega
theorem f_LY_9_0 : u_lay (clsOf 9).1 (clsOf 9).2.1 0 ∈ W0 := in_W0 (in_t1 37 rfl) rfl
theorem f_LY_9_1 : u_lay (clsOf 9).1 (clsOf 9).2.1 1 ∈ W0 := in_W0 (in_t1 39 rfl) rfl
theorem f_LY_9_2 : u_lay (clsOf 9).1 (clsOf 9).2.1 2 ∈ W0 := in_W0 (in_t1 41 rfl) rfl
theorem ly_9 : ∀ j, j < 3 → u_lay (clsOf 9).1 (clsOf 9).2.1 j ∈ W0 := by
  intro j hj
  match j, hj with
  | 0, _ => exact f_LY_9_0
  | 1, _ => exact f_LY_9_1
  | 2, _ => exact f_LY_9_2
  | k + 3, h => omega
theorem f_LY_10_0 : u_lay (clsOf 10).1 (clsOf 10).2.1 0 ∈ W0 := in_W0 (in_t2 14 rfl) rfl
theorem f_LY_10_1 : u_lay (clsOf 10).1 (clsOf 10).2.1 1 ∈ W0 := in_W0 (in_t2 16 rfl) rfl
theorem f_LY_10_2 : u_lay (clsOf 10).1 (clsOf 10).2.1 2 ∈ W0 := in_W0 (in_t2 18 rfl) rfl
theorem f_LY_10_3 : u_lay (clsOf 10).1 (clsOf 10).2.1 3 ∈ W0 := in_W0 (in_t2 20 rfl) rfl
theorem ly_10 : ∀ j, j < 4 → u_lay (clsOf 10).1 (clsOf 10).2.1 j ∈ W0 := by
  intro j hj
  match j, hj with
  | 0, _ => exact f_LY_10_0
  | 1, _ => exact f_LY_10_1
  | 2, _ => exact f_LY_10_2
  | 3, _ => exact f_LY_10_3
  | k + 4, h => omega
theorem f_LY_11_0 : u_lay (clsOf 11).1 (clsOf 11).2.1 0 ∈ W0 := in_W0 (in_t2 163 rfl) rfl
theorem f_LY_11_1 : u_lay (clsOf 11).1 (clsOf 11).2.1 1 ∈ W0 := in_W0 (in_t2 165 rfl) rfl
theorem f_LY_11_2 : u_lay (clsOf 11).1 (clsOf 11).2.1 2 ∈ W0 := in_W0 (in_t2 167 rfl) rfl
theorem f_LY_11_3 : u_lay (clsOf 11).1 (clsOf 11).2.1 3 ∈ W0 := in_W0 (in_t2 169 rfl) rfl
theorem f_LY_11_4 : u_lay (clsOf 11).1 (clsOf 11).2.1 4 ∈ W0 := in_W0 (in_t2 171 rfl) rfl
theorem f_LY_11_5 : u_lay (clsOf 11).1 (clsOf 11).2.1 5 ∈ W0 := in_W0 (in_t2 173 rfl) rfl
theorem f_LY_11_6 : u_lay (clsOf 11).1 (clsOf 11).2.1 6 ∈ W0 := in_W0 (in_t2 175 rfl) rfl
theorem f_LY_11_7 : u_lay (clsOf 11).1 (clsOf 11).2.1 7 ∈ W0 := in_W0 (in_t2 177 rfl) rfl
theorem f_LY_11_8 : u_lay (clsOf 11).1 (clsOf 11).2.1 8 ∈ W0 := in_W0 (in_t2 179 rfl) rfl
theorem f_LY_11_9 : u_lay (clsOf 11).1 (clsOf 11).2.1 9 ∈ W0 := in_W0 (in_t2 181 rfl) rfl
theorem f_LY_11_10 : u_lay (clsOf 11).1 (clsOf 11).2.1 10 ∈ W0 := in_W0 (in_t2 183 rfl) rfl
theorem f_LY_11_11 : u_lay (clsOf 11).1 (clsOf 11).2.1 11 ∈ W0 := in_W0 (in_t2 185 rfl) rfl
theorem f_LY_11_12 : u_lay (clsOf 11).1 (clsOf 11).2.1 12 ∈ W0 := in_W0 (in_t2 187 rfl) rfl
theorem f_LY_11_13 : u_lay (clsOf 11).1 (clsOf 11).2.1 13 ∈ W0 := in_W0 (in_t2 189 rfl) rfl
theorem f_LY_11_14 : u_lay (clsOf 11).1 (clsOf 11).2.1 14 ∈ W0 := in_W0 (in_t2 191 rfl) rfl
theorem f_LY_11_15 : u_lay (clsOf 11).1 (clsOf 11).2.1 15 ∈ W0 := in_W0 (in_t2 193 rfl) rfl
theorem f_LY_11_16 : u_lay (clsOf 11).1 (clsOf 11).2.1 16 ∈ W0 := in_W0 (in_t2 195 rfl) rfl
theorem f_LY_11_17 : u_lay (clsOf 11).1 (clsOf 11).2.1 17 ∈ W0 := in_W0 (in_t2 197 rfl) rfl
theorem f_LY_11_18 : u_lay (clsOf 11).1 (clsOf 11).2.1 18 ∈ W0 := in_W0 (in_t2 199 rfl) rfl
theorem ly_11 : ∀ j, j < 19 → u_lay (clsOf 11).1 (clsOf 11).2.1 j ∈ W0 := by
  intro j hj
  match j, hj with
  | 0, _ => exact f_LY_11_0
  | 1, _ => exact f_LY_11_1
  | 2, _ => exact f_LY_11_2
  | 3, _ => exact f_LY_11_3
  | 4, _ => exact f_LY_11_4
  | 5, _ => exact f_LY_11_5
  | 6, _ => exact f_LY_11_6
  | 7, _ => exact f_LY_11_7
  | 8, _ => exact f_LY_11_8
  | 9, _ => exact f_LY_11_9
  | 10, _ => exact f_LY_11_10
  | 11, _ => exact f_LY_11_11
  | 12, _ => exact f_LY_11_12
  | 13, _ => exact f_LY_11_13
  | 14, _ => exact f_LY_11_14
  | 15, _ => exact f_LY_11_15
  | 16, _ => exact f_LY_11_16
  | 17, _ => exact f_LY_11_17
  | 18, _ => exact f_LY_11_18
  | k + 19, h => omega
theorem f_LY_12_0 : u_lay (clsOf 12).1 (clsOf 12).2.1 0 ∈ W0 := in_W0 (in_t5 146 rfl) rfl
theorem f_LY_12_1 : u_lay (clsOf 12).1 (clsOf 12).2.1 1 ∈ W0 := in_W0 (in_t5 148 rfl) rfl
theorem f_LY_12_2 : u_lay (clsOf 12).1 (clsOf 12).2.1 2 ∈ W0 := in_W0 (in_t5 150 rfl) rfl
theorem f_LY_12_3 : u_lay (clsOf 12).1 (clsOf 12).2.1 3 ∈ W0 := in_W0 (in_t5 152 rfl) rfl
theorem f_LY_12_4 : u_lay (clsOf 12).1 (clsOf 12).2.1 4 ∈ W0 := in_W0 (in_t5 154 rfl) rfl
theorem f_LY_12_5 : u_lay (clsOf 12).1 (clsOf 12).2.1 5 ∈ W0 := in_W0 (in_t5 156 rfl) rfl
theorem f_LY_12_6 : u_lay (clsOf 12).1 (clsOf 12).2.1 6 ∈ W0 := in_W0 (in_t5 158 rfl) rfl
theorem f_LY_12_7 : u_lay (clsOf 12).1 (clsOf 12).2.1 7 ∈ W0 := in_W0 (in_t5 160 rfl) rfl
theorem f_LY_12_8 : u_lay (clsOf 12).1 (clsOf 12).2.1 8 ∈ W0 := in_W0 (in_t5 162 rfl) rfl
theorem f_LY_12_9 : u_lay (clsOf 12).1 (clsOf 12).2.1 9 ∈ W0 := in_W0 (in_t5 164 rfl) rfl
theorem f_LY_12_10 : u_lay (clsOf 12).1 (clsOf 12).2.1 10 ∈ W0 := in_W0 (in_t5 166 rfl) rfl
theorem f_LY_12_11 : u_lay (clsOf 12).1 (clsOf 12).2.1 11 ∈ W0 := in_W0 (in_t5 168 rfl) rfl
theorem f_LY_12_12 : u_lay (clsOf 12).1 (clsOf 12).2.1 12 ∈ W0 := in_W0 (in_t5 170 rfl) rfl
theorem f_LY_12_13 : u_lay (clsOf 12).1 (clsOf 12).2.1 13 ∈ W0 := in_W0 (in_t5 172 rfl) rfl
theorem f_LY_12_14 : u_lay (clsOf 12).1 (clsOf 12).2.1 14 ∈ W0 := in_W0 (in_t5 174 rfl) rfl
theorem f_LY_12_15 : u_lay (clsOf 12).1 (clsOf 12).2.1 15 ∈ W0 := in_W0 (in_t5 176 rfl) rfl
theorem f_LY_12_16 : u_lay (clsOf 12).1 (clsOf 12).2.1 16 ∈ W0 := in_W0 (in_t5 178 rfl) rfl
theorem f_LY_12_17 : u_lay (clsOf 12).1 (clsOf 12).2.1 17 ∈ W0 := in_W0 (in_t5 180 rfl) rfl
theorem f_LY_12_18 : u_lay (clsOf 12).1 (clsOf 12).2.1 18 ∈ W0 := in_W0 (in_t5 182 rfl) rfl
theorem f_LY_12_19 : u_lay (clsOf 12).1 (clsOf 12).2.1 19 ∈ W0 := in_W0 (in_t5 184 rfl) rfl
theorem f_LY_12_20 : u_lay (clsOf 12).1 (clsOf 12).2.1 20 ∈ W0 := in_W0 (in_t5 186 rfl) rfl
theorem f_LY_12_21 : u_lay (clsOf 12).1 (clsOf 12).2.1 21 ∈ W0 := in_W0 (in_t5 188 rfl) rfl
theorem f_LY_12_22 : u_lay (clsOf 12).1 (clsOf 12).2.1 22 ∈ W0 := in_W0 (in_t5 190 rfl) rfl
theorem f_LY_12_23 : u_lay (clsOf 12).1 (clsOf 12).2.1 23 ∈ W0 := in_W0 (in_t5 192 rfl) rfl
theorem f_LY_12_24 : u_lay (clsOf 12).1 (clsOf 12).2.1 24 ∈ W0 := in_W0 (in_t5 194 rfl) rfl
theorem f_LY_12_25 : u_lay (clsOf 12).1 (clsOf 12).2.1 25 ∈ W0 := in_W0 (in_t5 196 rfl) rfl
theorem f_LY_12_26 : u_lay (clsOf 12).1 (clsOf 12).2.1 26 ∈ W0 := in_W0 (in_t5 198 rfl) rfl
theorem f_LY_12_27 : u_lay (clsOf 12).1 (clsOf 12).2.1 27 ∈ W0 := in_W0 (in_t5 200 rfl) rfl
theorem f_LY_12_28 : u_lay (clsOf 12).1 (clsOf 12).2.1 28 ∈ W0 := in_W0 (in_t5 202 rfl) rfl
theorem f_LY_12_29 : u_lay (clsOf 12).1 (clsOf 12).2.1 29 ∈ W0 := in_W0 (in_t5 204 rfl) rfl
theorem f_LY_12_30 : u_lay (clsOf 12).1 (clsOf 12).2.1 30 ∈ W0 := in_W0 (in_t5 206 rfl) rfl
theorem f_LY_12_31 : u_lay (clsOf 12).1 (clsOf 12).2.1 31 ∈ W0 := in_W0 (in_t5 208 rfl) rfl
theorem f_LY_12_32 : u_lay (clsOf 12).1 (clsOf 12).2.1 32 ∈ W0 := in_W0 (in_t5 210 rfl) rfl
theorem f_LY_12_33 : u_lay (clsOf 12).1 (clsOf 12).2.1 33 ∈ W0 := in_W0 (in_t5 212 rfl) rfl
theorem f_LY_12_34 : u_lay (clsOf 12).1 (clsOf 12).2.1 34 ∈ W0 := in_W0 (in_t5 214 rfl) rfl
theorem f_LY_12_35 : u_lay (clsOf 12).1 (clsOf 12).2.1 35 ∈ W0 := in_W0 (in_t5 216 rfl) rfl
theorem f_LY_12_36 : u_lay (clsOf 12).1 (clsOf 12).2.1 36 ∈ W0 := in_W0 (in_t5 218 rfl) rfl
theorem f_LY_12_37 : u_lay (clsOf 12).1 (clsOf 12).2.1 37 ∈ W0 := in_W0 (in_t5 220 rfl) rfl
theorem f_LY_12_38 : u_lay (clsOf 12).1 (clsOf 12).2.1 38 ∈ W0 := in_W0 (in_t5 222 rfl) rfl
theorem f_LY_12_39 : u_lay (clsOf 12).1 (clsOf 12).2.1 39 ∈ W0 := in_W0 (in_t5 224 rfl) rfl
theorem f_LY_12_40 : u_lay (clsOf 12).1 (clsOf 12).2.1 40 ∈ W0 := in_W0 (in_t5 226 rfl) rfl
theorem f_LY_12_41 : u_lay (clsOf 12).1 (clsOf 12).2.1 41 ∈ W0 := in_W0 (in_t5 228 rfl) rfl
theorem f_LY_12_42 : u_lay (clsOf 12).1 (clsOf 12).2.1 42 ∈ W0 := in_W0 (in_t5 230 rfl) rfl
theorem f_LY_12_43 : u_lay (clsOf 12).1 (clsOf 12).2.1 43 ∈ W0 := in_W0 (in_t5 232 rfl) rfl
theorem f_LY_12_44 : u_lay (clsOf 12).1 (clsOf 12).2.1 44 ∈ W0 := in_W0 (in_t5 234 rfl) rfl
theorem f_LY_12_45 : u_lay (clsOf 12).1 (clsOf 12).2.1 45 ∈ W0 := in_W0 (in_t5 236 rfl) rfl
theorem f_LY_12_46 : u_lay (clsOf 12).1 (clsOf 12).2.1 46 ∈ W0 := in_W0 (in_t5 238 rfl) rfl
theorem f_LY_12_47 : u_lay (clsOf 12).1 (clsOf 12).2.1 47 ∈ W0 := in_W0 (in_t6 0 rfl) rfl
theorem f_LY_12_48 : u_lay (clsOf 12).1 (clsOf 12).2.1 48 ∈ W0 := in_W0 (in_t6 2 rfl) rfl
theorem f_LY_12_49 : u_lay (clsOf 12).1 (clsOf 12).2.1 49 ∈ W0 := in_W0 (in_t6 4 rfl) rfl
theorem f_LY_12_50 : u_lay (clsOf 12).1 (clsOf 12).2.1 50 ∈ W0 := in_W0 (in_t6 6 rfl) rfl
theorem f_LY_12_51 : u_lay (clsOf 12).1 (clsOf 12).2.1 51 ∈ W0 := in_W0 (in_t6 8 rfl) rfl
theorem f_LY_12_52 : u_lay (clsOf 12).1 (clsOf 12).2.1 52 ∈ W0 := in_W0 (in_t6 10 rfl) rfl
theorem f_LY_12_53 : u_lay (clsOf 12).1 (clsOf 12).2.1 53 ∈ W0 := in_W0 (in_t6 12 rfl) rfl
theorem f_LY_12_54 : u_lay (clsOf 12).1 (clsOf 12).2.1 54 ∈ W0 := in_W0 (in_t6 14 rfl) rfl
theorem f_LY_12_55 : u_lay (clsOf 12).1 (clsOf 12).2.1 55 ∈ W0 := in_W0 (in_t6 16 rfl) rfl
theorem f_LY_12_56 : u_lay (clsOf 12).1 (clsOf 12).2.1 56 ∈ W0 := in_W0 (in_t6 18 rfl) rfl
theorem f_LY_12_57 : u_lay (clsOf 12).1 (clsOf 12).2.1 57 ∈ W0 := in_W0 (in_t6 20 rfl) rfl
theorem f_LY_12_58 : u_lay (clsOf 12).1 (clsOf 12).2.1 58 ∈ W0 := in_W0 (in_t6 22 rfl) rfl
theorem f_LY_12_59 : u_lay (clsOf 12).1 (clsOf 12).2.1 59 ∈ W0 := in_W0 (in_t6 24 rfl) rfl
theorem f_LY_12_60 : u_lay (clsOf 12).1 (clsOf 12).2.1 60 ∈ W0 := in_W0 (in_t6 26 rfl) rfl
theorem f_LY_12_61 : u_lay (clsOf 12).1 (clsOf 12).2.1 61 ∈ W0 := in_W0 (in_t6 28 rfl) rfl
theorem f_LY_12_62 : u_lay (clsOf 12).1 (clsOf 12).2.1 62 ∈ W0 := in_W0 (in_t6 30 rfl) rfl
theorem f_LY_12_63 : u_lay (clsOf 12).1 (clsOf 12).2.1 63 ∈ W0 := in_W0 (in_t6 32 rfl) rfl
theorem f_LY_12_64 : u_lay (clsOf 12).1 (clsOf 12).2.1 64 ∈ W0 := in_W0 (in_t6 34 rfl) rfl
theorem ly_12 : ∀ j, j < 65 → u_lay (clsOf 12).1 (clsOf 12).2.1 j ∈ W0 := by
  intro j hj
  match j, hj with
  | 0, _ => exact f_LY_12_0
  | 1, _ => exact f_LY_12_1
  | 2, _ => exact f_LY_12_2
  | 3, _ => exact f_LY_12_3
  | 4, _ => exact f_LY_12_4
  | 5, _ => exact f_LY_12_5
  | 6, _ => exact f_LY_12_6
  | 7, _ => exact f_LY_12_7
  | 8, _ => exact f_LY_12_8
  | 9, _ => exact f_LY_12_9
  | 10, _ => exact f_LY_12_10
  | 11, _ => exact f_LY_12_11
  | 12, _ => exact f_LY_12_12
  | 13, _ => exact f_LY_12_13
  | 14, _ => exact f_LY_12_14
  | 15, _ => exact f_LY_12_15
  | 16, _ => exact f_LY_12_16
  | 17, _ => exact f_LY_12_17
  | 18, _ => exact f_LY_12_18
  | 19, _ => exact f_LY_12_19
  | 20, _ => exact f_LY_12_20
  | 21, _ => exact f_LY_12_21
  | 22, _ => exact f_LY_12_22
  | 23, _ => exact f_LY_12_23
  | 24, _ => exact f_LY_12_24
  | 25, _ => exact f_LY_12_25
  | 26, _ => exact f_LY_12_26
  | 27, _ => exact f_LY_12_27
  | 28, _ => exact f_LY_12_28
  | 29, _ => exact f_LY_12_29
  | 30, _ => exact f_LY_12_30
  | 31, _ => exact f_LY_12_31
  | 32, _ => exact f_LY_12_32
  | 33, _ => exact f_LY_12_33
  | 34, _ => exact f_LY_12_34
  | 35, _ => exact f_LY_12_35
  | 36, _ => exact f_LY_12_36
  | 37, _ => exact f_LY_12_37
  | 38, _ => exact f_LY_12_38
  | 39, _ => exact f_LY_12_39
  | 40, _ => exact f_LY_12_40
  | 41, _ => exact f_LY_12_41
  | 42, _ => exact f_LY_12_42
  | 43, _ => exact f_LY_12_43
  | 44, _ => exact f_LY_12_44
  | 45, _ => exact f_LY_12_45
  | 46, _ => exact f_LY_12_46
  | 47, _ => exact f_LY_12_47
  | 48, _ => exact f_LY_12_48
  | 49, _ => exact f_LY_12_49
  | 50, _ => exact f_LY_12_50
  | 51, _ => exact f_LY_12_51
  | 52, _ => exact f_LY_12_52
  | 53, _ => exact f_LY_12_53
  | 54, _ => exact f_LY_12_54
  | 55, _ => exact f_LY_12_55
  | 56, _ => exact f_LY_12_56
  | 57, _ => exact f_LY_12_57
  | 58, _ => exact f_LY_12_58
  | 59, _ => exact f_LY_12_59
  | 60, _ => exact f_LY_12_60
  | 61, _ => exact f_LY_12_61
  | 62, _ => exact f_LY_12_62
  | 63, _ => exact f_LY_12_63
  | 64, _ => exact f_LY_12_64
  | k + 65, h => omega
theorem cls_in : ∀ a, a < 13 → ∀ w ∈ u_ws (clsOf a).1 (clsOf a).2.1 (clsOf a).2.2, w ∈ W0 := by
  intro a ha w hw
  obtain ⟨j, hj, rfl⟩ := List.mem_map.mp hw
  have hj := List.mem_range.mp hj
  match a, ha with
  | 0, _ => exact ly_0 j hj
  | 1, _ => exact ly_1 j hj
  | 2, _ => exact ly_2 j hj
  | 3, _ => exact ly_3 j hj
  | 4, _ => exact ly_4 j hj
  | 5, _ => exact ly_5 j hj
  | 6, _ => exact ly_6 j hj
  | 7, _ => exact ly_7 j hj
  | 8, _ => exact ly_8 j hj
  | 9, _ => exact ly_9 j hj
  | 10, _ => exact ly_10 j hj
  | 11, _ => exact ly_11 j hj
  | 12, _ => exact ly_12 j hj
  | k + 13, h => omega
theorem ini_math : Jvm.Cond.initialized "java/lang/Math" ∈ W0 := in_W0 (in_t1 16 rfl) rfl
theorem mnm_4 : mN (callee 250) = Lib.MathLoose.abs_long.x := rfl
theorem mst_4 : Jvm.Cond.static Lib.MathLoose.abs_long.x ∈ W0 := in_W0 (in_t4 31 rfl) rfl
theorem mco_4 : Jvm.Cond.code Lib.MathLoose.abs_long.x Lib.MathLoose.abs_long.code 2 (some .long) ∈ W0 := in_W0 (in_t4 32 rfl) rfl
theorem mnm_0 : mN (callee 251) = Lib.Math.max.name := rfl
theorem mst_0 : Jvm.Cond.static Lib.Math.max.name ∈ W0 := in_W0 (in_t4 142 rfl) rfl
theorem mco_0 : Jvm.Cond.code Lib.Math.max.name Lib.Math.max.code 2 (some .int) ∈ W0 := in_W0 (in_t4 143 rfl) rfl
theorem mnm_2 : mN (callee 252) = Lib.MathLoose.max_long.x := rfl
theorem mst_2 : Jvm.Cond.static Lib.MathLoose.max_long.x ∈ W0 := in_W0 (in_t3 207 rfl) rfl
theorem mco_2 : Jvm.Cond.code Lib.MathLoose.max_long.x Lib.MathLoose.max_long.code 4 (some .long) ∈ W0 := in_W0 (in_t3 208 rfl) rfl
theorem mnm_1 : mN (callee 253) = Lib.Math.min.name := rfl
theorem mst_1 : Jvm.Cond.static Lib.Math.min.name ∈ W0 := in_W0 (in_t4 161 rfl) rfl
theorem mco_1 : Jvm.Cond.code Lib.Math.min.name Lib.Math.min.code 2 (some .int) ∈ W0 := in_W0 (in_t4 162 rfl) rfl
theorem mnm_3 : mN (callee 254) = Lib.MathLoose.min_long.x := rfl
theorem mst_3 : Jvm.Cond.static Lib.MathLoose.min_long.x ∈ W0 := in_W0 (in_t4 24 rfl) rfl
theorem mco_3 : Jvm.Cond.code Lib.MathLoose.min_long.x Lib.MathLoose.min_long.code 4 (some .long) ∈ W0 := in_W0 (in_t4 25 rfl) rfl
theorem mid_at : ∀ a b : Nat, mathI a b = true → (a = 250 ∧ b = 4) ∨ (a = 251 ∧ b = 0) ∨ (a = 252 ∧ b = 2) ∨ (a = 253 ∧ b = 1) ∨ (a = 254 ∧ b = 3) := by
  intro a b h
  simp [mathI] at h
  omega
