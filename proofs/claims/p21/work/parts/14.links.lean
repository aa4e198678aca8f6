/-! ===== links, by class number and pool number ===== -/
theorem fr_0_11 : mjFr 0 11 = some (0, 0) := by decide +kernel
theorem fr_0_15 : mjFr 0 15 = some (0, 1) := by decide +kernel
theorem fr_0_18 : mjFr 0 18 = some (0, 2) := by decide +kernel
theorem fr_0_21 : mjFr 0 21 = some (0, 3) := by decide +kernel
theorem fr_1_9 : mjFr 1 9 = some (1, 0) := by decide +kernel
theorem fr_1_15 : mjFr 1 15 = some (1, 1) := by decide +kernel
theorem fr_1_19 : mjFr 1 19 = some (1, 2) := by decide +kernel
theorem fr_1_23 : mjFr 1 23 = some (1, 3) := by decide +kernel
theorem fr_1_27 : mjFr 1 27 = some (7, 14) := by decide +kernel
theorem fr_1_33 : mjFr 1 33 = some (1, 4) := by decide +kernel
theorem fr_1_34 : mjFr 1 34 = some (7, 15) := by decide +kernel
theorem fr_1_38 : mjFr 1 38 = some (1, 5) := by decide +kernel
theorem fr_1_41 : mjFr 1 41 = some (1, 8) := by decide +kernel
theorem fr_1_45 : mjFr 1 45 = some (1, 9) := by decide +kernel
theorem fr_1_49 : mjFr 1 49 = some (1, 10) := by decide +kernel
theorem fr_1_60 : mjFr 1 60 = some (6, 4) := by decide +kernel
theorem fr_1_68 : mjFr 1 68 = some (6, 2) := by decide +kernel
theorem fr_1_71 : mjFr 1 71 = some (1, 6) := by decide +kernel
theorem fr_1_74 : mjFr 1 74 = some (6, 3) := by decide +kernel
theorem fr_1_75 : mjFr 1 75 = some (1, 7) := by decide +kernel
theorem fr_1_78 : mjFr 1 78 = some (6, 9) := by decide +kernel
theorem fr_1_81 : mjFr 1 81 = some (0, 3) := by decide +kernel
theorem fr_1_86 : mjFr 1 86 = some (8, 8) := by decide +kernel
theorem fr_1_99 : mjFr 1 99 = some (1, 11) := by decide +kernel
theorem fr_1_102 : mjFr 1 102 = some (1, 12) := by decide +kernel
theorem fr_1_105 : mjFr 1 105 = some (8, 7) := by decide +kernel
theorem fr_1_108 : mjFr 1 108 = some (6, 6) := by decide +kernel
theorem fr_1_170 : mjFr 1 170 = some (1, 16) := by decide +kernel
theorem fr_1_173 : mjFr 1 173 = some (1, 13) := by decide +kernel
theorem fr_1_176 : mjFr 1 176 = some (1, 14) := by decide +kernel
theorem fr_1_179 : mjFr 1 179 = some (1, 15) := by decide +kernel
theorem fr_1_296 : mjFr 1 296 = some (6, 5) := by decide +kernel
theorem fr_2_11 : mjFr 2 11 = some (2, 2) := by decide +kernel
theorem fr_2_15 : mjFr 2 15 = some (2, 3) := by decide +kernel
theorem fr_2_18 : mjFr 2 18 = some (2, 4) := by decide +kernel
theorem fr_2_21 : mjFr 2 21 = some (2, 5) := by decide +kernel
theorem fr_2_26 : mjFr 2 26 = some (2, 6) := by decide +kernel
theorem fr_2_29 : mjFr 2 29 = some (2, 0) := by decide +kernel
theorem fr_2_39 : mjFr 2 39 = some (2, 1) := by decide +kernel
theorem fr_3_9 : mjFr 3 9 = some (3, 0) := by decide +kernel
theorem fr_3_13 : mjFr 3 13 = some (3, 1) := by decide +kernel
theorem fr_3_16 : mjFr 3 16 = some (3, 2) := by decide +kernel
theorem fr_3_20 : mjFr 3 20 = some (3, 3) := by decide +kernel
theorem fr_3_23 : mjFr 3 23 = some (3, 4) := by decide +kernel
theorem fr_4_9 : mjFr 4 9 = some (4, 0) := by decide +kernel
theorem fr_4_15 : mjFr 4 15 = some (4, 1) := by decide +kernel
theorem fr_4_19 : mjFr 4 19 = some (4, 2) := by decide +kernel
theorem fr_4_23 : mjFr 4 23 = some (7, 14) := by decide +kernel
theorem fr_4_29 : mjFr 4 29 = some (4, 3) := by decide +kernel
theorem fr_4_30 : mjFr 4 30 = some (4, 5) := by decide +kernel
theorem fr_4_34 : mjFr 4 34 = some (4, 6) := by decide +kernel
theorem fr_4_39 : mjFr 4 39 = some (4, 7) := by decide +kernel
theorem fr_4_42 : mjFr 4 42 = some (4, 4) := by decide +kernel
theorem fr_4_82 : mjFr 4 82 = some (7, 0) := by decide +kernel
theorem fr_4_86 : mjFr 4 86 = some (8, 3) := by decide +kernel
theorem fr_4_107 : mjFr 4 107 = some (7, 1) := by decide +kernel
theorem fr_4_114 : mjFr 4 114 = some (8, 4) := by decide +kernel
theorem fr_4_125 : mjFr 4 125 = some (7, 5) := by decide +kernel
theorem fr_4_136 : mjFr 4 136 = some (7, 3) := by decide +kernel
theorem fr_4_139 : mjFr 4 139 = some (8, 5) := by decide +kernel
theorem fr_4_153 : mjFr 4 153 = some (7, 9) := by decide +kernel
theorem fr_4_156 : mjFr 4 156 = some (7, 10) := by decide +kernel
theorem fr_4_162 : mjFr 4 162 = some (8, 6) := by decide +kernel
theorem fr_4_165 : mjFr 4 165 = some (6, 3) := by decide +kernel
theorem fr_4_171 : mjFr 4 171 = some (8, 7) := by decide +kernel
theorem fr_4_174 : mjFr 4 174 = some (6, 1) := by decide +kernel
theorem fr_4_180 : mjFr 4 180 = some (6, 6) := by decide +kernel
theorem fr_4_200 : mjFr 4 200 = some (6, 0) := by decide +kernel
theorem fr_4_203 : mjFr 4 203 = some (6, 2) := by decide +kernel
theorem fr_4_206 : mjFr 4 206 = some (6, 4) := by decide +kernel
theorem fr_5_9 : mjFr 5 9 = some (5, 0) := by decide +kernel
theorem fr_5_15 : mjFr 5 15 = some (5, 2) := by decide +kernel
theorem fr_5_19 : mjFr 5 19 = some (7, 15) := by decide +kernel
theorem fr_5_25 : mjFr 5 25 = some (5, 3) := by decide +kernel
theorem fr_5_29 : mjFr 5 29 = some (5, 1) := by decide +kernel
theorem fr_5_33 : mjFr 5 33 = some (5, 5) := by decide +kernel
theorem fr_5_37 : mjFr 5 37 = some (5, 14) := by decide +kernel
theorem fr_5_40 : mjFr 5 40 = some (5, 11) := by decide +kernel
theorem fr_5_44 : mjFr 5 44 = some (5, 8) := by decide +kernel
theorem fr_5_47 : mjFr 5 47 = some (5, 9) := by decide +kernel
theorem fr_5_50 : mjFr 5 50 = some (5, 10) := by decide +kernel
theorem fr_5_53 : mjFr 5 53 = some (5, 12) := by decide +kernel
theorem fr_5_56 : mjFr 5 56 = some (5, 13) := by decide +kernel
theorem fr_5_59 : mjFr 5 59 = some (5, 6) := by decide +kernel
theorem fr_5_65 : mjFr 5 65 = some (2, 1) := by decide +kernel
theorem fr_5_77 : mjFr 5 77 = some (5, 7) := by decide +kernel
theorem fr_5_86 : mjFr 5 86 = some (7, 14) := by decide +kernel
theorem fr_5_90 : mjFr 5 90 = some (6, 9) := by decide +kernel
theorem fr_5_93 : mjFr 5 93 = some (5, 4) := by decide +kernel
theorem fr_5_99 : mjFr 5 99 = some (0, 3) := by decide +kernel
theorem fr_5_104 : mjFr 5 104 = some (0, 0) := by decide +kernel
theorem fr_5_107 : mjFr 5 107 = some (0, 2) := by decide +kernel
theorem fr_5_114 : mjFr 5 114 = some (0, 1) := by decide +kernel
theorem fr_5_145 : mjFr 5 145 = some (2, 3) := by decide +kernel
theorem fr_5_157 : mjFr 5 157 = some (2, 5) := by decide +kernel
theorem fr_5_184 : mjFr 5 184 = some (2, 0) := by decide +kernel
theorem fr_5_187 : mjFr 5 187 = some (2, 4) := by decide +kernel
theorem fr_5_200 : mjFr 5 200 = some (6, 6) := by decide +kernel
theorem fr_5_206 : mjFr 5 206 = some (6, 1) := by decide +kernel
theorem fr_5_215 : mjFr 5 215 = some (7, 1) := by decide +kernel
theorem fr_5_218 : mjFr 5 218 = some (7, 8) := by decide +kernel
theorem fr_5_234 : mjFr 5 234 = some (6, 2) := by decide +kernel
theorem fr_5_237 : mjFr 5 237 = some (2, 2) := by decide +kernel
theorem fr_6_17 : mjFr 6 17 = some (6, 2) := by decide +kernel
theorem fr_6_21 : mjFr 6 21 = some (6, 3) := by decide +kernel
theorem fr_6_24 : mjFr 6 24 = some (6, 4) := by decide +kernel
theorem fr_6_31 : mjFr 6 31 = some (6, 6) := by decide +kernel
theorem fr_6_34 : mjFr 6 34 = some (6, 7) := by decide +kernel
theorem fr_6_43 : mjFr 6 43 = some (6, 0) := by decide +kernel
theorem fr_7_11 : mjFr 7 11 = some (7, 1) := by decide +kernel
theorem fr_7_18 : mjFr 7 18 = some (7, 3) := by decide +kernel
theorem fr_7_21 : mjFr 7 21 = some (7, 4) := by decide +kernel
theorem fr_7_24 : mjFr 7 24 = some (7, 5) := by decide +kernel
theorem fr_7_27 : mjFr 7 27 = some (7, 6) := by decide +kernel
theorem fr_7_30 : mjFr 7 30 = some (7, 7) := by decide +kernel
theorem fr_7_33 : mjFr 7 33 = some (7, 8) := by decide +kernel
theorem fr_7_36 : mjFr 7 36 = some (7, 9) := by decide +kernel
theorem fr_7_39 : mjFr 7 39 = some (7, 10) := by decide +kernel
theorem fr_7_42 : mjFr 7 42 = some (7, 11) := by decide +kernel
theorem fr_7_45 : mjFr 7 45 = some (7, 12) := by decide +kernel
theorem fr_7_48 : mjFr 7 48 = some (7, 13) := by decide +kernel
theorem fr_7_55 : mjFr 7 55 = some (7, 14) := by decide +kernel
theorem fr_7_62 : mjFr 7 62 = some (7, 15) := by decide +kernel
theorem fr_7_66 : mjFr 7 66 = some (7, 0) := by decide +kernel
theorem fr_7_82 : mjFr 7 82 = some (0, 3) := by decide +kernel
theorem fr_7_109 : mjFr 7 109 = some (6, 0) := by decide +kernel
theorem fr_7_112 : mjFr 7 112 = some (6, 2) := by decide +kernel
theorem fr_7_115 : mjFr 7 115 = some (6, 5) := by decide +kernel
theorem fr_7_118 : mjFr 7 118 = some (6, 4) := by decide +kernel
theorem fr_7_122 : mjFr 7 122 = some (6, 3) := by decide +kernel
theorem fr_7_147 : mjFr 7 147 = some (6, 1) := by decide +kernel
theorem fr_8_9 : mjFr 8 9 = some (8, 0) := by decide +kernel
theorem fr_8_15 : mjFr 8 15 = some (8, 1) := by decide +kernel
theorem fr_8_19 : mjFr 8 19 = some (7, 14) := by decide +kernel
theorem fr_8_25 : mjFr 8 25 = some (8, 2) := by decide +kernel
theorem fr_8_26 : mjFr 8 26 = some (8, 3) := by decide +kernel
theorem fr_8_30 : mjFr 8 30 = some (8, 4) := by decide +kernel
theorem fr_8_33 : mjFr 8 33 = some (8, 5) := by decide +kernel
theorem fr_8_38 : mjFr 8 38 = some (8, 6) := by decide +kernel
theorem fr_8_41 : mjFr 8 41 = some (8, 7) := by decide +kernel
theorem fr_8_44 : mjFr 8 44 = some (8, 8) := by decide +kernel
theorem fr_8_47 : mjFr 8 47 = some (8, 9) := by decide +kernel
theorem fr_8_75 : mjFr 8 75 = some (8, 10) := by decide +kernel
theorem fr_8_85 : mjFr 8 85 = some (6, 8) := by decide +kernel
theorem fr_8_93 : mjFr 8 93 = some (7, 0) := by decide +kernel
theorem fr_8_96 : mjFr 8 96 = some (7, 9) := by decide +kernel
theorem fr_8_99 : mjFr 8 99 = some (6, 0) := by decide +kernel
theorem fr_8_102 : mjFr 8 102 = some (7, 2) := by decide +kernel
theorem fr_8_125 : mjFr 8 125 = some (7, 1) := by decide +kernel
theorem fr_8_131 : mjFr 8 131 = some (7, 3) := by decide +kernel
theorem fr_8_134 : mjFr 8 134 = some (7, 10) := by decide +kernel
theorem fr_8_137 : mjFr 8 137 = some (6, 2) := by decide +kernel
theorem fr_8_140 : mjFr 8 140 = some (6, 1) := by decide +kernel
theorem fr_8_148 : mjFr 8 148 = some (6, 5) := by decide +kernel
theorem fr_8_151 : mjFr 8 151 = some (7, 7) := by decide +kernel
theorem fr_8_154 : mjFr 8 154 = some (6, 4) := by decide +kernel
theorem fr_8_158 : mjFr 8 158 = some (7, 6) := by decide +kernel
theorem fr_8_164 : mjFr 8 164 = some (6, 6) := by decide +kernel
theorem fr_9_11 : mjFr 9 11 = some (9, 0) := by decide +kernel
theorem fr_9_15 : mjFr 9 15 = some (9, 1) := by decide +kernel
theorem fr_9_19 : mjFr 9 19 = some (9, 2) := by decide +kernel
theorem fr_9_22 : mjFr 9 22 = some (9, 3) := by decide +kernel
theorem fr_9_25 : mjFr 9 25 = some (9, 4) := by decide +kernel
theorem fr_9_46 : mjFr 9 46 = some (9, 5) := by decide +kernel
theorem fr_9_50 : mjFr 9 50 = some (9, 6) := by decide +kernel
theorem fr_9_53 : mjFr 9 53 = some (9, 7) := by decide +kernel
theorem fr_9_56 : mjFr 9 56 = some (9, 8) := by decide +kernel
theorem fr_10_9 : mjFr 10 9 = some (10, 0) := by decide +kernel
theorem fr_10_15 : mjFr 10 15 = some (10, 1) := by decide +kernel
theorem fr_10_21 : mjFr 10 21 = some (10, 2) := by decide +kernel
theorem fr_10_25 : mjFr 10 25 = some (10, 4) := by decide +kernel
theorem fr_10_28 : mjFr 10 28 = some (10, 6) := by decide +kernel
theorem fr_10_31 : mjFr 10 31 = some (10, 7) := by decide +kernel
theorem fr_10_34 : mjFr 10 34 = some (10, 8) := by decide +kernel
theorem fr_10_37 : mjFr 10 37 = some (10, 5) := by decide +kernel
theorem fr_10_41 : mjFr 10 41 = some (10, 3) := by decide +kernel
theorem fr_10_45 : mjFr 10 45 = some (3, 2) := by decide +kernel
theorem fr_10_72 : mjFr 10 72 = some (7, 8) := by decide +kernel
theorem fr_10_96 : mjFr 10 96 = some (10, 9) := by decide +kernel
theorem fr_11_9 : mjFr 11 9 = some (11, 0) := by decide +kernel
theorem fr_11_16 : mjFr 11 16 = some (11, 6) := by decide +kernel
theorem fr_11_20 : mjFr 11 20 = some (11, 7) := by decide +kernel
theorem fr_11_26 : mjFr 11 26 = some (11, 2) := by decide +kernel
theorem fr_11_35 : mjFr 11 35 = some (11, 3) := by decide +kernel
theorem fr_11_44 : mjFr 11 44 = some (11, 4) := by decide +kernel
theorem fr_11_53 : mjFr 11 53 = some (11, 5) := by decide +kernel
theorem fr_11_57 : mjFr 11 57 = some (11, 9) := by decide +kernel
theorem fr_11_61 : mjFr 11 61 = some (11, 10) := by decide +kernel
theorem fr_11_67 : mjFr 11 67 = some (11, 11) := by decide +kernel
theorem fr_11_76 : mjFr 11 76 = some (11, 12) := by decide +kernel
theorem fr_11_83 : mjFr 11 83 = some (11, 13) := by decide +kernel
theorem fr_11_87 : mjFr 11 87 = some (11, 1) := by decide +kernel
theorem fr_11_116 : mjFr 11 116 = some (9, 7) := by decide +kernel
theorem fr_11_117 : mjFr 11 117 = some (9, 8) := by decide +kernel
theorem fr_11_121 : mjFr 11 121 = some (11, 8) := by decide +kernel
theorem fr_11_131 : mjFr 11 131 = some (7, 0) := by decide +kernel
theorem fr_11_134 : mjFr 11 134 = some (7, 1) := by decide +kernel
theorem fr_11_142 : mjFr 11 142 = some (7, 8) := by decide +kernel
theorem fr_11_145 : mjFr 11 145 = some (7, 6) := by decide +kernel
theorem fr_11_148 : mjFr 11 148 = some (7, 3) := by decide +kernel
theorem fr_11_151 : mjFr 11 151 = some (7, 2) := by decide +kernel
theorem fr_11_171 : mjFr 11 171 = some (5, 8) := by decide +kernel
theorem fr_11_177 : mjFr 11 177 = some (5, 9) := by decide +kernel
theorem fr_11_180 : mjFr 11 180 = some (5, 10) := by decide +kernel
theorem fr_11_183 : mjFr 11 183 = some (5, 11) := by decide +kernel
theorem fr_11_186 : mjFr 11 186 = some (5, 12) := by decide +kernel
theorem fr_11_189 : mjFr 11 189 = some (3, 3) := by decide +kernel
theorem fr_11_192 : mjFr 11 192 = some (3, 2) := by decide +kernel
theorem fr_11_195 : mjFr 11 195 = some (5, 1) := by decide +kernel
theorem fr_11_199 : mjFr 11 199 = some (2, 0) := by decide +kernel
theorem fr_11_202 : mjFr 11 202 = some (2, 1) := by decide +kernel
theorem fr_11_205 : mjFr 11 205 = some (5, 13) := by decide +kernel
theorem fr_11_208 : mjFr 11 208 = some (5, 14) := by decide +kernel
theorem fr_11_211 : mjFr 11 211 = some (2, 2) := by decide +kernel
theorem fr_11_216 : mjFr 11 216 = some (7, 14) := by decide +kernel
theorem fr_11_220 : mjFr 11 220 = some (6, 2) := by decide +kernel
theorem fr_11_223 : mjFr 11 223 = some (6, 5) := by decide +kernel
theorem fr_11_226 : mjFr 11 226 = some (2, 3) := by decide +kernel
theorem fr_11_229 : mjFr 11 229 = some (2, 5) := by decide +kernel
theorem fr_11_232 : mjFr 11 232 = some (6, 8) := by decide +kernel
theorem fr_12_7 : mjFr 12 7 = some (12, 0) := by decide +kernel
theorem fr_12_13 : mjFr 12 13 = some (12, 8) := by decide +kernel
theorem fr_12_17 : mjFr 12 17 = some (12, 11) := by decide +kernel
theorem fr_12_21 : mjFr 12 21 = some (12, 12) := by decide +kernel
theorem fr_12_24 : mjFr 12 24 = some (12, 13) := by decide +kernel
theorem fr_12_27 : mjFr 12 27 = some (12, 14) := by decide +kernel
theorem fr_12_30 : mjFr 12 30 = some (12, 15) := by decide +kernel
theorem fr_12_33 : mjFr 12 33 = some (12, 16) := by decide +kernel
theorem fr_12_36 : mjFr 12 36 = some (12, 17) := by decide +kernel
theorem fr_12_39 : mjFr 12 39 = some (12, 18) := by decide +kernel
theorem fr_12_42 : mjFr 12 42 = some (12, 19) := by decide +kernel
theorem fr_12_45 : mjFr 12 45 = some (12, 20) := by decide +kernel
theorem fr_12_48 : mjFr 12 48 = some (12, 21) := by decide +kernel
theorem fr_12_51 : mjFr 12 51 = some (12, 22) := by decide +kernel
theorem fr_12_54 : mjFr 12 54 = some (12, 23) := by decide +kernel
theorem fr_12_57 : mjFr 12 57 = some (12, 24) := by decide +kernel
theorem fr_12_60 : mjFr 12 60 = some (12, 25) := by decide +kernel
theorem fr_12_63 : mjFr 12 63 = some (12, 26) := by decide +kernel
theorem fr_12_66 : mjFr 12 66 = some (12, 27) := by decide +kernel
theorem fr_12_69 : mjFr 12 69 = some (12, 28) := by decide +kernel
theorem fr_12_72 : mjFr 12 72 = some (12, 29) := by decide +kernel
theorem fr_12_75 : mjFr 12 75 = some (12, 30) := by decide +kernel
theorem fr_12_79 : mjFr 12 79 = some (12, 31) := by decide +kernel
theorem fr_12_82 : mjFr 12 82 = some (12, 32) := by decide +kernel
theorem fr_12_85 : mjFr 12 85 = some (12, 33) := by decide +kernel
theorem fr_12_88 : mjFr 12 88 = some (12, 34) := by decide +kernel
theorem fr_12_91 : mjFr 12 91 = some (12, 35) := by decide +kernel
theorem fr_12_94 : mjFr 12 94 = some (12, 36) := by decide +kernel
theorem fr_12_97 : mjFr 12 97 = some (12, 37) := by decide +kernel
theorem fr_12_100 : mjFr 12 100 = some (12, 38) := by decide +kernel
theorem fr_12_103 : mjFr 12 103 = some (12, 39) := by decide +kernel
theorem fr_12_106 : mjFr 12 106 = some (12, 40) := by decide +kernel
theorem fr_12_109 : mjFr 12 109 = some (12, 41) := by decide +kernel
theorem fr_12_112 : mjFr 12 112 = some (12, 42) := by decide +kernel
theorem fr_12_115 : mjFr 12 115 = some (12, 43) := by decide +kernel
theorem fr_12_118 : mjFr 12 118 = some (12, 44) := by decide +kernel
theorem fr_12_121 : mjFr 12 121 = some (12, 45) := by decide +kernel
theorem fr_12_124 : mjFr 12 124 = some (12, 46) := by decide +kernel
theorem fr_12_127 : mjFr 12 127 = some (12, 47) := by decide +kernel
theorem fr_12_130 : mjFr 12 130 = some (12, 48) := by decide +kernel
theorem fr_12_133 : mjFr 12 133 = some (12, 49) := by decide +kernel
theorem fr_12_136 : mjFr 12 136 = some (12, 50) := by decide +kernel
theorem fr_12_139 : mjFr 12 139 = some (12, 51) := by decide +kernel
theorem fr_12_142 : mjFr 12 142 = some (12, 52) := by decide +kernel
theorem fr_12_145 : mjFr 12 145 = some (12, 53) := by decide +kernel
theorem fr_12_148 : mjFr 12 148 = some (12, 54) := by decide +kernel
theorem fr_12_151 : mjFr 12 151 = some (12, 55) := by decide +kernel
theorem fr_12_154 : mjFr 12 154 = some (12, 56) := by decide +kernel
theorem fr_12_157 : mjFr 12 157 = some (12, 57) := by decide +kernel
theorem fr_12_160 : mjFr 12 160 = some (12, 58) := by decide +kernel
theorem fr_12_163 : mjFr 12 163 = some (12, 59) := by decide +kernel
theorem fr_12_167 : mjFr 12 167 = some (12, 60) := by decide +kernel
theorem fr_12_170 : mjFr 12 170 = some (12, 68) := by decide +kernel
theorem fr_12_173 : mjFr 12 173 = some (12, 69) := by decide +kernel
theorem fr_12_176 : mjFr 12 176 = some (12, 70) := by decide +kernel
theorem fr_12_179 : mjFr 12 179 = some (12, 72) := by decide +kernel
theorem fr_12_182 : mjFr 12 182 = some (12, 73) := by decide +kernel
theorem fr_12_185 : mjFr 12 185 = some (12, 74) := by decide +kernel
theorem fr_12_188 : mjFr 12 188 = some (12, 75) := by decide +kernel
theorem fr_12_191 : mjFr 12 191 = some (12, 79) := by decide +kernel
theorem fr_12_194 : mjFr 12 194 = some (12, 80) := by decide +kernel
theorem fr_12_197 : mjFr 12 197 = some (12, 81) := by decide +kernel
theorem fr_12_200 : mjFr 12 200 = some (12, 83) := by decide +kernel
theorem fr_12_203 : mjFr 12 203 = some (12, 84) := by decide +kernel
theorem fr_12_206 : mjFr 12 206 = some (12, 85) := by decide +kernel
theorem fr_12_209 : mjFr 12 209 = some (12, 86) := by decide +kernel
theorem fr_12_212 : mjFr 12 212 = some (12, 89) := by decide +kernel
theorem fr_12_215 : mjFr 12 215 = some (12, 90) := by decide +kernel
theorem fr_12_221 : mjFr 12 221 = some (12, 93) := by decide +kernel
theorem fr_12_224 : mjFr 12 224 = some (12, 94) := by decide +kernel
theorem fr_12_227 : mjFr 12 227 = some (12, 107) := by decide +kernel
theorem fr_12_230 : mjFr 12 230 = some (12, 108) := by decide +kernel
theorem fr_12_233 : mjFr 12 233 = some (12, 109) := by decide +kernel
theorem fr_12_236 : mjFr 12 236 = some (12, 110) := by decide +kernel
theorem fr_12_239 : mjFr 12 239 = some (12, 111) := by decide +kernel
theorem fr_12_242 : mjFr 12 242 = some (12, 112) := by decide +kernel
theorem fr_12_245 : mjFr 12 245 = some (12, 113) := by decide +kernel
theorem fr_12_248 : mjFr 12 248 = some (12, 114) := by decide +kernel
theorem fr_12_251 : mjFr 12 251 = some (12, 115) := by decide +kernel
theorem fr_12_254 : mjFr 12 254 = some (12, 117) := by decide +kernel
theorem fr_12_257 : mjFr 12 257 = some (12, 120) := by decide +kernel
theorem fr_12_260 : mjFr 12 260 = some (12, 121) := by decide +kernel
theorem fr_12_263 : mjFr 12 263 = some (12, 122) := by decide +kernel
theorem fr_12_266 : mjFr 12 266 = some (12, 123) := by decide +kernel
theorem fr_12_269 : mjFr 12 269 = some (12, 125) := by decide +kernel
theorem fr_12_272 : mjFr 12 272 = some (12, 128) := by decide +kernel
theorem fr_12_275 : mjFr 12 275 = some (12, 130) := by decide +kernel
theorem fr_12_278 : mjFr 12 278 = some (12, 131) := by decide +kernel
theorem fr_12_281 : mjFr 12 281 = some (12, 134) := by decide +kernel
theorem fr_12_284 : mjFr 12 284 = some (12, 135) := by decide +kernel
theorem fr_12_287 : mjFr 12 287 = some (12, 136) := by decide +kernel
theorem fr_12_304 : mjFr 12 304 = some (12, 2) := by decide +kernel
theorem fr_12_307 : mjFr 12 307 = some (12, 5) := by decide +kernel
theorem fr_12_310 : mjFr 12 310 = some (12, 4) := by decide +kernel
theorem fr_12_316 : mjFr 12 316 = some (12, 3) := by decide +kernel
theorem fr_12_319 : mjFr 12 319 = some (12, 6) := by decide +kernel
theorem fr_12_322 : mjFr 12 322 = some (12, 7) := by decide +kernel
theorem fr_12_333 : mjFr 12 333 = some (12, 61) := by decide +kernel
theorem fr_12_336 : mjFr 12 336 = some (12, 62) := by decide +kernel
theorem fr_12_353 : mjFr 12 353 = some (12, 64) := by decide +kernel
theorem fr_12_356 : mjFr 12 356 = some (12, 63) := by decide +kernel
theorem fr_12_369 : mjFr 12 369 = some (12, 66) := by decide +kernel
theorem fr_12_372 : mjFr 12 372 = some (12, 67) := by decide +kernel
theorem fr_12_378 : mjFr 12 378 = some (12, 65) := by decide +kernel
theorem fr_12_411 : mjFr 12 411 = some (12, 71) := by decide +kernel
theorem fr_12_440 : mjFr 12 440 = some (12, 77) := by decide +kernel
theorem fr_12_443 : mjFr 12 443 = some (12, 76) := by decide +kernel
theorem fr_12_496 : mjFr 12 496 = some (12, 129) := by decide +kernel
theorem fr_12_544 : mjFr 12 544 = some (12, 95) := by decide +kernel
theorem fr_12_567 : mjFr 12 567 = some (12, 82) := by decide +kernel
theorem fr_12_579 : mjFr 12 579 = some (12, 133) := by decide +kernel
theorem fr_12_582 : mjFr 12 582 = some (12, 132) := by decide +kernel
theorem fr_12_585 : mjFr 12 585 = some (12, 87) := by decide +kernel
theorem fr_12_588 : mjFr 12 588 = some (12, 88) := by decide +kernel
theorem fr_12_591 : mjFr 12 591 = some (12, 92) := by decide +kernel
theorem fr_12_627 : mjFr 12 627 = some (12, 116) := by decide +kernel
theorem fr_12_633 : mjFr 12 633 = some (12, 118) := by decide +kernel
theorem fr_12_636 : mjFr 12 636 = some (12, 96) := by decide +kernel
theorem fr_12_639 : mjFr 12 639 = some (12, 98) := by decide +kernel
theorem fr_12_642 : mjFr 12 642 = some (12, 99) := by decide +kernel
theorem fr_12_645 : mjFr 12 645 = some (12, 126) := by decide +kernel
theorem fr_12_648 : mjFr 12 648 = some (12, 9) := by decide +kernel
theorem fr_12_651 : mjFr 12 651 = some (12, 119) := by decide +kernel
theorem fr_12_657 : mjFr 12 657 = some (12, 100) := by decide +kernel
theorem fr_12_684 : mjFr 12 684 = some (12, 106) := by decide +kernel
theorem fr_12_690 : mjFr 12 690 = some (12, 102) := by decide +kernel
theorem fr_12_693 : mjFr 12 693 = some (12, 101) := by decide +kernel
theorem fr_12_699 : mjFr 12 699 = some (12, 103) := by decide +kernel
theorem fr_12_702 : mjFr 12 702 = some (12, 104) := by decide +kernel
theorem fr_12_708 : mjFr 12 708 = some (12, 105) := by decide +kernel
theorem fr_12_711 : mjFr 12 711 = some (12, 97) := by decide +kernel
theorem fr_12_714 : mjFr 12 714 = some (12, 124) := by decide +kernel
theorem fr_12_738 : mjFr 12 738 = some (12, 127) := by decide +kernel
theorem fr_12_744 : mjFr 12 744 = some (12, 1) := by decide +kernel
theorem fr_12_756 : mjFr 12 756 = some (12, 10) := by decide +kernel
theorem mr_1_54 : mjMr 1 54 = some 172 := by decide +kernel
theorem mr_1_64 : mjMr 1 64 = some 5 := by decide +kernel
theorem mr_1_89 : mjMr 1 89 = some 179 := by decide +kernel
theorem mr_1_92 : mjMr 1 92 = some 7 := by decide +kernel
theorem mr_1_95 : mjMr 1 95 = some 1 := by decide +kernel
theorem mr_1_111 : mjMr 1 111 = some 167 := by decide +kernel
theorem mr_1_115 : mjMr 1 115 = some 164 := by decide +kernel
theorem mr_1_119 : mjMr 1 119 = some 61 := by decide +kernel
theorem mr_1_125 : mjMr 1 125 = some 170 := by decide +kernel
theorem mr_1_129 : mjMr 1 129 = some 98 := by decide +kernel
theorem mr_1_133 : mjMr 1 133 = some 6 := by decide +kernel
theorem mr_1_137 : mjMr 1 137 = some 166 := by decide +kernel
theorem mr_1_140 : mjMr 1 140 = some 171 := by decide +kernel
theorem mr_1_142 : mjMr 1 142 = some 8 := by decide +kernel
theorem mr_1_145 : mjMr 1 145 = some 173 := by decide +kernel
theorem mr_1_148 : mjMr 1 148 = some 168 := by decide +kernel
theorem mr_1_151 : mjMr 1 151 = some 9 := by decide +kernel
theorem mr_1_154 : mjMr 1 154 = some 31 := by decide +kernel
theorem mr_1_157 : mjMr 1 157 = some 32 := by decide +kernel
theorem mr_1_160 : mjMr 1 160 = some 68 := by decide +kernel
theorem mr_1_163 : mjMr 1 163 = some 33 := by decide +kernel
theorem mr_1_167 : mjMr 1 167 = some 34 := by decide +kernel
theorem mr_1_182 : mjMr 1 182 = some 18 := by decide +kernel
theorem mr_1_186 : mjMr 1 186 = some 165 := by decide +kernel
theorem mr_1_189 : mjMr 1 189 = some 11 := by decide +kernel
theorem mr_1_192 : mjMr 1 192 = some 123 := by decide +kernel
theorem mr_1_196 : mjMr 1 196 = some 178 := by decide +kernel
theorem mr_1_200 : mjMr 1 200 = some 180 := by decide +kernel
theorem mr_1_203 : mjMr 1 203 = some 17 := by decide +kernel
theorem mr_1_206 : mjMr 1 206 = some 19 := by decide +kernel
theorem mr_1_209 : mjMr 1 209 = some 25 := by decide +kernel
theorem mr_1_213 : mjMr 1 213 = some 20 := by decide +kernel
theorem mr_1_216 : mjMr 1 216 = some 10 := by decide +kernel
theorem mr_1_219 : mjMr 1 219 = some 2 := by decide +kernel
theorem mr_1_222 : mjMr 1 222 = some 27 := by decide +kernel
theorem mr_1_225 : mjMr 1 225 = some 12 := by decide +kernel
theorem mr_1_228 : mjMr 1 228 = some 177 := by decide +kernel
theorem mr_1_231 : mjMr 1 231 = some 28 := by decide +kernel
theorem mr_1_234 : mjMr 1 234 = some 29 := by decide +kernel
theorem mr_1_237 : mjMr 1 237 = some 13 := by decide +kernel
theorem mr_1_240 : mjMr 1 240 = some 176 := by decide +kernel
theorem mr_1_243 : mjMr 1 243 = some 14 := by decide +kernel
theorem mr_1_246 : mjMr 1 246 = some 175 := by decide +kernel
theorem mr_1_249 : mjMr 1 249 = some 30 := by decide +kernel
theorem mr_1_252 : mjMr 1 252 = some 15 := by decide +kernel
theorem mr_1_255 : mjMr 1 255 = some 16 := by decide +kernel
theorem mr_1_258 : mjMr 1 258 = some 22 := by decide +kernel
theorem mr_1_262 : mjMr 1 262 = some 60 := by decide +kernel
theorem mr_1_265 : mjMr 1 265 = some 26 := by decide +kernel
theorem mr_1_268 : mjMr 1 268 = some 21 := by decide +kernel
theorem mr_1_271 : mjMr 1 271 = some 111 := by decide +kernel
theorem mr_1_274 : mjMr 1 274 = some 105 := by decide +kernel
theorem mr_1_277 : mjMr 1 277 = some 121 := by decide +kernel
theorem mr_1_281 : mjMr 1 281 = some 99 := by decide +kernel
theorem mr_1_284 : mjMr 1 284 = some 114 := by decide +kernel
theorem mr_1_287 : mjMr 1 287 = some 112 := by decide +kernel
theorem mr_1_290 : mjMr 1 290 = some 23 := by decide +kernel
theorem mr_1_293 : mjMr 1 293 = some 24 := by decide +kernel
theorem mr_1_299 : mjMr 1 299 = some 181 := by decide +kernel
theorem mr_2_33 : mjMr 2 33 = some 379 := by decide +kernel
theorem mr_2_42 : mjMr 2 42 = some 354 := by decide +kernel
theorem mr_2_48 : mjMr 2 48 = some 38 := by decide +kernel
theorem mr_3_26 : mjMr 3 26 = some 379 := by decide +kernel
theorem mr_3_32 : mjMr 3 32 = some 49 := by decide +kernel
theorem mr_4_46 : mjMr 4 46 = some 55 := by decide +kernel
theorem mr_4_49 : mjMr 4 49 = some 59 := by decide +kernel
theorem mr_4_52 : mjMr 4 52 = some 63 := by decide +kernel
theorem mr_4_55 : mjMr 4 55 = some 64 := by decide +kernel
theorem mr_4_58 : mjMr 4 58 = some 172 := by decide +kernel
theorem mr_4_64 : mjMr 4 64 = some 110 := by decide +kernel
theorem mr_4_67 : mjMr 4 67 = some 113 := by decide +kernel
theorem mr_4_70 : mjMr 4 70 = some 115 := by decide +kernel
theorem mr_4_73 : mjMr 4 73 = some 66 := by decide +kernel
theorem mr_4_76 : mjMr 4 76 = some 70 := by decide +kernel
theorem mr_4_79 : mjMr 4 79 = some 120 := by decide +kernel
theorem mr_4_92 : mjMr 4 92 = some 170 := by decide +kernel
theorem mr_4_96 : mjMr 4 96 = some 56 := by decide +kernel
theorem mr_4_100 : mjMr 4 100 = some 178 := by decide +kernel
theorem mr_4_104 : mjMr 4 104 = some 57 := by decide +kernel
theorem mr_4_110 : mjMr 4 110 = some 58 := by decide +kernel
theorem mr_4_117 : mjMr 4 117 = some 179 := by decide +kernel
theorem mr_4_121 : mjMr 4 121 = some 60 := by decide +kernel
theorem mr_4_128 : mjMr 4 128 = some 106 := by decide +kernel
theorem mr_4_132 : mjMr 4 132 = some 108 := by decide +kernel
theorem mr_4_142 : mjMr 4 142 = some 65 := by decide +kernel
theorem mr_4_145 : mjMr 4 145 = some 109 := by decide +kernel
theorem mr_4_149 : mjMr 4 149 = some 104 := by decide +kernel
theorem mr_4_159 : mjMr 4 159 = some 67 := by decide +kernel
theorem mr_4_168 : mjMr 4 168 = some 68 := by decide +kernel
theorem mr_4_177 : mjMr 4 177 = some 119 := by decide +kernel
theorem mr_4_183 : mjMr 4 183 = some 97 := by decide +kernel
theorem mr_4_187 : mjMr 4 187 = some 69 := by decide +kernel
theorem mr_4_190 : mjMr 4 190 = some 167 := by decide +kernel
theorem mr_4_194 : mjMr 4 194 = some 165 := by decide +kernel
theorem mr_4_197 : mjMr 4 197 = some 166 := by decide +kernel
theorem mr_4_210 : mjMr 4 210 = some 71 := by decide +kernel
theorem mr_4_213 : mjMr 4 213 = some 114 := by decide +kernel
theorem mr_4_216 : mjMr 4 216 = some 112 := by decide +kernel
theorem mr_4_219 : mjMr 4 219 = some 98 := by decide +kernel
theorem mr_4_222 : mjMr 4 222 = some 164 := by decide +kernel
theorem mr_4_226 : mjMr 4 226 = some 61 := by decide +kernel
theorem mr_4_229 : mjMr 4 229 = some 102 := by decide +kernel
theorem mr_4_232 : mjMr 4 232 = some 62 := by decide +kernel
theorem mr_4_236 : mjMr 4 236 = some 103 := by decide +kernel
theorem mr_4_240 : mjMr 4 240 = some 180 := by decide +kernel
theorem mr_5_62 : mjMr 5 62 = some 36 := by decide +kernel
theorem mr_5_68 : mjMr 5 68 = some 42 := by decide +kernel
theorem mr_5_74 : mjMr 5 74 = some 73 := by decide +kernel
theorem mr_5_82 : mjMr 5 82 = some 37 := by decide +kernel
theorem mr_5_96 : mjMr 5 96 = some 76 := by decide +kernel
theorem mr_5_110 : mjMr 5 110 = some 85 := by decide +kernel
theorem mr_5_117 : mjMr 5 117 = some 87 := by decide +kernel
theorem mr_5_121 : mjMr 5 121 = some 77 := by decide +kernel
theorem mr_5_125 : mjMr 5 125 = some 78 := by decide +kernel
theorem mr_5_128 : mjMr 5 128 = some 79 := by decide +kernel
theorem mr_5_131 : mjMr 5 131 = some 38 := by decide +kernel
theorem mr_5_135 : mjMr 5 135 = some 39 := by decide +kernel
theorem mr_5_139 : mjMr 5 139 = some 80 := by decide +kernel
theorem mr_5_142 : mjMr 5 142 = some 40 := by decide +kernel
theorem mr_5_148 : mjMr 5 148 = some 81 := by decide +kernel
theorem mr_5_151 : mjMr 5 151 = some 83 := by decide +kernel
theorem mr_5_154 : mjMr 5 154 = some 84 := by decide +kernel
theorem mr_5_160 : mjMr 5 160 = some 88 := by decide +kernel
theorem mr_5_163 : mjMr 5 163 = some 89 := by decide +kernel
theorem mr_5_166 : mjMr 5 166 = some 91 := by decide +kernel
theorem mr_5_169 : mjMr 5 169 = some 90 := by decide +kernel
theorem mr_5_173 : mjMr 5 173 = some 94 := by decide +kernel
theorem mr_5_177 : mjMr 5 177 = some 82 := by decide +kernel
theorem mr_5_180 : mjMr 5 180 = some 86 := by decide +kernel
theorem mr_5_190 : mjMr 5 190 = some 43 := by decide +kernel
theorem mr_5_194 : mjMr 5 194 = some 45 := by decide +kernel
theorem mr_5_197 : mjMr 5 197 = some 44 := by decide +kernel
theorem mr_5_203 : mjMr 5 203 = some 46 := by decide +kernel
theorem mr_5_210 : mjMr 5 210 = some 121 := by decide +kernel
theorem mr_5_214 : mjMr 5 214 = some 105 := by decide +kernel
theorem mr_5_221 : mjMr 5 221 = some 47 := by decide +kernel
theorem mr_5_225 : mjMr 5 225 = some 106 := by decide +kernel
theorem mr_5_228 : mjMr 5 228 = some 92 := by decide +kernel
theorem mr_5_231 : mjMr 5 231 = some 50 := by decide +kernel
theorem mr_5_240 : mjMr 5 240 = some 114 := by decide +kernel
theorem mr_5_243 : mjMr 5 243 = some 93 := by decide +kernel
theorem mr_5_246 : mjMr 5 246 = some 48 := by decide +kernel
theorem mr_5_249 : mjMr 5 249 = some 49 := by decide +kernel
theorem mr_6_47 : mjMr 6 47 = some 122 := by decide +kernel
theorem mr_6_51 : mjMr 6 51 = some 98 := by decide +kernel
theorem mr_7_70 : mjMr 7 70 = some 377 := by decide +kernel
theorem mr_7_76 : mjMr 7 76 = some 378 := by decide +kernel
theorem mr_7_79 : mjMr 7 79 = some 96 := by decide +kernel
theorem mr_7_85 : mjMr 7 85 = some 106 := by decide +kernel
theorem mr_7_89 : mjMr 7 89 = some 102 := by decide +kernel
theorem mr_7_93 : mjMr 7 93 = some 103 := by decide +kernel
theorem mr_7_97 : mjMr 7 97 = some 105 := by decide +kernel
theorem mr_7_100 : mjMr 7 100 = some 111 := by decide +kernel
theorem mr_7_103 : mjMr 7 103 = some 112 := by decide +kernel
theorem mr_7_106 : mjMr 7 106 = some 114 := by decide +kernel
theorem mr_7_125 : mjMr 7 125 = some 116 := by decide +kernel
theorem mr_7_129 : mjMr 7 129 = some 118 := by decide +kernel
theorem mr_7_132 : mjMr 7 132 = some 117 := by decide +kernel
theorem mr_7_136 : mjMr 7 136 = some 107 := by decide +kernel
theorem mr_7_140 : mjMr 7 140 = some 119 := by decide +kernel
theorem mr_7_144 : mjMr 7 144 = some 108 := by decide +kernel
theorem mr_8_53 : mjMr 8 53 = some 164 := by decide +kernel
theorem mr_8_57 : mjMr 8 57 = some 127 := by decide +kernel
theorem mr_8_61 : mjMr 8 61 = some 135 := by decide +kernel
theorem mr_8_65 : mjMr 8 65 = some 136 := by decide +kernel
theorem mr_8_69 : mjMr 8 69 = some 138 := by decide +kernel
theorem mr_8_72 : mjMr 8 72 = some 169 := by decide +kernel
theorem mr_8_78 : mjMr 8 78 = some 167 := by decide +kernel
theorem mr_8_82 : mjMr 8 82 = some 139 := by decide +kernel
theorem mr_8_87 : mjMr 8 87 = some 165 := by decide +kernel
theorem mr_8_90 : mjMr 8 90 = some 166 := by decide +kernel
theorem mr_8_105 : mjMr 8 105 = some 168 := by decide +kernel
theorem mr_8_109 : mjMr 8 109 = some 128 := by decide +kernel
theorem mr_8_112 : mjMr 8 112 = some 130 := by decide +kernel
theorem mr_8_116 : mjMr 8 116 = some 132 := by decide +kernel
theorem mr_8_119 : mjMr 8 119 = some 134 := by decide +kernel
theorem mr_8_122 : mjMr 8 122 = some 129 := by decide +kernel
theorem mr_8_128 : mjMr 8 128 = some 133 := by decide +kernel
theorem mr_8_144 : mjMr 8 144 = some 170 := by decide +kernel
theorem mr_8_161 : mjMr 8 161 = some 137 := by decide +kernel
theorem mr_8_167 : mjMr 8 167 = some 355 := by decide +kernel
theorem mr_8_173 : mjMr 8 173 = some 131 := by decide +kernel
theorem mr_8_176 : mjMr 8 176 = some 171 := by decide +kernel
theorem mr_8_179 : mjMr 8 179 = some 172 := by decide +kernel
theorem mr_8_182 : mjMr 8 182 = some 140 := by decide +kernel
theorem mr_8_185 : mjMr 8 185 = some 173 := by decide +kernel
theorem mr_8_188 : mjMr 8 188 = some 141 := by decide +kernel
theorem mr_8_191 : mjMr 8 191 = some 150 := by decide +kernel
theorem mr_8_194 : mjMr 8 194 = some 142 := by decide +kernel
theorem mr_8_197 : mjMr 8 197 = some 151 := by decide +kernel
theorem mr_8_200 : mjMr 8 200 = some 143 := by decide +kernel
theorem mr_8_203 : mjMr 8 203 = some 177 := by decide +kernel
theorem mr_8_206 : mjMr 8 206 = some 144 := by decide +kernel
theorem mr_8_209 : mjMr 8 209 = some 176 := by decide +kernel
theorem mr_8_212 : mjMr 8 212 = some 145 := by decide +kernel
theorem mr_8_215 : mjMr 8 215 = some 175 := by decide +kernel
theorem mr_8_218 : mjMr 8 218 = some 146 := by decide +kernel
theorem mr_8_221 : mjMr 8 221 = some 147 := by decide +kernel
theorem mr_8_224 : mjMr 8 224 = some 148 := by decide +kernel
theorem mr_8_227 : mjMr 8 227 = some 149 := by decide +kernel
theorem mr_8_230 : mjMr 8 230 = some 174 := by decide +kernel
theorem mr_9_30 : mjMr 9 30 = some 356 := by decide +kernel
theorem mr_9_36 : mjMr 9 36 = some 358 := by decide +kernel
theorem mr_9_40 : mjMr 9 40 = some 153 := by decide +kernel
theorem mr_9_59 : mjMr 9 59 = some 155 := by decide +kernel
theorem mr_9_63 : mjMr 9 63 = some 156 := by decide +kernel
theorem mr_9_66 : mjMr 9 66 = some 161 := by decide +kernel
theorem mr_9_70 : mjMr 9 70 = some 157 := by decide +kernel
theorem mr_9_74 : mjMr 9 74 = some 158 := by decide +kernel
theorem mr_9_77 : mjMr 9 77 = some 159 := by decide +kernel
theorem mr_9_80 : mjMr 9 80 = some 162 := by decide +kernel
theorem mr_9_83 : mjMr 9 83 = some 163 := by decide +kernel
theorem mr_9_86 : mjMr 9 86 = some 160 := by decide +kernel
theorem mr_9_94 : mjMr 9 94 = some 361 := by decide +kernel
theorem mr_9_98 : mjMr 9 98 = some 165 := by decide +kernel
theorem mr_9_102 : mjMr 9 102 = some 164 := by decide +kernel
theorem mr_10_48 : mjMr 10 48 = some 379 := by decide +kernel
theorem mr_10_54 : mjMr 10 54 = some 187 := by decide +kernel
theorem mr_10_58 : mjMr 10 58 = some 49 := by decide +kernel
theorem mr_10_62 : mjMr 10 62 = some 188 := by decide +kernel
theorem mr_10_65 : mjMr 10 65 = some 189 := by decide +kernel
theorem mr_10_69 : mjMr 10 69 = some 190 := by decide +kernel
theorem mr_10_77 : mjMr 10 77 = some 46 := by decide +kernel
theorem mr_10_80 : mjMr 10 80 = some 124 := by decide +kernel
theorem mr_10_84 : mjMr 10 84 = some 45 := by decide +kernel
theorem mr_10_87 : mjMr 10 87 = some 186 := by decide +kernel
theorem mr_10_90 : mjMr 10 90 = some 191 := by decide +kernel
theorem mr_10_93 : mjMr 10 93 = some 193 := by decide +kernel
theorem mr_10_99 : mjMr 10 99 = some 194 := by decide +kernel
theorem mr_10_102 : mjMr 10 102 = some 197 := by decide +kernel
theorem mr_10_113 : mjMr 10 113 = some 195 := by decide +kernel
theorem mr_10_116 : mjMr 10 116 = some 196 := by decide +kernel
theorem mr_11_90 : mjMr 11 90 = some 203 := by decide +kernel
theorem mr_11_94 : mjMr 11 94 = some 154 := by decide +kernel
theorem mr_11_98 : mjMr 11 98 = some 101 := by decide +kernel
theorem mr_11_101 : mjMr 11 101 = some 126 := by decide +kernel
theorem mr_11_105 : mjMr 11 105 = some 172 := by decide +kernel
theorem mr_11_109 : mjMr 11 109 = some 54 := by decide +kernel
theorem mr_11_113 : mjMr 11 113 = some 4 := by decide +kernel
theorem mr_11_118 : mjMr 11 118 = some 205 := by decide +kernel
theorem mr_11_125 : mjMr 11 125 = some 73 := by decide +kernel
theorem mr_11_128 : mjMr 11 128 = some 183 := by decide +kernel
theorem mr_11_138 : mjMr 11 138 = some 108 := by decide +kernel
theorem mr_11_154 : mjMr 11 154 = some 209 := by decide +kernel
theorem mr_11_158 : mjMr 11 158 = some 107 := by decide +kernel
theorem mr_11_164 : mjMr 11 164 = some 74 := by decide +kernel
theorem mr_11_168 : mjMr 11 168 = some 184 := by decide +kernel
theorem mr_11_174 : mjMr 11 174 = some 75 := by decide +kernel
theorem mr_11_235 : mjMr 11 235 = some 39 := by decide +kernel
theorem mr_11_238 : mjMr 11 238 = some 43 := by decide +kernel
theorem mr_11_242 : mjMr 11 242 = some 46 := by decide +kernel
theorem mr_11_245 : mjMr 11 245 = some 49 := by decide +kernel
theorem mr_11_248 : mjMr 11 248 = some 48 := by decide +kernel
theorem mr_11_251 : mjMr 11 251 = some 51 := by decide +kernel
theorem mr_11_254 : mjMr 11 254 = some 45 := by decide +kernel
theorem mr_11_257 : mjMr 11 257 = some 52 := by decide +kernel
theorem mr_11_261 : mjMr 11 261 = some 185 := by decide +kernel
theorem mr_11_264 : mjMr 11 264 = some 192 := by decide +kernel
theorem mr_11_267 : mjMr 11 267 = some 198 := by decide +kernel
theorem mr_11_271 : mjMr 11 271 = some 199 := by decide +kernel
theorem mr_11_274 : mjMr 11 274 = some 200 := by decide +kernel
theorem mr_12_290 : mjMr 12 290 = some 226 := by decide +kernel
theorem mr_12_294 : mjMr 12 294 = some 228 := by decide +kernel
theorem mr_12_300 : mjMr 12 300 = some 227 := by decide +kernel
theorem mr_12_313 : mjMr 12 313 = some 263 := by decide +kernel
theorem mr_12_326 : mjMr 12 326 = some 264 := by decide +kernel
theorem mr_12_329 : mjMr 12 329 = some 265 := by decide +kernel
theorem mr_12_339 : mjMr 12 339 = some 268 := by decide +kernel
theorem mr_12_343 : mjMr 12 343 = some 271 := by decide +kernel
theorem mr_12_347 : mjMr 12 347 = some 269 := by decide +kernel
theorem mr_12_350 : mjMr 12 350 = some 262 := by decide +kernel
theorem mr_12_359 : mjMr 12 359 = some 281 := by decide +kernel
theorem mr_12_363 : mjMr 12 363 = some 266 := by decide +kernel
theorem mr_12_366 : mjMr 12 366 = some 267 := by decide +kernel
theorem mr_12_375 : mjMr 12 375 = some 279 := by decide +kernel
theorem mr_12_381 : mjMr 12 381 = some 270 := by decide +kernel
theorem mr_12_384 : mjMr 12 384 = some 272 := by decide +kernel
theorem mr_12_388 : mjMr 12 388 = some 273 := by decide +kernel
theorem mr_12_391 : mjMr 12 391 = some 274 := by decide +kernel
theorem mr_12_394 : mjMr 12 394 = some 275 := by decide +kernel
theorem mr_12_397 : mjMr 12 397 = some 278 := by decide +kernel
theorem mr_12_404 : mjMr 12 404 = some 276 := by decide +kernel
theorem mr_12_408 : mjMr 12 408 = some 277 := by decide +kernel
theorem mr_12_414 : mjMr 12 414 = some 280 := by decide +kernel
theorem mr_12_418 : mjMr 12 418 = some 282 := by decide +kernel
theorem mr_12_421 : mjMr 12 421 = some 284 := by decide +kernel
theorem mr_12_424 : mjMr 12 424 = some 283 := by decide +kernel
theorem mr_12_427 : mjMr 12 427 = some 285 := by decide +kernel
theorem mr_12_430 : mjMr 12 430 = some 287 := by decide +kernel
theorem mr_12_433 : mjMr 12 433 = some 298 := by decide +kernel
theorem mr_12_436 : mjMr 12 436 = some 286 := by decide +kernel
theorem mr_12_446 : mjMr 12 446 = some 288 := by decide +kernel
theorem mr_12_448 : mjMr 12 448 = some 289 := by decide +kernel
theorem mr_12_451 : mjMr 12 451 = some 291 := by decide +kernel
theorem mr_12_454 : mjMr 12 454 = some 290 := by decide +kernel
theorem mr_12_457 : mjMr 12 457 = some 292 := by decide +kernel
theorem mr_12_460 : mjMr 12 460 = some 295 := by decide +kernel
theorem mr_12_463 : mjMr 12 463 = some 296 := by decide +kernel
theorem mr_12_466 : mjMr 12 466 = some 354 := by decide +kernel
theorem mr_12_472 : mjMr 12 472 = some 297 := by decide +kernel
theorem mr_12_475 : mjMr 12 475 = some 294 := by decide +kernel
theorem mr_12_478 : mjMr 12 478 = some 293 := by decide +kernel
theorem mr_12_481 : mjMr 12 481 = some 305 := by decide +kernel
theorem mr_12_485 : mjMr 12 485 = some 312 := by decide +kernel
theorem mr_12_488 : mjMr 12 488 = some 303 := by decide +kernel
theorem mr_12_492 : mjMr 12 492 = some 304 := by decide +kernel
theorem mr_12_500 : mjMr 12 500 = some 311 := by decide +kernel
theorem mr_12_504 : mjMr 12 504 = some 302 := by decide +kernel
theorem mr_12_508 : mjMr 12 508 = some 310 := by decide +kernel
theorem mr_12_511 : mjMr 12 511 = some 300 := by decide +kernel
theorem mr_12_514 : mjMr 12 514 = some 301 := by decide +kernel
theorem mr_12_517 : mjMr 12 517 = some 306 := by decide +kernel
theorem mr_12_520 : mjMr 12 520 = some 307 := by decide +kernel
theorem mr_12_523 : mjMr 12 523 = some 308 := by decide +kernel
theorem mr_12_526 : mjMr 12 526 = some 309 := by decide +kernel
theorem mr_12_529 : mjMr 12 529 = some 314 := by decide +kernel
theorem mr_12_532 : mjMr 12 532 = some 321 := by decide +kernel
theorem mr_12_535 : mjMr 12 535 = some 322 := by decide +kernel
theorem mr_12_538 : mjMr 12 538 = some 242 := by decide +kernel
theorem mr_12_541 : mjMr 12 541 = some 313 := by decide +kernel
theorem mr_12_547 : mjMr 12 547 = some 318 := by decide +kernel
theorem mr_12_550 : mjMr 12 550 = some 317 := by decide +kernel
theorem mr_12_553 : mjMr 12 553 = some 315 := by decide +kernel
theorem mr_12_556 : mjMr 12 556 = some 316 := by decide +kernel
theorem mr_12_560 : mjMr 12 560 = some 319 := by decide +kernel
theorem mr_12_564 : mjMr 12 564 = some 320 := by decide +kernel
theorem mr_12_570 : mjMr 12 570 = some 324 := by decide +kernel
theorem mr_12_573 : mjMr 12 573 = some 326 := by decide +kernel
theorem mr_12_576 : mjMr 12 576 = some 329 := by decide +kernel
theorem mr_12_594 : mjMr 12 594 = some 323 := by decide +kernel
theorem mr_12_597 : mjMr 12 597 = some 325 := by decide +kernel
theorem mr_12_600 : mjMr 12 600 = some 327 := by decide +kernel
theorem mr_12_603 : mjMr 12 603 = some 328 := by decide +kernel
theorem mr_12_606 : mjMr 12 606 = some 333 := by decide +kernel
theorem mr_12_609 : mjMr 12 609 = some 332 := by decide +kernel
theorem mr_12_612 : mjMr 12 612 = some 335 := by decide +kernel
theorem mr_12_615 : mjMr 12 615 = some 331 := by decide +kernel
theorem mr_12_618 : mjMr 12 618 = some 330 := by decide +kernel
theorem mr_12_621 : mjMr 12 621 = some 334 := by decide +kernel
theorem mr_12_624 : mjMr 12 624 = some 237 := by decide +kernel
theorem mr_12_630 : mjMr 12 630 = some 236 := by decide +kernel
theorem mr_12_654 : mjMr 12 654 = some 230 := by decide +kernel
theorem mr_12_660 : mjMr 12 660 = some 231 := by decide +kernel
theorem mr_12_663 : mjMr 12 663 = some 232 := by decide +kernel
theorem mr_12_666 : mjMr 12 666 = some 233 := by decide +kernel
theorem mr_12_669 : mjMr 12 669 = some 238 := by decide +kernel
theorem mr_12_672 : mjMr 12 672 = some 239 := by decide +kernel
theorem mr_12_675 : mjMr 12 675 = some 234 := by decide +kernel
theorem mr_12_678 : mjMr 12 678 = some 240 := by decide +kernel
theorem mr_12_681 : mjMr 12 681 = some 243 := by decide +kernel
theorem mr_12_687 : mjMr 12 687 = some 244 := by decide +kernel
theorem mr_12_696 : mjMr 12 696 = some 235 := by decide +kernel
theorem mr_12_705 : mjMr 12 705 = some 241 := by decide +kernel
theorem mr_12_717 : mjMr 12 717 = some 248 := by decide +kernel
theorem mr_12_720 : mjMr 12 720 = some 247 := by decide +kernel
theorem mr_12_723 : mjMr 12 723 = some 253 := by decide +kernel
theorem mr_12_726 : mjMr 12 726 = some 249 := by decide +kernel
theorem mr_12_729 : mjMr 12 729 = some 246 := by decide +kernel
theorem mr_12_732 : mjMr 12 732 = some 250 := by decide +kernel
theorem mr_12_735 : mjMr 12 735 = some 252 := by decide +kernel
theorem mr_12_741 : mjMr 12 741 = some 254 := by decide +kernel
theorem mr_12_747 : mjMr 12 747 = some 259 := by decide +kernel
theorem mr_12_750 : mjMr 12 750 = some 261 := by decide +kernel
theorem mr_12_753 : mjMr 12 753 = some 299 := by decide +kernel
theorem mr_12_759 : mjMr 12 759 = some 338 := by decide +kernel
theorem mr_12_762 : mjMr 12 762 = some 344 := by decide +kernel
theorem mr_12_765 : mjMr 12 765 = some 347 := by decide +kernel
theorem mr_17_335 : mjMr 17 335 = some 357 := by decide +kernel
theorem mr_17_492 : mjMr 17 492 = some 359 := by decide +kernel
theorem mr_17_495 : mjMr 17 495 = some 364 := by decide +kernel
theorem mr_17_498 : mjMr 17 498 = some 368 := by decide +kernel
theorem mr_17_505 : mjMr 17 505 = some 356 := by decide +kernel
theorem mr_17_633 : mjMr 17 633 = some 362 := by decide +kernel
theorem mr_17_637 : mjMr 17 637 = some 365 := by decide +kernel
theorem mr_17_640 : mjMr 17 640 = some 372 := by decide +kernel
theorem mr_17_1059 : mjMr 17 1059 = some 381 := by decide +kernel
theorem mr_17_1062 : mjMr 17 1062 = some 382 := by decide +kernel
theorem mr_18_9 : mjMr 18 9 = some 360 := by decide +kernel
theorem mr_18_38 : mjMr 18 38 = some 355 := by decide +kernel
theorem mr_18_88 : mjMr 18 88 = some 366 := by decide +kernel
theorem mr_18_92 : mjMr 18 92 = some 354 := by decide +kernel
theorem mr_18_95 : mjMr 18 95 = some 367 := by decide +kernel
theorem mr_19_48 : mjMr 19 48 = some 370 := by decide +kernel
theorem mr_19_67 : mjMr 19 67 = some 369 := by decide +kernel
theorem mr_19_71 : mjMr 19 71 = some 371 := by decide +kernel
theorem mr_19_96 : mjMr 19 96 = some 374 := by decide +kernel
theorem mr_19_157 : mjMr 19 157 = some 352 := by decide +kernel
theorem mr_19_161 : mjMr 19 161 = some 353 := by decide +kernel
theorem mr_19_164 : mjMr 19 164 = some 351 := by decide +kernel
theorem mr_19_183 : mjMr 19 183 = some 355 := by decide +kernel
theorem mr_19_224 : mjMr 19 224 = some 354 := by decide +kernel
theorem mr_19_228 : mjMr 19 228 = some 373 := by decide +kernel
theorem mr_19_232 : mjMr 19 232 = some 376 := by decide +kernel
theorem mr_19_241 : mjMr 19 241 = some 363 := by decide +kernel
theorem mr_19_244 : mjMr 19 244 = some 375 := by decide +kernel
theorem mr_19_414 : mjMr 19 414 = some 360 := by decide +kernel
theorem mr_20_13 : mjMr 20 13 = some 380 := by decide +kernel
theorem V_1 : mjVf 1 0 3 := ⟨_, rfl, rfl, by decide, by decide, rfl, rfl⟩
theorem V_2 : mjVf 2 0 1 := ⟨_, rfl, rfl, by decide, by decide, rfl, rfl⟩
theorem V_4 : mjVf 4 1 1 := ⟨_, rfl, rfl, by decide, by decide, rfl, rfl⟩
theorem V_5 : mjVf 5 1 1 := ⟨_, rfl, rfl, by decide, by decide, rfl, rfl⟩
theorem V_6 : mjVf 6 1 2 := ⟨_, rfl, rfl, by decide, by decide, rfl, rfl⟩
theorem V_7 : mjVf 7 1 0 := ⟨_, rfl, rfl, by decide, by decide, rfl, rfl⟩
theorem V_8 : mjVf 8 1 0 := ⟨_, rfl, rfl, by decide, by decide, rfl, rfl⟩
theorem V_9 : mjVf 9 1 0 := ⟨_, rfl, rfl, by decide, by decide, rfl, rfl⟩
theorem V_10 : mjVf 10 1 0 := ⟨_, rfl, rfl, by decide, by decide, rfl, rfl⟩
theorem V_11 : mjVf 11 1 0 := ⟨_, rfl, rfl, by decide, by decide, rfl, rfl⟩
theorem V_12 : mjVf 12 1 0 := ⟨_, rfl, rfl, by decide, by decide, rfl, rfl⟩
theorem V_13 : mjVf 13 1 0 := ⟨_, rfl, rfl, by decide, by decide, rfl, rfl⟩
theorem V_14 : mjVf 14 1 0 := ⟨_, rfl, rfl, by decide, by decide, rfl, rfl⟩
theorem V_15 : mjVf 15 1 0 := ⟨_, rfl, rfl, by decide, by decide, rfl, rfl⟩
theorem V_16 : mjVf 16 1 0 := ⟨_, rfl, rfl, by decide, by decide, rfl, rfl⟩
theorem V_17 : mjVf 17 1 0 := ⟨_, rfl, rfl, by decide, by decide, rfl, rfl⟩
theorem V_18 : mjVf 18 1 1 := ⟨_, rfl, rfl, by decide, by decide, rfl, rfl⟩
theorem V_19 : mjVf 19 1 1 := ⟨_, rfl, rfl, by decide, by decide, rfl, rfl⟩
theorem V_20 : mjVf 20 1 1 := ⟨_, rfl, rfl, by decide, by decide, rfl, rfl⟩
theorem V_21 : mjVf 21 1 0 := ⟨_, rfl, rfl, by decide, by decide, rfl, rfl⟩
theorem V_22 : mjVf 22 1 2 := ⟨_, rfl, rfl, by decide, by decide, rfl, rfl⟩
theorem V_23 : mjVf 23 1 3 := ⟨_, rfl, rfl, by decide, by decide, rfl, rfl⟩
theorem V_24 : mjVf 24 1 2 := ⟨_, rfl, rfl, by decide, by decide, rfl, rfl⟩
theorem V_25 : mjVf 25 1 3 := ⟨_, rfl, rfl, by decide, by decide, rfl, rfl⟩
theorem V_26 : mjVf 26 1 2 := ⟨_, rfl, rfl, by decide, by decide, rfl, rfl⟩
theorem V_27 : mjVf 27 1 2 := ⟨_, rfl, rfl, by decide, by decide, rfl, rfl⟩
theorem V_28 : mjVf 28 1 3 := ⟨_, rfl, rfl, by decide, by decide, rfl, rfl⟩
theorem V_29 : mjVf 29 1 1 := ⟨_, rfl, rfl, by decide, by decide, rfl, rfl⟩
theorem V_30 : mjSf 30 1 := ⟨_, rfl, rfl, rfl⟩
theorem V_31 : mjVf 31 1 0 := ⟨_, rfl, rfl, by decide, by decide, rfl, rfl⟩
theorem V_32 : mjVf 32 1 1 := ⟨_, rfl, rfl, by decide, by decide, rfl, rfl⟩
theorem V_33 : mjVf 33 1 0 := ⟨_, rfl, rfl, by decide, by decide, rfl, rfl⟩
theorem V_34 : mjVf 34 1 0 := ⟨_, rfl, rfl, by decide, by decide, rfl, rfl⟩
theorem V_36 : mjVf 36 2 0 := ⟨_, rfl, rfl, by decide, by decide, rfl, rfl⟩
theorem V_37 : mjVf 37 2 3 := ⟨_, rfl, rfl, by decide, by decide, rfl, rfl⟩
theorem V_38 : mjVf 38 2 0 := ⟨_, rfl, rfl, by decide, by decide, rfl, rfl⟩
theorem V_39 : mjVf 39 2 2 := ⟨_, rfl, rfl, by decide, by decide, rfl, rfl⟩
theorem V_40 : mjVf 40 2 2 := ⟨_, rfl, rfl, by decide, by decide, rfl, rfl⟩
theorem V_42 : mjVf 42 3 1 := ⟨_, rfl, rfl, by decide, by decide, rfl, rfl⟩
theorem V_43 : mjVf 43 3 1 := ⟨_, rfl, rfl, by decide, by decide, rfl, rfl⟩
theorem V_44 : mjVf 44 3 3 := ⟨_, rfl, rfl, by decide, by decide, rfl, rfl⟩
theorem V_45 : mjVf 45 3 2 := ⟨_, rfl, rfl, by decide, by decide, rfl, rfl⟩
theorem V_46 : mjVf 46 3 1 := ⟨_, rfl, rfl, by decide, by decide, rfl, rfl⟩
theorem V_47 : mjVf 47 3 3 := ⟨_, rfl, rfl, by decide, by decide, rfl, rfl⟩
theorem V_48 : mjVf 48 3 1 := ⟨_, rfl, rfl, by decide, by decide, rfl, rfl⟩
theorem V_49 : mjVf 49 3 2 := ⟨_, rfl, rfl, by decide, by decide, rfl, rfl⟩
theorem V_50 : mjVf 50 3 3 := ⟨_, rfl, rfl, by decide, by decide, rfl, rfl⟩
theorem V_51 : mjVf 51 3 1 := ⟨_, rfl, rfl, by decide, by decide, rfl, rfl⟩
theorem V_52 : mjVf 52 3 2 := ⟨_, rfl, rfl, by decide, by decide, rfl, rfl⟩
theorem V_54 : mjVf 54 4 2 := ⟨_, rfl, rfl, by decide, by decide, rfl, rfl⟩
theorem V_55 : mjVf 55 4 0 := ⟨_, rfl, rfl, by decide, by decide, rfl, rfl⟩
theorem V_56 : mjVf 56 4 1 := ⟨_, rfl, rfl, by decide, by decide, rfl, rfl⟩
theorem V_57 : mjVf 57 4 2 := ⟨_, rfl, rfl, by decide, by decide, rfl, rfl⟩
theorem V_58 : mjVf 58 4 2 := ⟨_, rfl, rfl, by decide, by decide, rfl, rfl⟩
theorem V_59 : mjVf 59 4 0 := ⟨_, rfl, rfl, by decide, by decide, rfl, rfl⟩
theorem V_60 : mjVf 60 4 2 := ⟨_, rfl, rfl, by decide, by decide, rfl, rfl⟩
theorem V_61 : mjVf 61 4 1 := ⟨_, rfl, rfl, by decide, by decide, rfl, rfl⟩
theorem V_62 : mjVf 62 4 3 := ⟨_, rfl, rfl, by decide, by decide, rfl, rfl⟩
theorem V_63 : mjVf 63 4 0 := ⟨_, rfl, rfl, by decide, by decide, rfl, rfl⟩
theorem V_64 : mjVf 64 4 0 := ⟨_, rfl, rfl, by decide, by decide, rfl, rfl⟩
theorem V_65 : mjVf 65 4 2 := ⟨_, rfl, rfl, by decide, by decide, rfl, rfl⟩
theorem V_66 : mjVf 66 4 0 := ⟨_, rfl, rfl, by decide, by decide, rfl, rfl⟩
theorem V_67 : mjVf 67 4 2 := ⟨_, rfl, rfl, by decide, by decide, rfl, rfl⟩
theorem V_68 : mjVf 68 4 1 := ⟨_, rfl, rfl, by decide, by decide, rfl, rfl⟩
theorem V_69 : mjVf 69 4 1 := ⟨_, rfl, rfl, by decide, by decide, rfl, rfl⟩
theorem V_70 : mjVf 70 4 0 := ⟨_, rfl, rfl, by decide, by decide, rfl, rfl⟩
theorem V_71 : mjVf 71 4 2 := ⟨_, rfl, rfl, by decide, by decide, rfl, rfl⟩
theorem V_73 : mjVf 73 5 0 := ⟨_, rfl, rfl, by decide, by decide, rfl, rfl⟩
theorem V_74 : mjVf 74 5 3 := ⟨_, rfl, rfl, by decide, by decide, rfl, rfl⟩
theorem V_75 : mjVf 75 5 1 := ⟨_, rfl, rfl, by decide, by decide, rfl, rfl⟩
theorem V_76 : mjVf 76 5 0 := ⟨_, rfl, rfl, by decide, by decide, rfl, rfl⟩
theorem V_77 : mjVf 77 5 0 := ⟨_, rfl, rfl, by decide, by decide, rfl, rfl⟩
theorem V_78 : mjVf 78 5 3 := ⟨_, rfl, rfl, by decide, by decide, rfl, rfl⟩
theorem V_79 : mjVf 79 5 1 := ⟨_, rfl, rfl, by decide, by decide, rfl, rfl⟩
theorem V_80 : mjVf 80 5 0 := ⟨_, rfl, rfl, by decide, by decide, rfl, rfl⟩
theorem V_81 : mjVf 81 5 2 := ⟨_, rfl, rfl, by decide, by decide, rfl, rfl⟩
theorem V_82 : mjVf 82 5 2 := ⟨_, rfl, rfl, by decide, by decide, rfl, rfl⟩
theorem V_83 : mjVf 83 5 1 := ⟨_, rfl, rfl, by decide, by decide, rfl, rfl⟩
theorem V_84 : mjVf 84 5 1 := ⟨_, rfl, rfl, by decide, by decide, rfl, rfl⟩
theorem V_85 : mjVf 85 5 2 := ⟨_, rfl, rfl, by decide, by decide, rfl, rfl⟩
theorem V_86 : mjVf 86 5 4 := ⟨_, rfl, rfl, by decide, by decide, rfl, rfl⟩
theorem V_87 : mjVf 87 5 3 := ⟨_, rfl, rfl, by decide, by decide, rfl, rfl⟩
theorem V_88 : mjVf 88 5 2 := ⟨_, rfl, rfl, by decide, by decide, rfl, rfl⟩
theorem V_89 : mjVf 89 5 2 := ⟨_, rfl, rfl, by decide, by decide, rfl, rfl⟩
theorem V_90 : mjVf 90 5 1 := ⟨_, rfl, rfl, by decide, by decide, rfl, rfl⟩
theorem V_91 : mjVf 91 5 2 := ⟨_, rfl, rfl, by decide, by decide, rfl, rfl⟩
theorem V_92 : mjVf 92 5 1 := ⟨_, rfl, rfl, by decide, by decide, rfl, rfl⟩
theorem V_93 : mjVf 93 5 3 := ⟨_, rfl, rfl, by decide, by decide, rfl, rfl⟩
theorem V_94 : mjVf 94 5 2 := ⟨_, rfl, rfl, by decide, by decide, rfl, rfl⟩
theorem V_96 : mjVf 96 6 0 := ⟨_, rfl, rfl, by decide, by decide, rfl, rfl⟩
theorem V_97 : mjVf 97 6 3 := ⟨_, rfl, rfl, by decide, by decide, rfl, rfl⟩
theorem V_98 : mjVf 98 6 2 := ⟨_, rfl, rfl, by decide, by decide, rfl, rfl⟩
theorem V_99 : mjVf 99 6 1 := ⟨_, rfl, rfl, by decide, by decide, rfl, rfl⟩
theorem V_101 : mjVf 101 7 0 := ⟨_, rfl, rfl, by decide, by decide, rfl, rfl⟩
theorem V_102 : mjSf 102 1 := ⟨_, rfl, rfl, rfl⟩
theorem V_103 : mjSf 103 3 := ⟨_, rfl, rfl, rfl⟩
theorem V_104 : mjVf 104 7 2 := ⟨_, rfl, rfl, by decide, by decide, rfl, rfl⟩
theorem V_105 : mjSf 105 1 := ⟨_, rfl, rfl, rfl⟩
theorem V_106 : mjSf 106 2 := ⟨_, rfl, rfl, rfl⟩
theorem V_107 : mjVf 107 7 3 := ⟨_, rfl, rfl, by decide, by decide, rfl, rfl⟩
theorem V_108 : mjVf 108 7 1 := ⟨_, rfl, rfl, by decide, by decide, rfl, rfl⟩
theorem V_109 : mjVf 109 7 4 := ⟨_, rfl, rfl, by decide, by decide, rfl, rfl⟩
theorem V_110 : mjVf 110 7 0 := ⟨_, rfl, rfl, by decide, by decide, rfl, rfl⟩
theorem V_111 : mjVf 111 7 1 := ⟨_, rfl, rfl, by decide, by decide, rfl, rfl⟩
theorem V_112 : mjVf 112 7 2 := ⟨_, rfl, rfl, by decide, by decide, rfl, rfl⟩
theorem V_113 : mjVf 113 7 0 := ⟨_, rfl, rfl, by decide, by decide, rfl, rfl⟩
theorem V_114 : mjVf 114 7 2 := ⟨_, rfl, rfl, by decide, by decide, rfl, rfl⟩
theorem V_115 : mjVf 115 7 0 := ⟨_, rfl, rfl, by decide, by decide, rfl, rfl⟩
theorem V_116 : mjVf 116 7 1 := ⟨_, rfl, rfl, by decide, by decide, rfl, rfl⟩
theorem V_117 : mjVf 117 7 3 := ⟨_, rfl, rfl, by decide, by decide, rfl, rfl⟩
theorem V_118 : mjVf 118 7 1 := ⟨_, rfl, rfl, by decide, by decide, rfl, rfl⟩
theorem V_119 : mjVf 119 7 2 := ⟨_, rfl, rfl, by decide, by decide, rfl, rfl⟩
theorem V_120 : mjVf 120 7 0 := ⟨_, rfl, rfl, by decide, by decide, rfl, rfl⟩
theorem V_121 : mjVf 121 7 3 := ⟨_, rfl, rfl, by decide, by decide, rfl, rfl⟩
theorem V_122 : mjSf 122 1 := ⟨_, rfl, rfl, rfl⟩
theorem V_123 : mjVf 123 7 2 := ⟨_, rfl, rfl, by decide, by decide, rfl, rfl⟩
theorem V_124 : mjVf 124 7 2 := ⟨_, rfl, rfl, by decide, by decide, rfl, rfl⟩
theorem V_126 : mjVf 126 8 1 := ⟨_, rfl, rfl, by decide, by decide, rfl, rfl⟩
theorem V_127 : mjVf 127 8 1 := ⟨_, rfl, rfl, by decide, by decide, rfl, rfl⟩
theorem V_128 : mjVf 128 8 1 := ⟨_, rfl, rfl, by decide, by decide, rfl, rfl⟩
theorem V_129 : mjVf 129 8 1 := ⟨_, rfl, rfl, by decide, by decide, rfl, rfl⟩
theorem V_130 : mjVf 130 8 1 := ⟨_, rfl, rfl, by decide, by decide, rfl, rfl⟩
theorem V_131 : mjVf 131 8 1 := ⟨_, rfl, rfl, by decide, by decide, rfl, rfl⟩
theorem V_132 : mjVf 132 8 1 := ⟨_, rfl, rfl, by decide, by decide, rfl, rfl⟩
theorem V_133 : mjVf 133 8 1 := ⟨_, rfl, rfl, by decide, by decide, rfl, rfl⟩
theorem V_134 : mjVf 134 8 1 := ⟨_, rfl, rfl, by decide, by decide, rfl, rfl⟩
theorem V_135 : mjVf 135 8 0 := ⟨_, rfl, rfl, by decide, by decide, rfl, rfl⟩
theorem V_136 : mjVf 136 8 2 := ⟨_, rfl, rfl, by decide, by decide, rfl, rfl⟩
theorem V_137 : mjVf 137 8 1 := ⟨_, rfl, rfl, by decide, by decide, rfl, rfl⟩
theorem V_138 : mjVf 138 8 1 := ⟨_, rfl, rfl, by decide, by decide, rfl, rfl⟩
theorem V_139 : mjVf 139 8 0 := ⟨_, rfl, rfl, by decide, by decide, rfl, rfl⟩
theorem V_140 : mjVf 140 8 0 := ⟨_, rfl, rfl, by decide, by decide, rfl, rfl⟩
theorem V_141 : mjVf 141 8 0 := ⟨_, rfl, rfl, by decide, by decide, rfl, rfl⟩
theorem V_142 : mjVf 142 8 0 := ⟨_, rfl, rfl, by decide, by decide, rfl, rfl⟩
theorem V_143 : mjVf 143 8 0 := ⟨_, rfl, rfl, by decide, by decide, rfl, rfl⟩
theorem V_144 : mjVf 144 8 0 := ⟨_, rfl, rfl, by decide, by decide, rfl, rfl⟩
theorem V_145 : mjVf 145 8 0 := ⟨_, rfl, rfl, by decide, by decide, rfl, rfl⟩
theorem V_146 : mjVf 146 8 0 := ⟨_, rfl, rfl, by decide, by decide, rfl, rfl⟩
theorem V_147 : mjVf 147 8 0 := ⟨_, rfl, rfl, by decide, by decide, rfl, rfl⟩
theorem V_148 : mjVf 148 8 0 := ⟨_, rfl, rfl, by decide, by decide, rfl, rfl⟩
theorem V_149 : mjVf 149 8 0 := ⟨_, rfl, rfl, by decide, by decide, rfl, rfl⟩
theorem V_150 : mjVf 150 8 0 := ⟨_, rfl, rfl, by decide, by decide, rfl, rfl⟩
theorem V_151 : mjVf 151 8 1 := ⟨_, rfl, rfl, by decide, by decide, rfl, rfl⟩
theorem V_153 : mjSf 153 2 := ⟨_, rfl, rfl, rfl⟩
theorem V_154 : mjVf 154 9 2 := ⟨_, rfl, rfl, by decide, by decide, rfl, rfl⟩
theorem V_155 : mjSf 155 3 := ⟨_, rfl, rfl, rfl⟩
theorem V_156 : mjVf 156 9 3 := ⟨_, rfl, rfl, by decide, by decide, rfl, rfl⟩
theorem V_157 : mjSf 157 1 := ⟨_, rfl, rfl, rfl⟩
theorem V_158 : mjVf 158 9 3 := ⟨_, rfl, rfl, by decide, by decide, rfl, rfl⟩
theorem V_159 : mjSf 159 1 := ⟨_, rfl, rfl, rfl⟩
theorem V_160 : mjVf 160 9 1 := ⟨_, rfl, rfl, by decide, by decide, rfl, rfl⟩
theorem V_161 : mjVf 161 9 3 := ⟨_, rfl, rfl, by decide, by decide, rfl, rfl⟩
theorem V_162 : mjVf 162 9 3 := ⟨_, rfl, rfl, by decide, by decide, rfl, rfl⟩
theorem V_163 : mjVf 163 9 3 := ⟨_, rfl, rfl, by decide, by decide, rfl, rfl⟩
theorem V_164 : mjVf 164 9 1 := ⟨_, rfl, rfl, by decide, by decide, rfl, rfl⟩
theorem V_165 : mjVf 165 9 1 := ⟨_, rfl, rfl, by decide, by decide, rfl, rfl⟩
theorem V_166 : mjVf 166 9 0 := ⟨_, rfl, rfl, by decide, by decide, rfl, rfl⟩
theorem V_167 : mjVf 167 9 0 := ⟨_, rfl, rfl, by decide, by decide, rfl, rfl⟩
theorem V_168 : mjVf 168 9 1 := ⟨_, rfl, rfl, by decide, by decide, rfl, rfl⟩
theorem V_169 : mjVf 169 9 1 := ⟨_, rfl, rfl, by decide, by decide, rfl, rfl⟩
theorem V_170 : mjVf 170 9 1 := ⟨_, rfl, rfl, by decide, by decide, rfl, rfl⟩
theorem V_171 : mjVf 171 9 0 := ⟨_, rfl, rfl, by decide, by decide, rfl, rfl⟩
theorem V_172 : mjVf 172 9 0 := ⟨_, rfl, rfl, by decide, by decide, rfl, rfl⟩
theorem V_173 : mjVf 173 9 0 := ⟨_, rfl, rfl, by decide, by decide, rfl, rfl⟩
theorem V_174 : mjVf 174 9 2 := ⟨_, rfl, rfl, by decide, by decide, rfl, rfl⟩
theorem V_175 : mjVf 175 9 0 := ⟨_, rfl, rfl, by decide, by decide, rfl, rfl⟩
theorem V_176 : mjVf 176 9 0 := ⟨_, rfl, rfl, by decide, by decide, rfl, rfl⟩
theorem V_177 : mjVf 177 9 0 := ⟨_, rfl, rfl, by decide, by decide, rfl, rfl⟩
theorem V_178 : mjVf 178 9 2 := ⟨_, rfl, rfl, by decide, by decide, rfl, rfl⟩
theorem V_179 : mjVf 179 9 1 := ⟨_, rfl, rfl, by decide, by decide, rfl, rfl⟩
theorem V_180 : mjVf 180 9 1 := ⟨_, rfl, rfl, by decide, by decide, rfl, rfl⟩
theorem V_181 : mjVf 181 9 1 := ⟨_, rfl, rfl, by decide, by decide, rfl, rfl⟩
theorem V_183 : mjVf 183 10 0 := ⟨_, rfl, rfl, by decide, by decide, rfl, rfl⟩
theorem V_184 : mjVf 184 10 1 := ⟨_, rfl, rfl, by decide, by decide, rfl, rfl⟩
theorem V_185 : mjVf 185 10 2 := ⟨_, rfl, rfl, by decide, by decide, rfl, rfl⟩
theorem V_186 : mjVf 186 10 2 := ⟨_, rfl, rfl, by decide, by decide, rfl, rfl⟩
theorem V_187 : mjVf 187 10 2 := ⟨_, rfl, rfl, by decide, by decide, rfl, rfl⟩
theorem V_188 : mjVf 188 10 2 := ⟨_, rfl, rfl, by decide, by decide, rfl, rfl⟩
theorem V_189 : mjVf 189 10 1 := ⟨_, rfl, rfl, by decide, by decide, rfl, rfl⟩
theorem V_190 : mjVf 190 10 2 := ⟨_, rfl, rfl, by decide, by decide, rfl, rfl⟩
theorem V_191 : mjVf 191 10 1 := ⟨_, rfl, rfl, by decide, by decide, rfl, rfl⟩
theorem V_192 : mjVf 192 10 1 := ⟨_, rfl, rfl, by decide, by decide, rfl, rfl⟩
theorem V_193 : mjVf 193 10 0 := ⟨_, rfl, rfl, by decide, by decide, rfl, rfl⟩
theorem V_194 : mjVf 194 10 0 := ⟨_, rfl, rfl, by decide, by decide, rfl, rfl⟩
theorem V_195 : mjVf 195 10 1 := ⟨_, rfl, rfl, by decide, by decide, rfl, rfl⟩
theorem V_196 : mjVf 196 10 2 := ⟨_, rfl, rfl, by decide, by decide, rfl, rfl⟩
theorem V_197 : mjVf 197 10 1 := ⟨_, rfl, rfl, by decide, by decide, rfl, rfl⟩
theorem V_198 : mjVf 198 10 0 := ⟨_, rfl, rfl, by decide, by decide, rfl, rfl⟩
theorem V_199 : mjVf 199 10 1 := ⟨_, rfl, rfl, by decide, by decide, rfl, rfl⟩
theorem V_200 : mjVf 200 10 2 := ⟨_, rfl, rfl, by decide, by decide, rfl, rfl⟩
theorem V_203 : mjVf 203 11 1 := ⟨_, rfl, rfl, by decide, by decide, rfl, rfl⟩
theorem V_205 : mjVf 205 11 0 := ⟨_, rfl, rfl, by decide, by decide, rfl, rfl⟩
theorem V_209 : mjVf 209 11 2 := ⟨_, rfl, rfl, by decide, by decide, rfl, rfl⟩
theorem V_226 : mjVf 226 12 7 := ⟨_, rfl, rfl, by decide, by decide, rfl, rfl⟩
theorem V_227 : mjSf 227 2 := ⟨_, rfl, rfl, rfl⟩
theorem V_228 : mjSf 228 1 := ⟨_, rfl, rfl, rfl⟩
theorem V_230 : mjSf 230 1 := ⟨_, rfl, rfl, rfl⟩
theorem V_231 : mjVf 231 12 1 := ⟨_, rfl, rfl, by decide, by decide, rfl, rfl⟩
theorem V_232 : mjVf 232 12 1 := ⟨_, rfl, rfl, by decide, by decide, rfl, rfl⟩
theorem V_233 : mjVf 233 12 1 := ⟨_, rfl, rfl, by decide, by decide, rfl, rfl⟩
theorem V_234 : mjVf 234 12 2 := ⟨_, rfl, rfl, by decide, by decide, rfl, rfl⟩
theorem V_235 : mjVf 235 12 1 := ⟨_, rfl, rfl, by decide, by decide, rfl, rfl⟩
theorem V_236 : mjVf 236 12 2 := ⟨_, rfl, rfl, by decide, by decide, rfl, rfl⟩
theorem V_237 : mjVf 237 12 0 := ⟨_, rfl, rfl, by decide, by decide, rfl, rfl⟩
theorem V_238 : mjVf 238 12 0 := ⟨_, rfl, rfl, by decide, by decide, rfl, rfl⟩
theorem V_239 : mjVf 239 12 1 := ⟨_, rfl, rfl, by decide, by decide, rfl, rfl⟩
theorem V_240 : mjVf 240 12 1 := ⟨_, rfl, rfl, by decide, by decide, rfl, rfl⟩
theorem V_241 : mjVf 241 12 2 := ⟨_, rfl, rfl, by decide, by decide, rfl, rfl⟩
theorem V_242 : mjVf 242 12 1 := ⟨_, rfl, rfl, by decide, by decide, rfl, rfl⟩
theorem V_243 : mjVf 243 12 2 := ⟨_, rfl, rfl, by decide, by decide, rfl, rfl⟩
theorem V_244 : mjVf 244 12 1 := ⟨_, rfl, rfl, by decide, by decide, rfl, rfl⟩
theorem V_246 : mjVf 246 12 1 := ⟨_, rfl, rfl, by decide, by decide, rfl, rfl⟩
theorem V_247 : mjVf 247 12 0 := ⟨_, rfl, rfl, by decide, by decide, rfl, rfl⟩
theorem V_248 : mjVf 248 12 2 := ⟨_, rfl, rfl, by decide, by decide, rfl, rfl⟩
theorem V_249 : mjVf 249 12 1 := ⟨_, rfl, rfl, by decide, by decide, rfl, rfl⟩
theorem V_250 : mjVf 250 12 1 := ⟨_, rfl, rfl, by decide, by decide, rfl, rfl⟩
theorem V_252 : mjVf 252 12 0 := ⟨_, rfl, rfl, by decide, by decide, rfl, rfl⟩
theorem V_253 : mjVf 253 12 1 := ⟨_, rfl, rfl, by decide, by decide, rfl, rfl⟩
theorem V_254 : mjVf 254 12 1 := ⟨_, rfl, rfl, by decide, by decide, rfl, rfl⟩
theorem V_259 : mjVf 259 12 1 := ⟨_, rfl, rfl, by decide, by decide, rfl, rfl⟩
theorem V_261 : mjVf 261 12 0 := ⟨_, rfl, rfl, by decide, by decide, rfl, rfl⟩
theorem V_262 : mjVf 262 12 0 := ⟨_, rfl, rfl, by decide, by decide, rfl, rfl⟩
theorem V_263 : mjVf 263 12 1 := ⟨_, rfl, rfl, by decide, by decide, rfl, rfl⟩
theorem V_264 : mjVf 264 12 0 := ⟨_, rfl, rfl, by decide, by decide, rfl, rfl⟩
theorem V_265 : mjVf 265 12 1 := ⟨_, rfl, rfl, by decide, by decide, rfl, rfl⟩
theorem V_266 : mjVf 266 12 1 := ⟨_, rfl, rfl, by decide, by decide, rfl, rfl⟩
theorem V_267 : mjVf 267 12 0 := ⟨_, rfl, rfl, by decide, by decide, rfl, rfl⟩
theorem V_268 : mjVf 268 12 2 := ⟨_, rfl, rfl, by decide, by decide, rfl, rfl⟩
theorem V_269 : mjVf 269 12 0 := ⟨_, rfl, rfl, by decide, by decide, rfl, rfl⟩
theorem V_270 : mjVf 270 12 1 := ⟨_, rfl, rfl, by decide, by decide, rfl, rfl⟩
theorem V_271 : mjVf 271 12 1 := ⟨_, rfl, rfl, by decide, by decide, rfl, rfl⟩
theorem V_272 : mjVf 272 12 0 := ⟨_, rfl, rfl, by decide, by decide, rfl, rfl⟩
theorem V_273 : mjVf 273 12 1 := ⟨_, rfl, rfl, by decide, by decide, rfl, rfl⟩
theorem V_274 : mjVf 274 12 1 := ⟨_, rfl, rfl, by decide, by decide, rfl, rfl⟩
theorem V_275 : mjVf 275 12 1 := ⟨_, rfl, rfl, by decide, by decide, rfl, rfl⟩
theorem V_276 : mjVf 276 12 0 := ⟨_, rfl, rfl, by decide, by decide, rfl, rfl⟩
theorem V_277 : mjVf 277 12 0 := ⟨_, rfl, rfl, by decide, by decide, rfl, rfl⟩
theorem V_278 : mjVf 278 12 1 := ⟨_, rfl, rfl, by decide, by decide, rfl, rfl⟩
theorem V_279 : mjVf 279 12 0 := ⟨_, rfl, rfl, by decide, by decide, rfl, rfl⟩
theorem V_280 : mjVf 280 12 3 := ⟨_, rfl, rfl, by decide, by decide, rfl, rfl⟩
theorem V_281 : mjVf 281 12 4 := ⟨_, rfl, rfl, by decide, by decide, rfl, rfl⟩
theorem V_282 : mjVf 282 12 0 := ⟨_, rfl, rfl, by decide, by decide, rfl, rfl⟩
theorem V_283 : mjVf 283 12 1 := ⟨_, rfl, rfl, by decide, by decide, rfl, rfl⟩
theorem V_284 : mjVf 284 12 0 := ⟨_, rfl, rfl, by decide, by decide, rfl, rfl⟩
theorem V_285 : mjVf 285 12 1 := ⟨_, rfl, rfl, by decide, by decide, rfl, rfl⟩
theorem V_286 : mjVf 286 12 4 := ⟨_, rfl, rfl, by decide, by decide, rfl, rfl⟩
theorem V_287 : mjVf 287 12 0 := ⟨_, rfl, rfl, by decide, by decide, rfl, rfl⟩
theorem V_288 : mjVf 288 12 4 := ⟨_, rfl, rfl, by decide, by decide, rfl, rfl⟩
theorem V_289 : mjVf 289 12 0 := ⟨_, rfl, rfl, by decide, by decide, rfl, rfl⟩
theorem V_290 : mjVf 290 12 0 := ⟨_, rfl, rfl, by decide, by decide, rfl, rfl⟩
theorem V_291 : mjVf 291 12 0 := ⟨_, rfl, rfl, by decide, by decide, rfl, rfl⟩
theorem V_292 : mjVf 292 12 0 := ⟨_, rfl, rfl, by decide, by decide, rfl, rfl⟩
theorem V_293 : mjVf 293 12 1 := ⟨_, rfl, rfl, by decide, by decide, rfl, rfl⟩
theorem V_294 : mjVf 294 12 1 := ⟨_, rfl, rfl, by decide, by decide, rfl, rfl⟩
theorem V_295 : mjVf 295 12 0 := ⟨_, rfl, rfl, by decide, by decide, rfl, rfl⟩
theorem V_296 : mjSf 296 1 := ⟨_, rfl, rfl, rfl⟩
theorem V_297 : mjVf 297 12 0 := ⟨_, rfl, rfl, by decide, by decide, rfl, rfl⟩
theorem V_298 : mjVf 298 12 1 := ⟨_, rfl, rfl, by decide, by decide, rfl, rfl⟩
theorem V_299 : mjVf 299 12 0 := ⟨_, rfl, rfl, by decide, by decide, rfl, rfl⟩
theorem V_300 : mjVf 300 12 2 := ⟨_, rfl, rfl, by decide, by decide, rfl, rfl⟩
theorem V_301 : mjVf 301 12 1 := ⟨_, rfl, rfl, by decide, by decide, rfl, rfl⟩
theorem V_302 : mjVf 302 12 3 := ⟨_, rfl, rfl, by decide, by decide, rfl, rfl⟩
theorem V_303 : mjVf 303 12 1 := ⟨_, rfl, rfl, by decide, by decide, rfl, rfl⟩
theorem V_304 : mjVf 304 12 3 := ⟨_, rfl, rfl, by decide, by decide, rfl, rfl⟩
theorem V_305 : mjVf 305 12 2 := ⟨_, rfl, rfl, by decide, by decide, rfl, rfl⟩
theorem V_306 : mjVf 306 12 1 := ⟨_, rfl, rfl, by decide, by decide, rfl, rfl⟩
theorem V_307 : mjVf 307 12 1 := ⟨_, rfl, rfl, by decide, by decide, rfl, rfl⟩
theorem V_308 : mjVf 308 12 1 := ⟨_, rfl, rfl, by decide, by decide, rfl, rfl⟩
theorem V_309 : mjVf 309 12 1 := ⟨_, rfl, rfl, by decide, by decide, rfl, rfl⟩
theorem V_310 : mjVf 310 12 2 := ⟨_, rfl, rfl, by decide, by decide, rfl, rfl⟩
theorem V_311 : mjVf 311 12 3 := ⟨_, rfl, rfl, by decide, by decide, rfl, rfl⟩
theorem V_312 : mjSf 312 1 := ⟨_, rfl, rfl, rfl⟩
theorem V_313 : mjVf 313 12 2 := ⟨_, rfl, rfl, by decide, by decide, rfl, rfl⟩
theorem V_314 : mjVf 314 12 1 := ⟨_, rfl, rfl, by decide, by decide, rfl, rfl⟩
theorem V_315 : mjVf 315 12 1 := ⟨_, rfl, rfl, by decide, by decide, rfl, rfl⟩
theorem V_316 : mjVf 316 12 3 := ⟨_, rfl, rfl, by decide, by decide, rfl, rfl⟩
theorem V_317 : mjVf 317 12 0 := ⟨_, rfl, rfl, by decide, by decide, rfl, rfl⟩
theorem V_318 : mjVf 318 12 1 := ⟨_, rfl, rfl, by decide, by decide, rfl, rfl⟩
theorem V_319 : mjVf 319 12 2 := ⟨_, rfl, rfl, by decide, by decide, rfl, rfl⟩
theorem V_320 : mjVf 320 12 2 := ⟨_, rfl, rfl, by decide, by decide, rfl, rfl⟩
theorem V_321 : mjVf 321 12 1 := ⟨_, rfl, rfl, by decide, by decide, rfl, rfl⟩
theorem V_322 : mjVf 322 12 1 := ⟨_, rfl, rfl, by decide, by decide, rfl, rfl⟩
theorem V_323 : mjVf 323 12 1 := ⟨_, rfl, rfl, by decide, by decide, rfl, rfl⟩
theorem V_324 : mjVf 324 12 1 := ⟨_, rfl, rfl, by decide, by decide, rfl, rfl⟩
theorem V_325 : mjVf 325 12 1 := ⟨_, rfl, rfl, by decide, by decide, rfl, rfl⟩
theorem V_326 : mjVf 326 12 1 := ⟨_, rfl, rfl, by decide, by decide, rfl, rfl⟩
theorem V_327 : mjVf 327 12 1 := ⟨_, rfl, rfl, by decide, by decide, rfl, rfl⟩
theorem V_328 : mjVf 328 12 1 := ⟨_, rfl, rfl, by decide, by decide, rfl, rfl⟩
theorem V_329 : mjVf 329 12 1 := ⟨_, rfl, rfl, by decide, by decide, rfl, rfl⟩
theorem V_330 : mjVf 330 12 1 := ⟨_, rfl, rfl, by decide, by decide, rfl, rfl⟩
theorem V_331 : mjVf 331 12 1 := ⟨_, rfl, rfl, by decide, by decide, rfl, rfl⟩
theorem V_332 : mjVf 332 12 1 := ⟨_, rfl, rfl, by decide, by decide, rfl, rfl⟩
theorem V_333 : mjVf 333 12 1 := ⟨_, rfl, rfl, by decide, by decide, rfl, rfl⟩
theorem V_334 : mjVf 334 12 2 := ⟨_, rfl, rfl, by decide, by decide, rfl, rfl⟩
theorem V_335 : mjVf 335 12 1 := ⟨_, rfl, rfl, by decide, by decide, rfl, rfl⟩
theorem V_338 : mjVf 338 12 1 := ⟨_, rfl, rfl, by decide, by decide, rfl, rfl⟩
theorem V_344 : mjVf 344 12 1 := ⟨_, rfl, rfl, by decide, by decide, rfl, rfl⟩
theorem V_347 : mjVf 347 12 1 := ⟨_, rfl, rfl, by decide, by decide, rfl, rfl⟩
theorem V_351 : mjSf 351 1 := ⟨_, rfl, rfl, rfl⟩
theorem V_352 : mjSf 352 1 := ⟨_, rfl, rfl, rfl⟩
theorem V_353 : mjSf 353 1 := ⟨_, rfl, rfl, rfl⟩
theorem V_354 : mjSf 354 2 := ⟨_, rfl, rfl, rfl⟩
theorem V_355 : mjSf 355 2 := ⟨_, rfl, rfl, rfl⟩
theorem V_356 : mjTf 356 0 := ⟨_, rfl, rfl, by decide, rfl, rfl⟩
theorem V_357 : mjTf 357 0 := ⟨_, rfl, rfl, by decide, rfl, rfl⟩
theorem V_358 : mjTf 358 1 := ⟨_, rfl, rfl, by decide, rfl, rfl⟩
theorem V_359 : mjTf 359 0 := ⟨_, rfl, rfl, by decide, rfl, rfl⟩
theorem V_360 : mjSf 360 2 := ⟨_, rfl, rfl, rfl⟩
theorem V_361 : mjTf 361 1 := ⟨_, rfl, rfl, by decide, rfl, rfl⟩
theorem V_362 : mjTf 362 2 := ⟨_, rfl, rfl, by decide, rfl, rfl⟩
theorem V_363 : mjSf 363 3 := ⟨_, rfl, rfl, rfl⟩
theorem V_364 : mjSf 364 2 := ⟨_, rfl, rfl, rfl⟩
theorem V_365 : mjSf 365 4 := ⟨_, rfl, rfl, rfl⟩
theorem V_366 : mjSf 366 1 := ⟨_, rfl, rfl, rfl⟩
theorem V_367 : mjSf 367 4 := ⟨_, rfl, rfl, rfl⟩
theorem V_368 : mjSf 368 2 := ⟨_, rfl, rfl, rfl⟩
theorem V_369 : mjSf 369 2 := ⟨_, rfl, rfl, rfl⟩
theorem V_370 : mjSf 370 1 := ⟨_, rfl, rfl, rfl⟩
theorem V_371 : mjSf 371 2 := ⟨_, rfl, rfl, rfl⟩
theorem V_372 : mjSf 372 4 := ⟨_, rfl, rfl, rfl⟩
theorem V_373 : mjSf 373 4 := ⟨_, rfl, rfl, rfl⟩
theorem V_374 : mjSf 374 3 := ⟨_, rfl, rfl, rfl⟩
theorem V_375 : mjSf 375 4 := ⟨_, rfl, rfl, rfl⟩
theorem V_376 : mjSf 376 4 := ⟨_, rfl, rfl, rfl⟩
theorem V_377 : mjSf 377 2 := ⟨_, rfl, rfl, rfl⟩
theorem V_378 : mjSf 378 2 := ⟨_, rfl, rfl, rfl⟩
theorem V_379 : mjSf 379 4 := ⟨_, rfl, rfl, rfl⟩
theorem V_380 : mjSf 380 3 := ⟨_, rfl, rfl, rfl⟩
theorem V_381 : mjSf 381 3 := ⟨_, rfl, rfl, rfl⟩
theorem V_382 : mjSf 382 4 := ⟨_, rfl, rfl, rfl⟩
