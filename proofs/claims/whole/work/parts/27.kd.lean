theorem kd_0 : kd 0 = (5, 11) := by decide +kernel
theorem kd_1 : kd 1 = (5, 4) := by decide +kernel
theorem kd_2 : kd 2 = (5, 0) := by decide +kernel
theorem kd_3 : kd 3 = (0, 40) := by decide +kernel
theorem kd_4 : kd 4 = (0, 10) := by decide +kernel
theorem kd_5 : kd 5 = (0, 20) := by decide +kernel
theorem kd_6 : kd 6 = (0, 20) := by decide +kernel
theorem kd_7 : kd 7 = (0, 4) := by decide +kernel
theorem kd_8 : kd 8 = (0, 4) := by decide +kernel
theorem kd_9 : kd 9 = (0, 100) := by decide +kernel
theorem kd_10 : kd 10 = (5, 7) := by decide +kernel
theorem kd_11 : kd 11 = (0, 400) := by decide +kernel
theorem kd_12 : kd 12 = (0, 12) := by decide +kernel
theorem kd_13 : kd 13 = (0, 40) := by decide +kernel
theorem kd_14 : kd 14 = (5, 10) := by decide +kernel
theorem kd_15 : kd 15 = (0, 2) := by decide +kernel
theorem kd_16 : kd 16 = (0, 120) := by decide +kernel
theorem kd_17 : kd 17 = (0, 120) := by decide +kernel
theorem kd_18 : kd 18 = (0, 480) := by decide +kernel
theorem kd_19 : kd 19 = (0, 40) := by decide +kernel
theorem kd_20 : kd 20 = (5, 1) := by decide +kernel
theorem kd_21 : kd 21 = (0, 16) := by decide +kernel
theorem kd_22 : kd 22 = (0, 4) := by decide +kernel
theorem kd_23 : kd 23 = (0, 120) := by decide +kernel
theorem kd_24 : kd 24 = (0, 60) := by decide +kernel
theorem kd_25 : kd 25 = (0, 60) := by decide +kernel
theorem kd_26 : kd 26 = (0, 60) := by decide +kernel
theorem kd_27 : kd 27 = (0, 3) := by decide +kernel
theorem kd_28 : kd 28 = (0, 3) := by decide +kernel
theorem kd_29 : kd 29 = (1, 3) := by decide +kernel
theorem kd_30 : kd 30 = (4, 2) := by decide +kernel
theorem kd_31 : kd 31 = (5, 4) := by decide +kernel
theorem kd_32 : kd 32 = (5, 0) := by decide +kernel
theorem kd_33 : kd 33 = (0, 40) := by decide +kernel
theorem kd_34 : kd 34 = (0, 10) := by decide +kernel
theorem kd_35 : kd 35 = (0, 20) := by decide +kernel
theorem kd_36 : kd 36 = (0, 20) := by decide +kernel
theorem kd_37 : kd 37 = (0, 4) := by decide +kernel
theorem kd_38 : kd 38 = (0, 4) := by decide +kernel
theorem kd_39 : kd 39 = (0, 100) := by decide +kernel
theorem kd_40 : kd 40 = (5, 7) := by decide +kernel
theorem kd_41 : kd 41 = (0, 400) := by decide +kernel
theorem kd_42 : kd 42 = (0, 12) := by decide +kernel
theorem kd_43 : kd 43 = (0, 40) := by decide +kernel
theorem kd_44 : kd 44 = (5, 10) := by decide +kernel
theorem kd_45 : kd 45 = (0, 2) := by decide +kernel
theorem kd_46 : kd 46 = (0, 120) := by decide +kernel
theorem kd_47 : kd 47 = (0, 120) := by decide +kernel
theorem kd_48 : kd 48 = (0, 480) := by decide +kernel
theorem kd_49 : kd 49 = (0, 40) := by decide +kernel
theorem kd_50 : kd 50 = (5, 1) := by decide +kernel
theorem kd_51 : kd 51 = (0, 16) := by decide +kernel
theorem kd_52 : kd 52 = (0, 4) := by decide +kernel
theorem kd_53 : kd 53 = (0, 120) := by decide +kernel
theorem kd_54 : kd 54 = (0, 60) := by decide +kernel
theorem kd_55 : kd 55 = (0, 60) := by decide +kernel
theorem kd_56 : kd 56 = (0, 60) := by decide +kernel
theorem kd_57 : kd 57 = (0, 3) := by decide +kernel
theorem kd_58 : kd 58 = (0, 3) := by decide +kernel
theorem kd_59 : kd 59 = (1, 3) := by decide +kernel
theorem kd_60 : kd 60 = (5, 4) := by decide +kernel
theorem kd_61 : kd 61 = (5, 0) := by decide +kernel
theorem kd_62 : kd 62 = (0, 40) := by decide +kernel
theorem kd_63 : kd 63 = (0, 10) := by decide +kernel
theorem kd_64 : kd 64 = (0, 20) := by decide +kernel
theorem kd_65 : kd 65 = (0, 20) := by decide +kernel
theorem kd_66 : kd 66 = (0, 4) := by decide +kernel
theorem kd_67 : kd 67 = (0, 4) := by decide +kernel
theorem kd_68 : kd 68 = (0, 100) := by decide +kernel
theorem kd_69 : kd 69 = (5, 7) := by decide +kernel
theorem kd_70 : kd 70 = (0, 400) := by decide +kernel
theorem kd_71 : kd 71 = (0, 12) := by decide +kernel
theorem kd_72 : kd 72 = (0, 40) := by decide +kernel
theorem kd_73 : kd 73 = (5, 10) := by decide +kernel
theorem kd_74 : kd 74 = (0, 2) := by decide +kernel
theorem kd_75 : kd 75 = (0, 120) := by decide +kernel
theorem kd_76 : kd 76 = (0, 120) := by decide +kernel
theorem kd_77 : kd 77 = (0, 480) := by decide +kernel
theorem kd_78 : kd 78 = (0, 40) := by decide +kernel
theorem kd_79 : kd 79 = (5, 1) := by decide +kernel
theorem kd_80 : kd 80 = (0, 16) := by decide +kernel
theorem kd_81 : kd 81 = (0, 4) := by decide +kernel
theorem kd_82 : kd 82 = (0, 120) := by decide +kernel
theorem kd_83 : kd 83 = (0, 60) := by decide +kernel
theorem kd_84 : kd 84 = (0, 60) := by decide +kernel
theorem kd_85 : kd 85 = (0, 60) := by decide +kernel
theorem kd_86 : kd 86 = (0, 3) := by decide +kernel
theorem kd_87 : kd 87 = (0, 3) := by decide +kernel
theorem kd_88 : kd 88 = (1, 3) := by decide +kernel
theorem kd_89 : kd 89 = (3, 2) := by decide +kernel
theorem kd_90 : kd 90 = (5, 9) := by decide +kernel
theorem kd_91 : kd 91 = (0, 400) := by decide +kernel
theorem kd_92 : kd 92 = (0, 401) := by decide +kernel
theorem kd_93 : kd 93 = (0, 401) := by decide +kernel
theorem kd_94 : kd 94 = (5, 3) := by decide +kernel
theorem kd_95 : kd 95 = (0, 4) := by decide +kernel
theorem kd_96 : kd 96 = (5, 7) := by decide +kernel
theorem kd_97 : kd 97 = (0, 400) := by decide +kernel
theorem kd_98 : kd 98 = (0, 12) := by decide +kernel
theorem kd_99 : kd 99 = (0, 40) := by decide +kernel
theorem kd_100 : kd 100 = (5, 8) := by decide +kernel
theorem kd_101 : kd 101 = (0, 10) := by decide +kernel
theorem kd_102 : kd 102 = (0, 4) := by decide +kernel
theorem kd_103 : kd 103 = (5, 2) := by decide +kernel
theorem kd_104 : kd 104 = (0, 6240) := by decide +kernel
theorem kd_105 : kd 105 = (5, 6) := by decide +kernel
theorem kd_106 : kd 106 = (0, 110) := by decide +kernel
theorem kd_107 : kd 107 = (0, 440) := by decide +kernel
theorem kd_108 : kd 108 = (0, 110) := by decide +kernel
theorem kd_109 : kd 109 = (0, 4840) := by decide +kernel
theorem kd_110 : kd 110 = (0, 1210) := by decide +kernel
theorem kd_111 : kd 111 = (0, 4840) := by decide +kernel
theorem kd_112 : kd 112 = (0, 24200) := by decide +kernel
theorem kd_113 : kd 113 = (0, 2200) := by decide +kernel
theorem kd_114 : kd 114 = (0, 420) := by decide +kernel
theorem kd_115 : kd 115 = (0, 4) := by decide +kernel
theorem kd_116 : kd 116 = (0, 20) := by decide +kernel
theorem kd_117 : kd 117 = (5, 5) := by decide +kernel
theorem kd_118 : kd 118 = (0, 20) := by decide +kernel
theorem kd_119 : kd 119 = (0, 20) := by decide +kernel
theorem kd_120 : kd 120 = (0, 20) := by decide +kernel
theorem kd_121 : kd 121 = (0, 400) := by decide +kernel
theorem kd_122 : kd 122 = (0, 20) := by decide +kernel
theorem kd_123 : kd 123 = (0, 20) := by decide +kernel
theorem kd_124 : kd 124 = (0, 20) := by decide +kernel
theorem kd_125 : kd 125 = (5, 5) := by decide +kernel
theorem kd_126 : kd 126 = (0, 20) := by decide +kernel
theorem kd_127 : kd 127 = (0, 20) := by decide +kernel
theorem kd_128 : kd 128 = (0, 20) := by decide +kernel
theorem kd_129 : kd 129 = (0, 400) := by decide +kernel
theorem kd_130 : kd 130 = (0, 20) := by decide +kernel
theorem kd_131 : kd 131 = (0, 20) := by decide +kernel
theorem kd_132 : kd 132 = (0, 20) := by decide +kernel
theorem kd_133 : kd 133 = (0, 3) := by decide +kernel
theorem kd_134 : kd 134 = (5, 12) := by decide +kernel
theorem kd_135 : kd 135 = (0, 2066) := by decide +kernel
theorem kd_136 : kd 136 = (0, 4132) := by decide +kernel
theorem kd_137 : kd 137 = (3, 2) := by decide +kernel
theorem kd_138 : kd 138 = (2, 400) := by decide +kernel
theorem kd_139 : kd 139 = (2, 400) := by decide +kernel
theorem kd_140 : kd 140 = (0, 5) := by decide +kernel
theorem kd_141 : kd 141 = (0, 16) := by decide +kernel
theorem kd_142 : kd 142 = (0, 13) := by decide +kernel
theorem kd_143 : kd 143 = (0, 13) := by decide +kernel
theorem kd_144 : kd 144 = (0, 13) := by decide +kernel
theorem kd_145 : kd 145 = (0, 13) := by decide +kernel
theorem kd_146 : kd 146 = (0, 41) := by decide +kernel
theorem kd_147 : kd 147 = (0, 41) := by decide +kernel
theorem kd_148 : kd 148 = (0, 41) := by decide +kernel
theorem kd_149 : kd 149 = (0, 41) := by decide +kernel
theorem kd_150 : kd 150 = (0, 41) := by decide +kernel
theorem kd_151 : kd 151 = (0, 400) := by decide +kernel
theorem kd_152 : kd 152 = (3, 400) := by decide +kernel
theorem kd_153 : kd 153 = (3, 41) := by decide +kernel
theorem kd_154 : kd 154 = (0, 41) := by decide +kernel
theorem kd_155 : kd 155 = (0, 41) := by decide +kernel
theorem kd_156 : kd 156 = (0, 41) := by decide +kernel
theorem kd_157 : kd 157 = (0, 41) := by decide +kernel
theorem kd_158 : kd 158 = (0, 16) := by decide +kernel
theorem kd_159 : kd 159 = (0, 80) := by decide +kernel
theorem kd_160 : kd 160 = (0, 21) := by decide +kernel
theorem kd_161 : kd 161 = (0, 4) := by decide +kernel
theorem kd_162 : kd 162 = (0, 2310) := by decide +kernel
theorem kd_163 : kd 163 = (0, 508200) := by decide +kernel
theorem kd_164 : kd 164 = (0, 462) := by decide +kernel
theorem kd_165 : kd 165 = (0, 20) := by decide +kernel
theorem kd_166 : kd 166 = (0, 20) := by decide +kernel
theorem kd_167 : kd 167 = (0, 20) := by decide +kernel
theorem kd_168 : kd 168 = (0, 320) := by decide +kernel
theorem kd_169 : kd 169 = (0, 20) := by decide +kernel
theorem kd_170 : kd 170 = (0, 2800) := by decide +kernel
theorem kd_171 : kd 171 = (0, 16) := by decide +kernel
theorem mr_0_0 : MR0 0 0 = some 1 := by decide +kernel
theorem mr_0_1 : MR0 0 1 = some 30 := by decide +kernel
theorem mr_0_2 : MR0 0 2 = some 89 := by decide +kernel
theorem mr_0_3 : MR0 0 3 = some 90 := by decide +kernel
theorem mr_0_4 : MR0 0 4 = some 94 := by decide +kernel
theorem mr_0_5 : MR0 0 5 = some 100 := by decide +kernel
theorem mr_0_6 : MR0 0 6 = some 103 := by decide +kernel
theorem mr_0_7 : MR0 0 7 = some 105 := by decide +kernel
theorem mr_0_8 : MR0 0 8 = some 117 := by decide +kernel
theorem mr_0_9 : MR0 0 9 = some 125 := by decide +kernel
theorem mr_0_10 : MR0 0 10 = some 133 := by decide +kernel
theorem mr_1_0 : MR0 1 0 = some 2 := by decide +kernel
theorem mr_1_1 : MR0 1 1 = some 10 := by decide +kernel
theorem mr_1_2 : MR0 1 2 = some 14 := by decide +kernel
theorem mr_1_3 : MR0 1 3 = some 20 := by decide +kernel
theorem mr_2_0 : MR0 2 0 = some 3 := by decide +kernel
theorem mr_2_1 : MR0 2 1 = some 4 := by decide +kernel
theorem mr_2_2 : MR0 2 2 = some 5 := by decide +kernel
theorem mr_2_3 : MR0 2 3 = some 6 := by decide +kernel
theorem mr_2_4 : MR0 2 4 = some 7 := by decide +kernel
theorem mr_2_5 : MR0 2 5 = some 8 := by decide +kernel
theorem mr_2_6 : MR0 2 6 = some 9 := by decide +kernel
theorem mr_10_0 : MR0 10 0 = some 11 := by decide +kernel
theorem mr_10_1 : MR0 10 1 = some 12 := by decide +kernel
theorem mr_10_2 : MR0 10 2 = some 13 := by decide +kernel
theorem mr_14_0 : MR0 14 0 = some 15 := by decide +kernel
theorem mr_14_1 : MR0 14 1 = some 16 := by decide +kernel
theorem mr_14_2 : MR0 14 2 = some 17 := by decide +kernel
theorem mr_14_3 : MR0 14 3 = some 18 := by decide +kernel
theorem mr_14_4 : MR0 14 4 = some 19 := by decide +kernel
theorem mr_20_0 : MR0 20 0 = some 21 := by decide +kernel
theorem mr_20_1 : MR0 20 1 = some 22 := by decide +kernel
theorem mr_20_2 : MR0 20 2 = some 23 := by decide +kernel
theorem mr_20_3 : MR0 20 3 = some 24 := by decide +kernel
theorem mr_20_4 : MR0 20 4 = some 25 := by decide +kernel
theorem mr_20_5 : MR0 20 5 = some 26 := by decide +kernel
theorem mr_20_6 : MR0 20 6 = some 27 := by decide +kernel
theorem mr_20_7 : MR0 20 7 = some 28 := by decide +kernel
theorem mr_20_8 : MR0 20 8 = some 29 := by decide +kernel
theorem mr_30_0 : MR0 30 0 = some 31 := by decide +kernel
theorem mr_30_1 : MR0 30 1 = some 60 := by decide +kernel
theorem mr_31_0 : MR0 31 0 = some 32 := by decide +kernel
theorem mr_31_1 : MR0 31 1 = some 40 := by decide +kernel
theorem mr_31_2 : MR0 31 2 = some 44 := by decide +kernel
theorem mr_31_3 : MR0 31 3 = some 50 := by decide +kernel
theorem mr_32_0 : MR0 32 0 = some 33 := by decide +kernel
theorem mr_32_1 : MR0 32 1 = some 34 := by decide +kernel
theorem mr_32_2 : MR0 32 2 = some 35 := by decide +kernel
theorem mr_32_3 : MR0 32 3 = some 36 := by decide +kernel
theorem mr_32_4 : MR0 32 4 = some 37 := by decide +kernel
theorem mr_32_5 : MR0 32 5 = some 38 := by decide +kernel
theorem mr_32_6 : MR0 32 6 = some 39 := by decide +kernel
theorem mr_40_0 : MR0 40 0 = some 41 := by decide +kernel
theorem mr_40_1 : MR0 40 1 = some 42 := by decide +kernel
theorem mr_40_2 : MR0 40 2 = some 43 := by decide +kernel
theorem mr_44_0 : MR0 44 0 = some 45 := by decide +kernel
theorem mr_44_1 : MR0 44 1 = some 46 := by decide +kernel
theorem mr_44_2 : MR0 44 2 = some 47 := by decide +kernel
theorem mr_44_3 : MR0 44 3 = some 48 := by decide +kernel
theorem mr_44_4 : MR0 44 4 = some 49 := by decide +kernel
theorem mr_50_0 : MR0 50 0 = some 51 := by decide +kernel
theorem mr_50_1 : MR0 50 1 = some 52 := by decide +kernel
theorem mr_50_2 : MR0 50 2 = some 53 := by decide +kernel
theorem mr_50_3 : MR0 50 3 = some 54 := by decide +kernel
theorem mr_50_4 : MR0 50 4 = some 55 := by decide +kernel
theorem mr_50_5 : MR0 50 5 = some 56 := by decide +kernel
theorem mr_50_6 : MR0 50 6 = some 57 := by decide +kernel
theorem mr_50_7 : MR0 50 7 = some 58 := by decide +kernel
theorem mr_50_8 : MR0 50 8 = some 59 := by decide +kernel
theorem mr_60_0 : MR0 60 0 = some 61 := by decide +kernel
theorem mr_60_1 : MR0 60 1 = some 69 := by decide +kernel
theorem mr_60_2 : MR0 60 2 = some 73 := by decide +kernel
theorem mr_60_3 : MR0 60 3 = some 79 := by decide +kernel
theorem mr_61_0 : MR0 61 0 = some 62 := by decide +kernel
theorem mr_61_1 : MR0 61 1 = some 63 := by decide +kernel
theorem mr_61_2 : MR0 61 2 = some 64 := by decide +kernel
theorem mr_61_3 : MR0 61 3 = some 65 := by decide +kernel
theorem mr_61_4 : MR0 61 4 = some 66 := by decide +kernel
theorem mr_61_5 : MR0 61 5 = some 67 := by decide +kernel
theorem mr_61_6 : MR0 61 6 = some 68 := by decide +kernel
theorem mr_69_0 : MR0 69 0 = some 70 := by decide +kernel
theorem mr_69_1 : MR0 69 1 = some 71 := by decide +kernel
theorem mr_69_2 : MR0 69 2 = some 72 := by decide +kernel
theorem mr_73_0 : MR0 73 0 = some 74 := by decide +kernel
theorem mr_73_1 : MR0 73 1 = some 75 := by decide +kernel
theorem mr_73_2 : MR0 73 2 = some 76 := by decide +kernel
theorem mr_73_3 : MR0 73 3 = some 77 := by decide +kernel
theorem mr_73_4 : MR0 73 4 = some 78 := by decide +kernel
theorem mr_79_0 : MR0 79 0 = some 80 := by decide +kernel
theorem mr_79_1 : MR0 79 1 = some 81 := by decide +kernel
theorem mr_79_2 : MR0 79 2 = some 82 := by decide +kernel
theorem mr_79_3 : MR0 79 3 = some 83 := by decide +kernel
theorem mr_79_4 : MR0 79 4 = some 84 := by decide +kernel
theorem mr_79_5 : MR0 79 5 = some 85 := by decide +kernel
theorem mr_79_6 : MR0 79 6 = some 86 := by decide +kernel
theorem mr_79_7 : MR0 79 7 = some 87 := by decide +kernel
theorem mr_79_8 : MR0 79 8 = some 88 := by decide +kernel
theorem mr_90_0 : MR0 90 0 = some 91 := by decide +kernel
theorem mr_90_1 : MR0 90 1 = some 92 := by decide +kernel
theorem mr_90_2 : MR0 90 2 = some 93 := by decide +kernel
theorem mr_94_0 : MR0 94 0 = some 95 := by decide +kernel
theorem mr_94_1 : MR0 94 1 = some 96 := by decide +kernel
theorem mr_94_2 : MR0 94 2 = some 90 := by decide +kernel
theorem mr_96_0 : MR0 96 0 = some 97 := by decide +kernel
theorem mr_96_1 : MR0 96 1 = some 98 := by decide +kernel
theorem mr_96_2 : MR0 96 2 = some 99 := by decide +kernel
theorem mr_100_0 : MR0 100 0 = some 2 := by decide +kernel
theorem mr_100_1 : MR0 100 1 = some 10 := by decide +kernel
theorem mr_100_2 : MR0 100 2 = some 101 := by decide +kernel
theorem mr_100_3 : MR0 100 3 = some 102 := by decide +kernel
theorem mr_103_0 : MR0 103 0 = some 104 := by decide +kernel
theorem mr_105_0 : MR0 105 0 = some 2 := by decide +kernel
theorem mr_105_1 : MR0 105 1 = some 100 := by decide +kernel
theorem mr_105_2 : MR0 105 2 = some 103 := by decide +kernel
theorem mr_105_3 : MR0 105 3 = some 106 := by decide +kernel
theorem mr_105_4 : MR0 105 4 = some 107 := by decide +kernel
theorem mr_105_5 : MR0 105 5 = some 108 := by decide +kernel
theorem mr_105_6 : MR0 105 6 = some 109 := by decide +kernel
theorem mr_105_7 : MR0 105 7 = some 110 := by decide +kernel
theorem mr_105_8 : MR0 105 8 = some 111 := by decide +kernel
theorem mr_105_9 : MR0 105 9 = some 112 := by decide +kernel
theorem mr_105_10 : MR0 105 10 = some 113 := by decide +kernel
theorem mr_105_11 : MR0 105 11 = some 114 := by decide +kernel
theorem mr_105_12 : MR0 105 12 = some 115 := by decide +kernel
theorem mr_105_13 : MR0 105 13 = some 116 := by decide +kernel
theorem mr_117_0 : MR0 117 0 = some 118 := by decide +kernel
theorem mr_117_1 : MR0 117 1 = some 119 := by decide +kernel
theorem mr_117_2 : MR0 117 2 = some 120 := by decide +kernel
theorem mr_117_3 : MR0 117 3 = some 121 := by decide +kernel
theorem mr_117_6 : MR0 117 6 = some 122 := by decide +kernel
theorem mr_117_7 : MR0 117 7 = some 123 := by decide +kernel
theorem mr_117_8 : MR0 117 8 = some 124 := by decide +kernel
theorem mr_125_0 : MR0 125 0 = some 126 := by decide +kernel
theorem mr_125_1 : MR0 125 1 = some 127 := by decide +kernel
theorem mr_125_2 : MR0 125 2 = some 128 := by decide +kernel
theorem mr_125_3 : MR0 125 3 = some 129 := by decide +kernel
theorem mr_125_6 : MR0 125 6 = some 130 := by decide +kernel
theorem mr_125_7 : MR0 125 7 = some 131 := by decide +kernel
theorem mr_125_8 : MR0 125 8 = some 132 := by decide +kernel
theorem mr_134_0 : MR0 134 0 = some 135 := by decide +kernel
theorem mr_134_1 : MR0 134 1 = some 136 := by decide +kernel
theorem mr_134_2 : MR0 134 2 = some 137 := by decide +kernel
theorem mr_134_4 : MR0 134 4 = some 138 := by decide +kernel
theorem mr_134_5 : MR0 134 5 = some 139 := by decide +kernel
theorem mr_134_6 : MR0 134 6 = some 140 := by decide +kernel
theorem mr_134_13 : MR0 134 13 = some 141 := by decide +kernel
theorem mr_134_20 : MR0 134 20 = some 142 := by decide +kernel
theorem mr_134_21 : MR0 134 21 = some 143 := by decide +kernel
theorem mr_134_22 : MR0 134 22 = some 144 := by decide +kernel
theorem mr_134_23 : MR0 134 23 = some 145 := by decide +kernel
theorem mr_134_24 : MR0 134 24 = some 146 := by decide +kernel
theorem mr_134_25 : MR0 134 25 = some 147 := by decide +kernel
theorem mr_134_26 : MR0 134 26 = some 148 := by decide +kernel
theorem mr_134_27 : MR0 134 27 = some 149 := by decide +kernel
theorem mr_134_28 : MR0 134 28 = some 150 := by decide +kernel
theorem mr_134_29 : MR0 134 29 = some 151 := by decide +kernel
theorem mr_134_30 : MR0 134 30 = some 152 := by decide +kernel
theorem mr_134_31 : MR0 134 31 = some 153 := by decide +kernel
theorem mr_134_32 : MR0 134 32 = some 154 := by decide +kernel
theorem mr_134_33 : MR0 134 33 = some 155 := by decide +kernel
theorem mr_134_34 : MR0 134 34 = some 156 := by decide +kernel
theorem mr_134_35 : MR0 134 35 = some 157 := by decide +kernel
theorem mr_134_38 : MR0 134 38 = some 158 := by decide +kernel
theorem mr_134_41 : MR0 134 41 = some 159 := by decide +kernel
theorem mr_134_42 : MR0 134 42 = some 160 := by decide +kernel
theorem mr_134_43 : MR0 134 43 = some 161 := by decide +kernel
theorem mr_134_44 : MR0 134 44 = some 162 := by decide +kernel
theorem mr_134_45 : MR0 134 45 = some 163 := by decide +kernel
theorem mr_134_46 : MR0 134 46 = some 164 := by decide +kernel
theorem mr_134_47 : MR0 134 47 = some 165 := by decide +kernel
theorem mr_134_48 : MR0 134 48 = some 166 := by decide +kernel
theorem mr_134_49 : MR0 134 49 = some 167 := by decide +kernel
theorem mr_134_53 : MR0 134 53 = some 168 := by decide +kernel
theorem mr_134_54 : MR0 134 54 = some 169 := by decide +kernel
theorem mr_134_55 : MR0 134 55 = some 170 := by decide +kernel
theorem mr_134_57 : MR0 134 57 = some 171 := by decide +kernel
