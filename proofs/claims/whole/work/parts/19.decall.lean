theorem kc_cut (l : List (Nat × Instr × Nat × Nat)) (f : Nat × Instr × Nat × Nat → Bool) (a n : Nat) (h1 : ((l.drop a).take n).all f = true) (h2 : (l.drop (a + n)).all f = true) : (l.drop a).all f = true := by
  rw [← List.take_append_drop n (l.drop a), List.all_append, h1, List.drop_drop, h2]
  rfl
theorem kc_177 : (mm_kd.getD 177 []).all (mm_ok1 (mm_bb 177)) = true := by
  show kd_La_law.all (mm_ok1 code) = true
  have h624 : (kd_La_law.drop 624).all (mm_ok1 code) = true := by decide +kernel
  have h572 := kc_cut kd_La_law (mm_ok1 code) 572 52 kc_law_572 h624
  have h520 := kc_cut kd_La_law (mm_ok1 code) 520 52 kc_law_520 h572
  have h468 := kc_cut kd_La_law (mm_ok1 code) 468 52 kc_law_468 h520
  have h416 := kc_cut kd_La_law (mm_ok1 code) 416 52 kc_law_416 h468
  have h364 := kc_cut kd_La_law (mm_ok1 code) 364 52 kc_law_364 h416
  have h312 := kc_cut kd_La_law (mm_ok1 code) 312 52 kc_law_312 h364
  have h260 := kc_cut kd_La_law (mm_ok1 code) 260 52 kc_law_260 h312
  have h208 := kc_cut kd_La_law (mm_ok1 code) 208 52 kc_law_208 h260
  have h156 := kc_cut kd_La_law (mm_ok1 code) 156 52 kc_law_156 h208
  have h104 := kc_cut kd_La_law (mm_ok1 code) 104 52 kc_law_104 h156
  have h52 := kc_cut kd_La_law (mm_ok1 code) 52 52 kc_law_52 h104
  have h0 := kc_cut kd_La_law (mm_ok1 code) 0 52 kc_law_0 h52
  exact h0
theorem kc_all : ∀ mid, mid < 178 → (mm_kd.getD mid []).all (mm_ok1 (mm_bb mid)) = true := by
  intro mid h
  by_cases h0 : mid < 20
  · have : mid = 0 ∨ mid = 1 ∨ mid = 2 ∨ mid = 3 ∨ mid = 4 ∨ mid = 5 ∨ mid = 6 ∨ mid = 7 ∨ mid = 8 ∨ mid = 9 ∨ mid = 10 ∨ mid = 11 ∨ mid = 12 ∨ mid = 13 ∨ mid = 14 ∨ mid = 15 ∨ mid = 16 ∨ mid = 17 ∨ mid = 18 ∨ mid = 19 := by omega
    rcases this with rfl | rfl | rfl | rfl | rfl | rfl | rfl | rfl | rfl | rfl | rfl | rfl | rfl | rfl | rfl | rfl | rfl | rfl | rfl | rfl
    · exact kc_0
    · exact kc_1
    · exact kc_2
    · exact kc_3
    · exact kc_4
    · exact kc_5
    · exact kc_6
    · exact kc_7
    · exact kc_8
    · exact kc_9
    · exact kc_10
    · exact kc_11
    · exact kc_12
    · exact kc_13
    · exact kc_14
    · exact kc_15
    · exact kc_16
    · exact kc_17
    · exact kc_18
    · exact kc_19
  by_cases h1 : mid < 40
  · have : mid = 20 ∨ mid = 21 ∨ mid = 22 ∨ mid = 23 ∨ mid = 24 ∨ mid = 25 ∨ mid = 26 ∨ mid = 27 ∨ mid = 28 ∨ mid = 29 ∨ mid = 30 ∨ mid = 31 ∨ mid = 32 ∨ mid = 33 ∨ mid = 34 ∨ mid = 35 ∨ mid = 36 ∨ mid = 37 ∨ mid = 38 ∨ mid = 39 := by omega
    rcases this with rfl | rfl | rfl | rfl | rfl | rfl | rfl | rfl | rfl | rfl | rfl | rfl | rfl | rfl | rfl | rfl | rfl | rfl | rfl | rfl
    · exact kc_20
    · exact kc_21
    · exact kc_22
    · exact kc_23
    · exact kc_24
    · exact kc_25
    · exact kc_26
    · exact kc_27
    · exact kc_28
    · exact kc_29
    · exact kc_30
    · exact kc_31
    · exact kc_32
    · exact kc_33
    · exact kc_34
    · exact kc_35
    · exact kc_36
    · exact kc_37
    · exact kc_38
    · exact kc_39
  by_cases h2 : mid < 60
  · have : mid = 40 ∨ mid = 41 ∨ mid = 42 ∨ mid = 43 ∨ mid = 44 ∨ mid = 45 ∨ mid = 46 ∨ mid = 47 ∨ mid = 48 ∨ mid = 49 ∨ mid = 50 ∨ mid = 51 ∨ mid = 52 ∨ mid = 53 ∨ mid = 54 ∨ mid = 55 ∨ mid = 56 ∨ mid = 57 ∨ mid = 58 ∨ mid = 59 := by omega
    rcases this with rfl | rfl | rfl | rfl | rfl | rfl | rfl | rfl | rfl | rfl | rfl | rfl | rfl | rfl | rfl | rfl | rfl | rfl | rfl | rfl
    · exact kc_40
    · exact kc_41
    · exact kc_42
    · exact kc_43
    · exact kc_44
    · exact kc_45
    · exact kc_46
    · exact kc_47
    · exact kc_48
    · exact kc_49
    · exact kc_50
    · exact kc_51
    · exact kc_52
    · exact kc_53
    · exact kc_54
    · exact kc_55
    · exact kc_56
    · exact kc_57
    · exact kc_58
    · exact kc_59
  by_cases h3 : mid < 80
  · have : mid = 60 ∨ mid = 61 ∨ mid = 62 ∨ mid = 63 ∨ mid = 64 ∨ mid = 65 ∨ mid = 66 ∨ mid = 67 ∨ mid = 68 ∨ mid = 69 ∨ mid = 70 ∨ mid = 71 ∨ mid = 72 ∨ mid = 73 ∨ mid = 74 ∨ mid = 75 ∨ mid = 76 ∨ mid = 77 ∨ mid = 78 ∨ mid = 79 := by omega
    rcases this with rfl | rfl | rfl | rfl | rfl | rfl | rfl | rfl | rfl | rfl | rfl | rfl | rfl | rfl | rfl | rfl | rfl | rfl | rfl | rfl
    · exact kc_60
    · exact kc_61
    · exact kc_62
    · exact kc_63
    · exact kc_64
    · exact kc_65
    · exact kc_66
    · exact kc_67
    · exact kc_68
    · exact kc_69
    · exact kc_70
    · exact kc_71
    · exact kc_72
    · exact kc_73
    · exact kc_74
    · exact kc_75
    · exact kc_76
    · exact kc_77
    · exact kc_78
    · exact kc_79
  by_cases h4 : mid < 100
  · have : mid = 80 ∨ mid = 81 ∨ mid = 82 ∨ mid = 83 ∨ mid = 84 ∨ mid = 85 ∨ mid = 86 ∨ mid = 87 ∨ mid = 88 ∨ mid = 89 ∨ mid = 90 ∨ mid = 91 ∨ mid = 92 ∨ mid = 93 ∨ mid = 94 ∨ mid = 95 ∨ mid = 96 ∨ mid = 97 ∨ mid = 98 ∨ mid = 99 := by omega
    rcases this with rfl | rfl | rfl | rfl | rfl | rfl | rfl | rfl | rfl | rfl | rfl | rfl | rfl | rfl | rfl | rfl | rfl | rfl | rfl | rfl
    · exact kc_80
    · exact kc_81
    · exact kc_82
    · exact kc_83
    · exact kc_84
    · exact kc_85
    · exact kc_86
    · exact kc_87
    · exact kc_88
    · exact kc_89
    · exact kc_90
    · exact kc_91
    · exact kc_92
    · exact kc_93
    · exact kc_94
    · exact kc_95
    · exact kc_96
    · exact kc_97
    · exact kc_98
    · exact kc_99
  by_cases h5 : mid < 120
  · have : mid = 100 ∨ mid = 101 ∨ mid = 102 ∨ mid = 103 ∨ mid = 104 ∨ mid = 105 ∨ mid = 106 ∨ mid = 107 ∨ mid = 108 ∨ mid = 109 ∨ mid = 110 ∨ mid = 111 ∨ mid = 112 ∨ mid = 113 ∨ mid = 114 ∨ mid = 115 ∨ mid = 116 ∨ mid = 117 ∨ mid = 118 ∨ mid = 119 := by omega
    rcases this with rfl | rfl | rfl | rfl | rfl | rfl | rfl | rfl | rfl | rfl | rfl | rfl | rfl | rfl | rfl | rfl | rfl | rfl | rfl | rfl
    · exact kc_100
    · exact kc_101
    · exact kc_102
    · exact kc_103
    · exact kc_104
    · exact kc_105
    · exact kc_106
    · exact kc_107
    · exact kc_108
    · exact kc_109
    · exact kc_110
    · exact kc_111
    · exact kc_112
    · exact kc_113
    · exact kc_114
    · exact kc_115
    · exact kc_116
    · exact kc_117
    · exact kc_118
    · exact kc_119
  by_cases h6 : mid < 140
  · have : mid = 120 ∨ mid = 121 ∨ mid = 122 ∨ mid = 123 ∨ mid = 124 ∨ mid = 125 ∨ mid = 126 ∨ mid = 127 ∨ mid = 128 ∨ mid = 129 ∨ mid = 130 ∨ mid = 131 ∨ mid = 132 ∨ mid = 133 ∨ mid = 134 ∨ mid = 135 ∨ mid = 136 ∨ mid = 137 ∨ mid = 138 ∨ mid = 139 := by omega
    rcases this with rfl | rfl | rfl | rfl | rfl | rfl | rfl | rfl | rfl | rfl | rfl | rfl | rfl | rfl | rfl | rfl | rfl | rfl | rfl | rfl
    · exact kc_120
    · exact kc_121
    · exact kc_122
    · exact kc_123
    · exact kc_124
    · exact kc_125
    · exact kc_126
    · exact kc_127
    · exact kc_128
    · exact kc_129
    · exact kc_130
    · exact kc_131
    · exact kc_132
    · exact kc_133
    · exact kc_134
    · exact kc_135
    · exact kc_136
    · exact kc_137
    · exact kc_138
    · exact kc_139
  by_cases h7 : mid < 160
  · have : mid = 140 ∨ mid = 141 ∨ mid = 142 ∨ mid = 143 ∨ mid = 144 ∨ mid = 145 ∨ mid = 146 ∨ mid = 147 ∨ mid = 148 ∨ mid = 149 ∨ mid = 150 ∨ mid = 151 ∨ mid = 152 ∨ mid = 153 ∨ mid = 154 ∨ mid = 155 ∨ mid = 156 ∨ mid = 157 ∨ mid = 158 ∨ mid = 159 := by omega
    rcases this with rfl | rfl | rfl | rfl | rfl | rfl | rfl | rfl | rfl | rfl | rfl | rfl | rfl | rfl | rfl | rfl | rfl | rfl | rfl | rfl
    · exact kc_140
    · exact kc_141
    · exact kc_142
    · exact kc_143
    · exact kc_144
    · exact kc_145
    · exact kc_146
    · exact kc_147
    · exact kc_148
    · exact kc_149
    · exact kc_150
    · exact kc_151
    · exact kc_152
    · exact kc_153
    · exact kc_154
    · exact kc_155
    · exact kc_156
    · exact kc_157
    · exact kc_158
    · exact kc_159
  by_cases h8 : mid < 178
  · have : mid = 160 ∨ mid = 161 ∨ mid = 162 ∨ mid = 163 ∨ mid = 164 ∨ mid = 165 ∨ mid = 166 ∨ mid = 167 ∨ mid = 168 ∨ mid = 169 ∨ mid = 170 ∨ mid = 171 ∨ mid = 172 ∨ mid = 173 ∨ mid = 174 ∨ mid = 175 ∨ mid = 176 ∨ mid = 177 := by omega
    rcases this with rfl | rfl | rfl | rfl | rfl | rfl | rfl | rfl | rfl | rfl | rfl | rfl | rfl | rfl | rfl | rfl | rfl | rfl
    · exact kc_160
    · exact kc_161
    · exact kc_162
    · exact kc_163
    · exact kc_164
    · exact kc_165
    · exact kc_166
    · exact kc_167
    · exact kc_168
    · exact kc_169
    · exact kc_170
    · exact kc_171
    · exact kc_172
    · exact kc_173
    · exact kc_174
    · exact kc_175
    · exact kc_176
    · exact kc_177
  omega
