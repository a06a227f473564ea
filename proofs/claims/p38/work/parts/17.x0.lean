/-! THE INSTRUCTIONS' CHECKS -/
set_option maxRecDepth 100000 in
theorem aK_0 : aOkM 0 = true := by decide +kernel
set_option maxRecDepth 100000 in
theorem aK_1 : aOkM 1 = true := by decide +kernel
set_option maxRecDepth 100000 in
theorem aK_2 : aOkM 2 = true := by decide +kernel
set_option maxRecDepth 100000 in
theorem aK_3 : aOkM 3 = true := by decide +kernel
set_option maxRecDepth 100000 in
theorem aK_4 : aOkM 4 = true := by decide +kernel
set_option maxRecDepth 100000 in
theorem aK_5 : aOkM 5 = true := by decide +kernel
set_option maxRecDepth 100000 in
theorem aK_6 : aOkM 6 = true := by decide +kernel
set_option maxRecDepth 100000 in
theorem aK_7 : aOkM 7 = true := by decide +kernel
set_option maxRecDepth 100000 in
theorem aK_8 : aOkM 8 = true := by decide +kernel
set_option maxRecDepth 100000 in
theorem aK_9 : aOkM 9 = true := by decide +kernel
set_option maxRecDepth 100000 in
theorem aK_10 : aOkM 10 = true := by decide +kernel
set_option maxRecDepth 100000 in
theorem aK_11 : aOkM 11 = true := by decide +kernel
set_option maxRecDepth 100000 in
theorem aK_12 : aOkM 12 = true := by decide +kernel
set_option maxRecDepth 100000 in
theorem aK_13 : aOkM 13 = true := by decide +kernel
set_option maxRecDepth 100000 in
theorem aK_14 : aOkM 14 = true := by decide +kernel
set_option maxRecDepth 100000 in
theorem aK_15 : aOkM 15 = true := by decide +kernel
set_option maxRecDepth 100000 in
theorem aK_16 : aOkM 16 = true := by decide +kernel
set_option maxRecDepth 100000 in
theorem aK_17 : aOkM 17 = true := by decide +kernel
set_option maxRecDepth 100000 in
theorem aK_18 : aOkM 18 = true := by decide +kernel
set_option maxRecDepth 100000 in
theorem aK_19 : aOkM 19 = true := by decide +kernel
set_option maxRecDepth 100000 in
theorem aK_20 : aOkM 20 = true := by decide +kernel
set_option maxRecDepth 100000 in
theorem aK_21 : aOkM 21 = true := by decide +kernel
set_option maxRecDepth 100000 in
theorem aK_22 : aOkM 22 = true := by decide +kernel
set_option maxRecDepth 100000 in
theorem aK_23 : aOkM 23 = true := by decide +kernel
set_option maxRecDepth 100000 in
theorem aK_24 : aOkM 24 = true := by decide +kernel
set_option maxRecDepth 100000 in
theorem aK_25 : aOkM 25 = true := by decide +kernel
set_option maxRecDepth 100000 in
theorem aK_26 : aOkM 26 = true := by decide +kernel
set_option maxRecDepth 100000 in
theorem aK_27 : aOkM 27 = true := by decide +kernel
set_option maxRecDepth 100000 in
theorem aK_28 : aOkM 28 = true := by decide +kernel
set_option maxRecDepth 100000 in
theorem aK_29 : aOkM 29 = true := by decide +kernel
set_option maxRecDepth 100000 in
theorem aK_30 : aOkM 30 = true := by decide +kernel
set_option maxRecDepth 100000 in
theorem aK_31 : aOkM 31 = true := by decide +kernel
set_option maxRecDepth 100000 in
theorem aK_32 : aOkM 32 = true := by decide +kernel
set_option maxRecDepth 100000 in
theorem aK_33 : aOkM 33 = true := by decide +kernel
set_option maxRecDepth 100000 in
theorem aK_34 : aOkM 34 = true := by decide +kernel
set_option maxRecDepth 100000 in
theorem aK_35 : aOkM 35 = true := by decide +kernel
set_option maxRecDepth 100000 in
theorem aK_36 : aOkM 36 = true := by decide +kernel
set_option maxRecDepth 100000 in
theorem aK_37 : aOkM 37 = true := by decide +kernel
set_option maxRecDepth 100000 in
theorem aK_38 : aOkM 38 = true := by decide +kernel
set_option maxRecDepth 100000 in
theorem aK_39 : aOkM 39 = true := by decide +kernel
set_option maxRecDepth 100000 in
theorem aK_40 : aOkM 40 = true := by decide +kernel
set_option maxRecDepth 100000 in
theorem aK_41 : aOkM 41 = true := by decide +kernel
set_option maxRecDepth 100000 in
theorem aK_42 : aOkM 42 = true := by decide +kernel
set_option maxRecDepth 100000 in
theorem aK_43 : aOkM 43 = true := by decide +kernel
set_option maxRecDepth 100000 in
theorem aK_44 : aOkM 44 = true := by decide +kernel
set_option maxRecDepth 100000 in
theorem aK_45 : aOkM 45 = true := by decide +kernel
set_option maxRecDepth 100000 in
theorem aK_46 : aOkM 46 = true := by decide +kernel
set_option maxRecDepth 100000 in
theorem aK_47 : aOkM 47 = true := by decide +kernel
set_option maxRecDepth 100000 in
theorem aK_48 : aOkM 48 = true := by decide +kernel
set_option maxRecDepth 100000 in
theorem aK_49 : aOkM 49 = true := by decide +kernel
set_option maxRecDepth 100000 in
theorem aK_50 : aOkM 50 = true := by decide +kernel
set_option maxRecDepth 100000 in
theorem aK_51 : aOkM 51 = true := by decide +kernel
set_option maxRecDepth 100000 in
theorem aK_52 : aOkM 52 = true := by decide +kernel
set_option maxRecDepth 100000 in
theorem aK_53 : aOkM 53 = true := by decide +kernel
set_option maxRecDepth 100000 in
theorem aK_54 : aOkM 54 = true := by decide +kernel
set_option maxRecDepth 100000 in
theorem aK_55 : aOkM 55 = true := by decide +kernel
set_option maxRecDepth 100000 in
theorem aK_56 : aOkM 56 = true := by decide +kernel
set_option maxRecDepth 100000 in
theorem aK_57 : aOkM 57 = true := by decide +kernel
set_option maxRecDepth 100000 in
theorem aK_58 : aOkM 58 = true := by decide +kernel
set_option maxRecDepth 100000 in
theorem aK_59 : aOkM 59 = true := by decide +kernel
set_option maxRecDepth 100000 in
theorem aK_60 : aOkM 60 = true := by decide +kernel
set_option maxRecDepth 100000 in
theorem aK_61 : aOkM 61 = true := by decide +kernel
set_option maxRecDepth 100000 in
theorem aK_62 : aOkM 62 = true := by decide +kernel
set_option maxRecDepth 100000 in
theorem aK_63 : aOkM 63 = true := by decide +kernel
set_option maxRecDepth 100000 in
theorem aK_64 : aOkM 64 = true := by decide +kernel
set_option maxRecDepth 100000 in
theorem aK_65 : aOkM 65 = true := by decide +kernel
set_option maxRecDepth 100000 in
theorem aK_66 : aOkM 66 = true := by decide +kernel
set_option maxRecDepth 100000 in
theorem aK_67 : aOkM 67 = true := by decide +kernel
set_option maxRecDepth 100000 in
theorem aK_68 : aOkM 68 = true := by decide +kernel
set_option maxRecDepth 100000 in
theorem aK_69 : aOkM 69 = true := by decide +kernel
set_option maxRecDepth 100000 in
theorem aK_70 : aOkM 70 = true := by decide +kernel
set_option maxRecDepth 100000 in
theorem aK_71 : aOkM 71 = true := by decide +kernel
set_option maxRecDepth 100000 in
theorem aK_72 : aOkM 72 = true := by decide +kernel
set_option maxRecDepth 100000 in
theorem aK_73 : aOkM 73 = true := by decide +kernel
set_option maxRecDepth 100000 in
theorem aK_74 : aOkM 74 = true := by decide +kernel
set_option maxRecDepth 100000 in
theorem aK_75 : aOkM 75 = true := by decide +kernel
set_option maxRecDepth 100000 in
theorem aK_76 : aOkM 76 = true := by decide +kernel
set_option maxRecDepth 100000 in
theorem aK_77 : aOkM 77 = true := by decide +kernel
set_option maxRecDepth 100000 in
theorem aK_78 : aOkM 78 = true := by decide +kernel
set_option maxRecDepth 100000 in
theorem aK_79 : aOkM 79 = true := by decide +kernel
set_option maxRecDepth 100000 in
theorem aK_80 : aOkM 80 = true := by decide +kernel
set_option maxRecDepth 100000 in
theorem aK_81 : aOkM 81 = true := by decide +kernel
set_option maxRecDepth 100000 in
theorem aK_82 : aOkM 82 = true := by decide +kernel
set_option maxRecDepth 100000 in
theorem aK_83 : aOkM 83 = true := by decide +kernel
set_option maxRecDepth 100000 in
theorem aK_84 : aOkM 84 = true := by decide +kernel
set_option maxRecDepth 100000 in
theorem aK_85 : aOkM 85 = true := by decide +kernel
set_option maxRecDepth 100000 in
theorem aK_86 : aOkM 86 = true := by decide +kernel
set_option maxRecDepth 100000 in
theorem aK_87 : aOkM 87 = true := by decide +kernel
set_option maxRecDepth 100000 in
theorem aK_88 : aOkM 88 = true := by decide +kernel
set_option maxRecDepth 100000 in
theorem aK_89 : aOkM 89 = true := by decide +kernel
set_option maxRecDepth 100000 in
theorem aK_90 : aOkM 90 = true := by decide +kernel
set_option maxRecDepth 100000 in
theorem aK_91 : aOkM 91 = true := by decide +kernel
set_option maxRecDepth 100000 in
theorem aK_92 : aOkM 92 = true := by decide +kernel
set_option maxRecDepth 100000 in
theorem aK_93 : aOkM 93 = true := by decide +kernel
set_option maxRecDepth 100000 in
theorem aK_94 : aOkM 94 = true := by decide +kernel
set_option maxRecDepth 100000 in
theorem aK_95 : aOkM 95 = true := by decide +kernel
set_option maxRecDepth 100000 in
theorem aK_96 : aOkM 96 = true := by decide +kernel
set_option maxRecDepth 100000 in
theorem aK_97 : aOkM 97 = true := by decide +kernel
set_option maxRecDepth 100000 in
theorem aK_98 : aOkM 98 = true := by decide +kernel
set_option maxRecDepth 100000 in
theorem aK_99 : aOkM 99 = true := by decide +kernel
set_option maxRecDepth 100000 in
theorem aK_100 : aOkM 100 = true := by decide +kernel
set_option maxRecDepth 100000 in
theorem aK_101 : aOkM 101 = true := by decide +kernel
set_option maxRecDepth 100000 in
theorem aK_102 : aOkM 102 = true := by decide +kernel
set_option maxRecDepth 100000 in
theorem aK_103 : aOkM 103 = true := by decide +kernel
set_option maxRecDepth 100000 in
theorem aK_104 : aOkM 104 = true := by decide +kernel
set_option maxRecDepth 100000 in
theorem aK_105 : aOkM 105 = true := by decide +kernel
set_option maxRecDepth 100000 in
theorem aK_106 : aOkM 106 = true := by decide +kernel
set_option maxRecDepth 100000 in
theorem aK_107 : aOkM 107 = true := by decide +kernel
set_option maxRecDepth 100000 in
theorem aK_108 : aOkM 108 = true := by decide +kernel
set_option maxRecDepth 100000 in
theorem aK_109 : aOkM 109 = true := by decide +kernel
set_option maxRecDepth 100000 in
theorem aK_110 : aOkM 110 = true := by decide +kernel
set_option maxRecDepth 100000 in
theorem aK_111 : aOkM 111 = true := by decide +kernel
set_option maxRecDepth 100000 in
theorem aK_112 : aOkM 112 = true := by decide +kernel
set_option maxRecDepth 100000 in
theorem aK_113 : aOkM 113 = true := by decide +kernel
set_option maxRecDepth 100000 in
theorem aK_114 : aOkM 114 = true := by decide +kernel
set_option maxRecDepth 100000 in
theorem aK_115 : aOkM 115 = true := by decide +kernel
set_option maxRecDepth 100000 in
theorem aK_116 : aOkM 116 = true := by decide +kernel
set_option maxRecDepth 100000 in
theorem aK_117 : aOkM 117 = true := by decide +kernel
set_option maxRecDepth 100000 in
theorem aK_118 : aOkM 118 = true := by decide +kernel
set_option maxRecDepth 100000 in
theorem aK_119 : aOkM 119 = true := by decide +kernel
set_option maxRecDepth 100000 in
theorem aK_120 : aOkM 120 = true := by decide +kernel
set_option maxRecDepth 100000 in
theorem aK_121 : aOkM 121 = true := by decide +kernel
set_option maxRecDepth 100000 in
theorem aK_122 : aOkM 122 = true := by decide +kernel
set_option maxRecDepth 100000 in
theorem aK_123 : aOkM 123 = true := by decide +kernel
set_option maxRecDepth 100000 in
theorem aK_124 : aOkM 124 = true := by decide +kernel
set_option maxRecDepth 100000 in
theorem aK_125 : aOkM 125 = true := by decide +kernel
set_option maxRecDepth 100000 in
theorem aK_126 : aOkM 126 = true := by decide +kernel
set_option maxRecDepth 100000 in
theorem aK_127 : aOkM 127 = true := by decide +kernel
set_option maxRecDepth 100000 in
theorem aK_128 : aOkM 128 = true := by decide +kernel
set_option maxRecDepth 100000 in
theorem aK_129 : aOkM 129 = true := by decide +kernel
set_option maxRecDepth 100000 in
theorem aK_130 : aOkM 130 = true := by decide +kernel
set_option maxRecDepth 100000 in
theorem aK_131 : aOkM 131 = true := by decide +kernel
set_option maxRecDepth 100000 in
theorem aK_132 : aOkM 132 = true := by decide +kernel
set_option maxRecDepth 100000 in
theorem aK_133 : aOkM 133 = true := by decide +kernel
set_option maxRecDepth 100000 in
theorem aK_134 : aOkM 134 = true := by decide +kernel
set_option maxRecDepth 100000 in
theorem aK_135 : aOkM 135 = true := by decide +kernel
set_option maxRecDepth 100000 in
theorem aK_136 : aOkM 136 = true := by decide +kernel
set_option maxRecDepth 100000 in
theorem aK_137 : aOkM 137 = true := by decide +kernel
set_option maxRecDepth 100000 in
theorem aK_138 : aOkM 138 = true := by decide +kernel
set_option maxRecDepth 100000 in
theorem aK_139 : aOkM 139 = true := by decide +kernel
set_option maxRecDepth 100000 in
theorem aK_140 : aOkM 140 = true := by decide +kernel
set_option maxRecDepth 100000 in
theorem aK_141 : aOkM 141 = true := by decide +kernel
set_option maxRecDepth 100000 in
theorem aK_142 : aOkM 142 = true := by decide +kernel
set_option maxRecDepth 100000 in
theorem aK_143 : aOkM 143 = true := by decide +kernel
set_option maxRecDepth 100000 in
theorem aK_144 : aOkM 144 = true := by decide +kernel
set_option maxRecDepth 100000 in
theorem aK_145 : aOkM 145 = true := by decide +kernel
set_option maxRecDepth 100000 in
theorem aK_146 : aOkM 146 = true := by decide +kernel
set_option maxRecDepth 100000 in
theorem aK_147 : aOkM 147 = true := by decide +kernel
set_option maxRecDepth 100000 in
theorem aK_148 : aOkM 148 = true := by decide +kernel
set_option maxRecDepth 100000 in
theorem aK_149 : aOkM 149 = true := by decide +kernel
set_option maxRecDepth 100000 in
theorem aK_150 : aOkM 150 = true := by decide +kernel
set_option maxRecDepth 100000 in
theorem aK_151 : aOkM 151 = true := by decide +kernel
set_option maxRecDepth 100000 in
theorem aK_152 : aOkM 152 = true := by decide +kernel
set_option maxRecDepth 100000 in
theorem aK_153 : aOkM 153 = true := by decide +kernel
set_option maxRecDepth 100000 in
theorem aK_154 : aOkM 154 = true := by decide +kernel
set_option maxRecDepth 100000 in
theorem aK_155 : aOkM 155 = true := by decide +kernel
set_option maxRecDepth 100000 in
theorem aK_156 : aOkM 156 = true := by decide +kernel
set_option maxRecDepth 100000 in
theorem aK_157 : aOkM 157 = true := by decide +kernel
set_option maxRecDepth 100000 in
theorem aK_158 : aOkM 158 = true := by decide +kernel
set_option maxRecDepth 100000 in
theorem aK_159 : aOkM 159 = true := by decide +kernel
set_option maxRecDepth 100000 in
theorem aK_160 : aOkM 160 = true := by decide +kernel
set_option maxRecDepth 100000 in
theorem aK_161 : aOkM 161 = true := by decide +kernel
set_option maxRecDepth 100000 in
theorem aK_162 : aOkM 162 = true := by decide +kernel
set_option maxRecDepth 100000 in
theorem aK_163 : aOkM 163 = true := by decide +kernel
set_option maxRecDepth 100000 in
theorem aK_164 : aOkM 164 = true := by decide +kernel
theorem aOk_all : ∀ a, a < 165 → aOkM a = true := by
  intro a ha
  match a, ha with
  | 0, _ => exact aK_0
  | 1, _ => exact aK_1
  | 2, _ => exact aK_2
  | 3, _ => exact aK_3
  | 4, _ => exact aK_4
  | 5, _ => exact aK_5
  | 6, _ => exact aK_6
  | 7, _ => exact aK_7
  | 8, _ => exact aK_8
  | 9, _ => exact aK_9
  | 10, _ => exact aK_10
  | 11, _ => exact aK_11
  | 12, _ => exact aK_12
  | 13, _ => exact aK_13
  | 14, _ => exact aK_14
  | 15, _ => exact aK_15
  | 16, _ => exact aK_16
  | 17, _ => exact aK_17
  | 18, _ => exact aK_18
  | 19, _ => exact aK_19
  | 20, _ => exact aK_20
  | 21, _ => exact aK_21
  | 22, _ => exact aK_22
  | 23, _ => exact aK_23
  | 24, _ => exact aK_24
  | 25, _ => exact aK_25
  | 26, _ => exact aK_26
  | 27, _ => exact aK_27
  | 28, _ => exact aK_28
  | 29, _ => exact aK_29
  | 30, _ => exact aK_30
  | 31, _ => exact aK_31
  | 32, _ => exact aK_32
  | 33, _ => exact aK_33
  | 34, _ => exact aK_34
  | 35, _ => exact aK_35
  | 36, _ => exact aK_36
  | 37, _ => exact aK_37
  | 38, _ => exact aK_38
  | 39, _ => exact aK_39
  | 40, _ => exact aK_40
  | 41, _ => exact aK_41
  | 42, _ => exact aK_42
  | 43, _ => exact aK_43
  | 44, _ => exact aK_44
  | 45, _ => exact aK_45
  | 46, _ => exact aK_46
  | 47, _ => exact aK_47
  | 48, _ => exact aK_48
  | 49, _ => exact aK_49
  | 50, _ => exact aK_50
  | 51, _ => exact aK_51
  | 52, _ => exact aK_52
  | 53, _ => exact aK_53
  | 54, _ => exact aK_54
  | 55, _ => exact aK_55
  | 56, _ => exact aK_56
  | 57, _ => exact aK_57
  | 58, _ => exact aK_58
  | 59, _ => exact aK_59
  | 60, _ => exact aK_60
  | 61, _ => exact aK_61
  | 62, _ => exact aK_62
  | 63, _ => exact aK_63
  | 64, _ => exact aK_64
  | 65, _ => exact aK_65
  | 66, _ => exact aK_66
  | 67, _ => exact aK_67
  | 68, _ => exact aK_68
  | 69, _ => exact aK_69
  | 70, _ => exact aK_70
  | 71, _ => exact aK_71
  | 72, _ => exact aK_72
  | 73, _ => exact aK_73
  | 74, _ => exact aK_74
  | 75, _ => exact aK_75
  | 76, _ => exact aK_76
  | 77, _ => exact aK_77
  | 78, _ => exact aK_78
  | 79, _ => exact aK_79
  | 80, _ => exact aK_80
  | 81, _ => exact aK_81
  | 82, _ => exact aK_82
  | 83, _ => exact aK_83
  | 84, _ => exact aK_84
  | 85, _ => exact aK_85
  | 86, _ => exact aK_86
  | 87, _ => exact aK_87
  | 88, _ => exact aK_88
  | 89, _ => exact aK_89
  | 90, _ => exact aK_90
  | 91, _ => exact aK_91
  | 92, _ => exact aK_92
  | 93, _ => exact aK_93
  | 94, _ => exact aK_94
  | 95, _ => exact aK_95
  | 96, _ => exact aK_96
  | 97, _ => exact aK_97
  | 98, _ => exact aK_98
  | 99, _ => exact aK_99
  | 100, _ => exact aK_100
  | 101, _ => exact aK_101
  | 102, _ => exact aK_102
  | 103, _ => exact aK_103
  | 104, _ => exact aK_104
  | 105, _ => exact aK_105
  | 106, _ => exact aK_106
  | 107, _ => exact aK_107
  | 108, _ => exact aK_108
  | 109, _ => exact aK_109
  | 110, _ => exact aK_110
  | 111, _ => exact aK_111
  | 112, _ => exact aK_112
  | 113, _ => exact aK_113
  | 114, _ => exact aK_114
  | 115, _ => exact aK_115
  | 116, _ => exact aK_116
  | 117, _ => exact aK_117
  | 118, _ => exact aK_118
  | 119, _ => exact aK_119
  | 120, _ => exact aK_120
  | 121, _ => exact aK_121
  | 122, _ => exact aK_122
  | 123, _ => exact aK_123
  | 124, _ => exact aK_124
  | 125, _ => exact aK_125
  | 126, _ => exact aK_126
  | 127, _ => exact aK_127
  | 128, _ => exact aK_128
  | 129, _ => exact aK_129
  | 130, _ => exact aK_130
  | 131, _ => exact aK_131
  | 132, _ => exact aK_132
  | 133, _ => exact aK_133
  | 134, _ => exact aK_134
  | 135, _ => exact aK_135
  | 136, _ => exact aK_136
  | 137, _ => exact aK_137
  | 138, _ => exact aK_138
  | 139, _ => exact aK_139
  | 140, _ => exact aK_140
  | 141, _ => exact aK_141
  | 142, _ => exact aK_142
  | 143, _ => exact aK_143
  | 144, _ => exact aK_144
  | 145, _ => exact aK_145
  | 146, _ => exact aK_146
  | 147, _ => exact aK_147
  | 148, _ => exact aK_148
  | 149, _ => exact aK_149
  | 150, _ => exact aK_150
  | 151, _ => exact aK_151
  | 152, _ => exact aK_152
  | 153, _ => exact aK_153
  | 154, _ => exact aK_154
  | 155, _ => exact aK_155
  | 156, _ => exact aK_156
  | 157, _ => exact aK_157
  | 158, _ => exact aK_158
  | 159, _ => exact aK_159
  | 160, _ => exact aK_160
  | 161, _ => exact aK_161
  | 162, _ => exact aK_162
  | 163, _ => exact aK_163
  | 164, _ => exact aK_164
  | n + 165, h => omega
set_option maxRecDepth 100000 in
theorem aK_lawA : (aB_L_law.zipIdx.all fun q => aOkI 9 false code q.2 q.1.1 q.1.2.1 q.1.2.2.1 q.1.2.2.2) = true := by decide +kernel
theorem aK_law (pc : Nat) (x : aI) (hx : aB_L_law[pc]? = some x) : aOkI 9 false code pc x.1 x.2.1 x.2.2.1 x.2.2.2 = true :=
  List.all_eq_true.mp aK_lawA (x, pc) (List.mem_zipIdx_iff_getElem?.mpr hx)
