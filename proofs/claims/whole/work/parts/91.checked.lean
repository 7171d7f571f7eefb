theorem cq_0 : ∀ j, j < 16 → 16 * 0 + j < 300 → tb_chk (16 * 0 + j) = true := by
  intro j hj hn
  match j, hj, hn with
  | 0, _, _ => exact ck_0
  | 1, _, _ => exact ck_1
  | 2, _, _ => exact ck_2
  | 3, _, _ => exact ck_3
  | 4, _, _ => exact ck_4
  | 5, _, _ => exact ck_5
  | 6, _, _ => exact ck_6
  | 7, _, _ => exact ck_7
  | 8, _, _ => exact ck_8
  | 9, _, _ => exact ck_9
  | 10, _, _ => exact ck_10
  | 11, _, _ => exact ck_11
  | 12, _, _ => exact ck_12
  | 13, _, _ => exact ck_13
  | 14, _, _ => exact ck_14
  | 15, _, _ => exact ck_15
  | n + 16, h, _ => omega
theorem cr_0 : ∀ j, j < 16 → 16 * 0 + j < 299 → ∃ z, tb_cdw (16 * 0 + j) z = true := by
  intro j hj hn
  match j, hj, hn with
  | 0, _, _ => exact ⟨_, cw_0⟩
  | 1, _, _ => exact ⟨_, cw_1⟩
  | 2, _, _ => exact ⟨_, cw_2⟩
  | 3, _, _ => exact ⟨_, cw_3⟩
  | 4, _, _ => exact ⟨_, cw_4⟩
  | 5, _, _ => exact ⟨_, cw_5⟩
  | 6, _, _ => exact ⟨_, cw_6⟩
  | 7, _, _ => exact ⟨_, cw_7⟩
  | 8, _, _ => exact ⟨_, cw_8⟩
  | 9, _, _ => exact ⟨_, cw_9⟩
  | 10, _, _ => exact ⟨_, cw_10⟩
  | 11, _, _ => exact ⟨_, cw_11⟩
  | 12, _, _ => exact ⟨_, cw_12⟩
  | 13, _, _ => exact ⟨_, cw_13⟩
  | 14, _, _ => exact ⟨_, cw_14⟩
  | 15, _, _ => exact ⟨_, cw_15⟩
  | n + 16, h, _ => omega
theorem cq_1 : ∀ j, j < 16 → 16 * 1 + j < 300 → tb_chk (16 * 1 + j) = true := by
  intro j hj hn
  match j, hj, hn with
  | 0, _, _ => exact ck_16
  | 1, _, _ => exact ck_17
  | 2, _, _ => exact ck_18
  | 3, _, _ => exact ck_19
  | 4, _, _ => exact ck_20
  | 5, _, _ => exact ck_21
  | 6, _, _ => exact ck_22
  | 7, _, _ => exact ck_23
  | 8, _, _ => exact ck_24
  | 9, _, _ => exact ck_25
  | 10, _, _ => exact ck_26
  | 11, _, _ => exact ck_27
  | 12, _, _ => exact ck_28
  | 13, _, _ => exact ck_29
  | 14, _, _ => exact ck_30
  | 15, _, _ => exact ck_31
  | n + 16, h, _ => omega
theorem cr_1 : ∀ j, j < 16 → 16 * 1 + j < 299 → ∃ z, tb_cdw (16 * 1 + j) z = true := by
  intro j hj hn
  match j, hj, hn with
  | 0, _, _ => exact ⟨_, cw_16⟩
  | 1, _, _ => exact ⟨_, cw_17⟩
  | 2, _, _ => exact ⟨_, cw_18⟩
  | 3, _, _ => exact ⟨_, cw_19⟩
  | 4, _, _ => exact ⟨_, cw_20⟩
  | 5, _, _ => exact ⟨_, cw_21⟩
  | 6, _, _ => exact ⟨_, cw_22⟩
  | 7, _, _ => exact ⟨_, cw_23⟩
  | 8, _, _ => exact ⟨_, cw_24⟩
  | 9, _, _ => exact ⟨_, cw_25⟩
  | 10, _, _ => exact ⟨_, cw_26⟩
  | 11, _, _ => exact ⟨_, cw_27⟩
  | 12, _, _ => exact ⟨_, cw_28⟩
  | 13, _, _ => exact ⟨_, cw_29⟩
  | 14, _, _ => exact ⟨_, cw_30⟩
  | 15, _, _ => exact ⟨_, cw_31⟩
  | n + 16, h, _ => omega
theorem cq_2 : ∀ j, j < 16 → 16 * 2 + j < 300 → tb_chk (16 * 2 + j) = true := by
  intro j hj hn
  match j, hj, hn with
  | 0, _, _ => exact ck_32
  | 1, _, _ => exact ck_33
  | 2, _, _ => exact ck_34
  | 3, _, _ => exact ck_35
  | 4, _, _ => exact ck_36
  | 5, _, _ => exact ck_37
  | 6, _, _ => exact ck_38
  | 7, _, _ => exact ck_39
  | 8, _, _ => exact ck_40
  | 9, _, _ => exact ck_41
  | 10, _, _ => exact ck_42
  | 11, _, _ => exact ck_43
  | 12, _, _ => exact ck_44
  | 13, _, _ => exact ck_45
  | 14, _, _ => exact ck_46
  | 15, _, _ => exact ck_47
  | n + 16, h, _ => omega
theorem cr_2 : ∀ j, j < 16 → 16 * 2 + j < 299 → ∃ z, tb_cdw (16 * 2 + j) z = true := by
  intro j hj hn
  match j, hj, hn with
  | 0, _, _ => exact ⟨_, cw_32⟩
  | 1, _, _ => exact ⟨_, cw_33⟩
  | 2, _, _ => exact ⟨_, cw_34⟩
  | 3, _, _ => exact ⟨_, cw_35⟩
  | 4, _, _ => exact ⟨_, cw_36⟩
  | 5, _, _ => exact ⟨_, cw_37⟩
  | 6, _, _ => exact ⟨_, cw_38⟩
  | 7, _, _ => exact ⟨_, cw_39⟩
  | 8, _, _ => exact ⟨_, cw_40⟩
  | 9, _, _ => exact ⟨_, cw_41⟩
  | 10, _, _ => exact ⟨_, cw_42⟩
  | 11, _, _ => exact ⟨_, cw_43⟩
  | 12, _, _ => exact ⟨_, cw_44⟩
  | 13, _, _ => exact ⟨_, cw_45⟩
  | 14, _, _ => exact ⟨_, cw_46⟩
  | 15, _, _ => exact ⟨_, cw_47⟩
  | n + 16, h, _ => omega
theorem cq_3 : ∀ j, j < 16 → 16 * 3 + j < 300 → tb_chk (16 * 3 + j) = true := by
  intro j hj hn
  match j, hj, hn with
  | 0, _, _ => exact ck_48
  | 1, _, _ => exact ck_49
  | 2, _, _ => exact ck_50
  | 3, _, _ => exact ck_51
  | 4, _, _ => exact ck_52
  | 5, _, _ => exact ck_53
  | 6, _, _ => exact ck_54
  | 7, _, _ => exact ck_55
  | 8, _, _ => exact ck_56
  | 9, _, _ => exact ck_57
  | 10, _, _ => exact ck_58
  | 11, _, _ => exact ck_59
  | 12, _, _ => exact ck_60
  | 13, _, _ => exact ck_61
  | 14, _, _ => exact ck_62
  | 15, _, _ => exact ck_63
  | n + 16, h, _ => omega
theorem cr_3 : ∀ j, j < 16 → 16 * 3 + j < 299 → ∃ z, tb_cdw (16 * 3 + j) z = true := by
  intro j hj hn
  match j, hj, hn with
  | 0, _, _ => exact ⟨_, cw_48⟩
  | 1, _, _ => exact ⟨_, cw_49⟩
  | 2, _, _ => exact ⟨_, cw_50⟩
  | 3, _, _ => exact ⟨_, cw_51⟩
  | 4, _, _ => exact ⟨_, cw_52⟩
  | 5, _, _ => exact ⟨_, cw_53⟩
  | 6, _, _ => exact ⟨_, cw_54⟩
  | 7, _, _ => exact ⟨_, cw_55⟩
  | 8, _, _ => exact ⟨_, cw_56⟩
  | 9, _, _ => exact ⟨_, cw_57⟩
  | 10, _, _ => exact ⟨_, cw_58⟩
  | 11, _, _ => exact ⟨_, cw_59⟩
  | 12, _, _ => exact ⟨_, cw_60⟩
  | 13, _, _ => exact ⟨_, cw_61⟩
  | 14, _, _ => exact ⟨_, cw_62⟩
  | 15, _, _ => exact ⟨_, cw_63⟩
  | n + 16, h, _ => omega
theorem cq_4 : ∀ j, j < 16 → 16 * 4 + j < 300 → tb_chk (16 * 4 + j) = true := by
  intro j hj hn
  match j, hj, hn with
  | 0, _, _ => exact ck_64
  | 1, _, _ => exact ck_65
  | 2, _, _ => exact ck_66
  | 3, _, _ => exact ck_67
  | 4, _, _ => exact ck_68
  | 5, _, _ => exact ck_69
  | 6, _, _ => exact ck_70
  | 7, _, _ => exact ck_71
  | 8, _, _ => exact ck_72
  | 9, _, _ => exact ck_73
  | 10, _, _ => exact ck_74
  | 11, _, _ => exact ck_75
  | 12, _, _ => exact ck_76
  | 13, _, _ => exact ck_77
  | 14, _, _ => exact ck_78
  | 15, _, _ => exact ck_79
  | n + 16, h, _ => omega
theorem cr_4 : ∀ j, j < 16 → 16 * 4 + j < 299 → ∃ z, tb_cdw (16 * 4 + j) z = true := by
  intro j hj hn
  match j, hj, hn with
  | 0, _, _ => exact ⟨_, cw_64⟩
  | 1, _, _ => exact ⟨_, cw_65⟩
  | 2, _, _ => exact ⟨_, cw_66⟩
  | 3, _, _ => exact ⟨_, cw_67⟩
  | 4, _, _ => exact ⟨_, cw_68⟩
  | 5, _, _ => exact ⟨_, cw_69⟩
  | 6, _, _ => exact ⟨_, cw_70⟩
  | 7, _, _ => exact ⟨_, cw_71⟩
  | 8, _, _ => exact ⟨_, cw_72⟩
  | 9, _, _ => exact ⟨_, cw_73⟩
  | 10, _, _ => exact ⟨_, cw_74⟩
  | 11, _, _ => exact ⟨_, cw_75⟩
  | 12, _, _ => exact ⟨_, cw_76⟩
  | 13, _, _ => exact ⟨_, cw_77⟩
  | 14, _, _ => exact ⟨_, cw_78⟩
  | 15, _, _ => exact ⟨_, cw_79⟩
  | n + 16, h, _ => omega
theorem cq_5 : ∀ j, j < 16 → 16 * 5 + j < 300 → tb_chk (16 * 5 + j) = true := by
  intro j hj hn
  match j, hj, hn with
  | 0, _, _ => exact ck_80
  | 1, _, _ => exact ck_81
  | 2, _, _ => exact ck_82
  | 3, _, _ => exact ck_83
  | 4, _, _ => exact ck_84
  | 5, _, _ => exact ck_85
  | 6, _, _ => exact ck_86
  | 7, _, _ => exact ck_87
  | 8, _, _ => exact ck_88
  | 9, _, _ => exact ck_89
  | 10, _, _ => exact ck_90
  | 11, _, _ => exact ck_91
  | 12, _, _ => exact ck_92
  | 13, _, _ => exact ck_93
  | 14, _, _ => exact ck_94
  | 15, _, _ => exact ck_95
  | n + 16, h, _ => omega
theorem cr_5 : ∀ j, j < 16 → 16 * 5 + j < 299 → ∃ z, tb_cdw (16 * 5 + j) z = true := by
  intro j hj hn
  match j, hj, hn with
  | 0, _, _ => exact ⟨_, cw_80⟩
  | 1, _, _ => exact ⟨_, cw_81⟩
  | 2, _, _ => exact ⟨_, cw_82⟩
  | 3, _, _ => exact ⟨_, cw_83⟩
  | 4, _, _ => exact ⟨_, cw_84⟩
  | 5, _, _ => exact ⟨_, cw_85⟩
  | 6, _, _ => exact ⟨_, cw_86⟩
  | 7, _, _ => exact ⟨_, cw_87⟩
  | 8, _, _ => exact ⟨_, cw_88⟩
  | 9, _, _ => exact ⟨_, cw_89⟩
  | 10, _, _ => exact ⟨_, cw_90⟩
  | 11, _, _ => exact ⟨_, cw_91⟩
  | 12, _, _ => exact ⟨_, cw_92⟩
  | 13, _, _ => exact ⟨_, cw_93⟩
  | 14, _, _ => exact ⟨_, cw_94⟩
  | 15, _, _ => exact ⟨_, cw_95⟩
  | n + 16, h, _ => omega
theorem cq_6 : ∀ j, j < 16 → 16 * 6 + j < 300 → tb_chk (16 * 6 + j) = true := by
  intro j hj hn
  match j, hj, hn with
  | 0, _, _ => exact ck_96
  | 1, _, _ => exact ck_97
  | 2, _, _ => exact ck_98
  | 3, _, _ => exact ck_99
  | 4, _, _ => exact ck_100
  | 5, _, _ => exact ck_101
  | 6, _, _ => exact ck_102
  | 7, _, _ => exact ck_103
  | 8, _, _ => exact ck_104
  | 9, _, _ => exact ck_105
  | 10, _, _ => exact ck_106
  | 11, _, _ => exact ck_107
  | 12, _, _ => exact ck_108
  | 13, _, _ => exact ck_109
  | 14, _, _ => exact ck_110
  | 15, _, _ => exact ck_111
  | n + 16, h, _ => omega
theorem cr_6 : ∀ j, j < 16 → 16 * 6 + j < 299 → ∃ z, tb_cdw (16 * 6 + j) z = true := by
  intro j hj hn
  match j, hj, hn with
  | 0, _, _ => exact ⟨_, cw_96⟩
  | 1, _, _ => exact ⟨_, cw_97⟩
  | 2, _, _ => exact ⟨_, cw_98⟩
  | 3, _, _ => exact ⟨_, cw_99⟩
  | 4, _, _ => exact ⟨_, cw_100⟩
  | 5, _, _ => exact ⟨_, cw_101⟩
  | 6, _, _ => exact ⟨_, cw_102⟩
  | 7, _, _ => exact ⟨_, cw_103⟩
  | 8, _, _ => exact ⟨_, cw_104⟩
  | 9, _, _ => exact ⟨_, cw_105⟩
  | 10, _, _ => exact ⟨_, cw_106⟩
  | 11, _, _ => exact ⟨_, cw_107⟩
  | 12, _, _ => exact ⟨_, cw_108⟩
  | 13, _, _ => exact ⟨_, cw_109⟩
  | 14, _, _ => exact ⟨_, cw_110⟩
  | 15, _, _ => exact ⟨_, cw_111⟩
  | n + 16, h, _ => omega
theorem cq_7 : ∀ j, j < 16 → 16 * 7 + j < 300 → tb_chk (16 * 7 + j) = true := by
  intro j hj hn
  match j, hj, hn with
  | 0, _, _ => exact ck_112
  | 1, _, _ => exact ck_113
  | 2, _, _ => exact ck_114
  | 3, _, _ => exact ck_115
  | 4, _, _ => exact ck_116
  | 5, _, _ => exact ck_117
  | 6, _, _ => exact ck_118
  | 7, _, _ => exact ck_119
  | 8, _, _ => exact ck_120
  | 9, _, _ => exact ck_121
  | 10, _, _ => exact ck_122
  | 11, _, _ => exact ck_123
  | 12, _, _ => exact ck_124
  | 13, _, _ => exact ck_125
  | 14, _, _ => exact ck_126
  | 15, _, _ => exact ck_127
  | n + 16, h, _ => omega
theorem cr_7 : ∀ j, j < 16 → 16 * 7 + j < 299 → ∃ z, tb_cdw (16 * 7 + j) z = true := by
  intro j hj hn
  match j, hj, hn with
  | 0, _, _ => exact ⟨_, cw_112⟩
  | 1, _, _ => exact ⟨_, cw_113⟩
  | 2, _, _ => exact ⟨_, cw_114⟩
  | 3, _, _ => exact ⟨_, cw_115⟩
  | 4, _, _ => exact ⟨_, cw_116⟩
  | 5, _, _ => exact ⟨_, cw_117⟩
  | 6, _, _ => exact ⟨_, cw_118⟩
  | 7, _, _ => exact ⟨_, cw_119⟩
  | 8, _, _ => exact ⟨_, cw_120⟩
  | 9, _, _ => exact ⟨_, cw_121⟩
  | 10, _, _ => exact ⟨_, cw_122⟩
  | 11, _, _ => exact ⟨_, cw_123⟩
  | 12, _, _ => exact ⟨_, cw_124⟩
  | 13, _, _ => exact ⟨_, cw_125⟩
  | 14, _, _ => exact ⟨_, cw_126⟩
  | 15, _, _ => exact ⟨_, cw_127⟩
  | n + 16, h, _ => omega
theorem cq_8 : ∀ j, j < 16 → 16 * 8 + j < 300 → tb_chk (16 * 8 + j) = true := by
  intro j hj hn
  match j, hj, hn with
  | 0, _, _ => exact ck_128
  | 1, _, _ => exact ck_129
  | 2, _, _ => exact ck_130
  | 3, _, _ => exact ck_131
  | 4, _, _ => exact ck_132
  | 5, _, _ => exact ck_133
  | 6, _, _ => exact ck_134
  | 7, _, _ => exact ck_135
  | 8, _, _ => exact ck_136
  | 9, _, _ => exact ck_137
  | 10, _, _ => exact ck_138
  | 11, _, _ => exact ck_139
  | 12, _, _ => exact ck_140
  | 13, _, _ => exact ck_141
  | 14, _, _ => exact ck_142
  | 15, _, _ => exact ck_143
  | n + 16, h, _ => omega
theorem cr_8 : ∀ j, j < 16 → 16 * 8 + j < 299 → ∃ z, tb_cdw (16 * 8 + j) z = true := by
  intro j hj hn
  match j, hj, hn with
  | 0, _, _ => exact ⟨_, cw_128⟩
  | 1, _, _ => exact ⟨_, cw_129⟩
  | 2, _, _ => exact ⟨_, cw_130⟩
  | 3, _, _ => exact ⟨_, cw_131⟩
  | 4, _, _ => exact ⟨_, cw_132⟩
  | 5, _, _ => exact ⟨_, cw_133⟩
  | 6, _, _ => exact ⟨_, cw_134⟩
  | 7, _, _ => exact ⟨_, cw_135⟩
  | 8, _, _ => exact ⟨_, cw_136⟩
  | 9, _, _ => exact ⟨_, cw_137⟩
  | 10, _, _ => exact ⟨_, cw_138⟩
  | 11, _, _ => exact ⟨_, cw_139⟩
  | 12, _, _ => exact ⟨_, cw_140⟩
  | 13, _, _ => exact ⟨_, cw_141⟩
  | 14, _, _ => exact ⟨_, cw_142⟩
  | 15, _, _ => exact ⟨_, cw_143⟩
  | n + 16, h, _ => omega
theorem cq_9 : ∀ j, j < 16 → 16 * 9 + j < 300 → tb_chk (16 * 9 + j) = true := by
  intro j hj hn
  match j, hj, hn with
  | 0, _, _ => exact ck_144
  | 1, _, _ => exact ck_145
  | 2, _, _ => exact ck_146
  | 3, _, _ => exact ck_147
  | 4, _, _ => exact ck_148
  | 5, _, _ => exact ck_149
  | 6, _, _ => exact ck_150
  | 7, _, _ => exact ck_151
  | 8, _, _ => exact ck_152
  | 9, _, _ => exact ck_153
  | 10, _, _ => exact ck_154
  | 11, _, _ => exact ck_155
  | 12, _, _ => exact ck_156
  | 13, _, _ => exact ck_157
  | 14, _, _ => exact ck_158
  | 15, _, _ => exact ck_159
  | n + 16, h, _ => omega
theorem cr_9 : ∀ j, j < 16 → 16 * 9 + j < 299 → ∃ z, tb_cdw (16 * 9 + j) z = true := by
  intro j hj hn
  match j, hj, hn with
  | 0, _, _ => exact ⟨_, cw_144⟩
  | 1, _, _ => exact ⟨_, cw_145⟩
  | 2, _, _ => exact ⟨_, cw_146⟩
  | 3, _, _ => exact ⟨_, cw_147⟩
  | 4, _, _ => exact ⟨_, cw_148⟩
  | 5, _, _ => exact ⟨_, cw_149⟩
  | 6, _, _ => exact ⟨_, cw_150⟩
  | 7, _, _ => exact ⟨_, cw_151⟩
  | 8, _, _ => exact ⟨_, cw_152⟩
  | 9, _, _ => exact ⟨_, cw_153⟩
  | 10, _, _ => exact ⟨_, cw_154⟩
  | 11, _, _ => exact ⟨_, cw_155⟩
  | 12, _, _ => exact ⟨_, cw_156⟩
  | 13, _, _ => exact ⟨_, cw_157⟩
  | 14, _, _ => exact ⟨_, cw_158⟩
  | 15, _, _ => exact ⟨_, cw_159⟩
  | n + 16, h, _ => omega
theorem cq_10 : ∀ j, j < 16 → 16 * 10 + j < 300 → tb_chk (16 * 10 + j) = true := by
  intro j hj hn
  match j, hj, hn with
  | 0, _, _ => exact ck_160
  | 1, _, _ => exact ck_161
  | 2, _, _ => exact ck_162
  | 3, _, _ => exact ck_163
  | 4, _, _ => exact ck_164
  | 5, _, _ => exact ck_165
  | 6, _, _ => exact ck_166
  | 7, _, _ => exact ck_167
  | 8, _, _ => exact ck_168
  | 9, _, _ => exact ck_169
  | 10, _, _ => exact ck_170
  | 11, _, _ => exact ck_171
  | 12, _, _ => exact ck_172
  | 13, _, _ => exact ck_173
  | 14, _, _ => exact ck_174
  | 15, _, _ => exact ck_175
  | n + 16, h, _ => omega
theorem cr_10 : ∀ j, j < 16 → 16 * 10 + j < 299 → ∃ z, tb_cdw (16 * 10 + j) z = true := by
  intro j hj hn
  match j, hj, hn with
  | 0, _, _ => exact ⟨_, cw_160⟩
  | 1, _, _ => exact ⟨_, cw_161⟩
  | 2, _, _ => exact ⟨_, cw_162⟩
  | 3, _, _ => exact ⟨_, cw_163⟩
  | 4, _, _ => exact ⟨_, cw_164⟩
  | 5, _, _ => exact ⟨_, cw_165⟩
  | 6, _, _ => exact ⟨_, cw_166⟩
  | 7, _, _ => exact ⟨_, cw_167⟩
  | 8, _, _ => exact ⟨_, cw_168⟩
  | 9, _, _ => exact ⟨_, cw_169⟩
  | 10, _, _ => exact ⟨_, cw_170⟩
  | 11, _, _ => exact ⟨_, cw_171⟩
  | 12, _, _ => exact ⟨_, cw_172⟩
  | 13, _, _ => exact ⟨_, cw_173⟩
  | 14, _, _ => exact ⟨_, cw_174⟩
  | 15, _, _ => exact ⟨_, cw_175⟩
  | n + 16, h, _ => omega
theorem cq_11 : ∀ j, j < 16 → 16 * 11 + j < 300 → tb_chk (16 * 11 + j) = true := by
  intro j hj hn
  match j, hj, hn with
  | 0, _, _ => exact ck_176
  | 1, _, _ => exact ck_177
  | 2, _, _ => exact ck_178
  | 3, _, _ => exact ck_179
  | 4, _, _ => exact ck_180
  | 5, _, _ => exact ck_181
  | 6, _, _ => exact ck_182
  | 7, _, _ => exact ck_183
  | 8, _, _ => exact ck_184
  | 9, _, _ => exact ck_185
  | 10, _, _ => exact ck_186
  | 11, _, _ => exact ck_187
  | 12, _, _ => exact ck_188
  | 13, _, _ => exact ck_189
  | 14, _, _ => exact ck_190
  | 15, _, _ => exact ck_191
  | n + 16, h, _ => omega
theorem cr_11 : ∀ j, j < 16 → 16 * 11 + j < 299 → ∃ z, tb_cdw (16 * 11 + j) z = true := by
  intro j hj hn
  match j, hj, hn with
  | 0, _, _ => exact ⟨_, cw_176⟩
  | 1, _, _ => exact ⟨_, cw_177⟩
  | 2, _, _ => exact ⟨_, cw_178⟩
  | 3, _, _ => exact ⟨_, cw_179⟩
  | 4, _, _ => exact ⟨_, cw_180⟩
  | 5, _, _ => exact ⟨_, cw_181⟩
  | 6, _, _ => exact ⟨_, cw_182⟩
  | 7, _, _ => exact ⟨_, cw_183⟩
  | 8, _, _ => exact ⟨_, cw_184⟩
  | 9, _, _ => exact ⟨_, cw_185⟩
  | 10, _, _ => exact ⟨_, cw_186⟩
  | 11, _, _ => exact ⟨_, cw_187⟩
  | 12, _, _ => exact ⟨_, cw_188⟩
  | 13, _, _ => exact ⟨_, cw_189⟩
  | 14, _, _ => exact ⟨_, cw_190⟩
  | 15, _, _ => exact ⟨_, cw_191⟩
  | n + 16, h, _ => omega
theorem cq_12 : ∀ j, j < 16 → 16 * 12 + j < 300 → tb_chk (16 * 12 + j) = true := by
  intro j hj hn
  match j, hj, hn with
  | 0, _, _ => exact ck_192
  | 1, _, _ => exact ck_193
  | 2, _, _ => exact ck_194
  | 3, _, _ => exact ck_195
  | 4, _, _ => exact ck_196
  | 5, _, _ => exact ck_197
  | 6, _, _ => exact ck_198
  | 7, _, _ => exact ck_199
  | 8, _, _ => exact ck_200
  | 9, _, _ => exact ck_201
  | 10, _, _ => exact ck_202
  | 11, _, _ => exact ck_203
  | 12, _, _ => exact ck_204
  | 13, _, _ => exact ck_205
  | 14, _, _ => exact ck_206
  | 15, _, _ => exact ck_207
  | n + 16, h, _ => omega
theorem cr_12 : ∀ j, j < 16 → 16 * 12 + j < 299 → ∃ z, tb_cdw (16 * 12 + j) z = true := by
  intro j hj hn
  match j, hj, hn with
  | 0, _, _ => exact ⟨_, cw_192⟩
  | 1, _, _ => exact ⟨_, cw_193⟩
  | 2, _, _ => exact ⟨_, cw_194⟩
  | 3, _, _ => exact ⟨_, cw_195⟩
  | 4, _, _ => exact ⟨_, cw_196⟩
  | 5, _, _ => exact ⟨_, cw_197⟩
  | 6, _, _ => exact ⟨_, cw_198⟩
  | 7, _, _ => exact ⟨_, cw_199⟩
  | 8, _, _ => exact ⟨_, cw_200⟩
  | 9, _, _ => exact ⟨_, cw_201⟩
  | 10, _, _ => exact ⟨_, cw_202⟩
  | 11, _, _ => exact ⟨_, cw_203⟩
  | 12, _, _ => exact ⟨_, cw_204⟩
  | 13, _, _ => exact ⟨_, cw_205⟩
  | 14, _, _ => exact ⟨_, cw_206⟩
  | 15, _, _ => exact ⟨_, cw_207⟩
  | n + 16, h, _ => omega
theorem cq_13 : ∀ j, j < 16 → 16 * 13 + j < 300 → tb_chk (16 * 13 + j) = true := by
  intro j hj hn
  match j, hj, hn with
  | 0, _, _ => exact ck_208
  | 1, _, _ => exact ck_209
  | 2, _, _ => exact ck_210
  | 3, _, _ => exact ck_211
  | 4, _, _ => exact ck_212
  | 5, _, _ => exact ck_213
  | 6, _, _ => exact ck_214
  | 7, _, _ => exact ck_215
  | 8, _, _ => exact ck_216
  | 9, _, _ => exact ck_217
  | 10, _, _ => exact ck_218
  | 11, _, _ => exact ck_219
  | 12, _, _ => exact ck_220
  | 13, _, _ => exact ck_221
  | 14, _, _ => exact ck_222
  | 15, _, _ => exact ck_223
  | n + 16, h, _ => omega
theorem cr_13 : ∀ j, j < 16 → 16 * 13 + j < 299 → ∃ z, tb_cdw (16 * 13 + j) z = true := by
  intro j hj hn
  match j, hj, hn with
  | 0, _, _ => exact ⟨_, cw_208⟩
  | 1, _, _ => exact ⟨_, cw_209⟩
  | 2, _, _ => exact ⟨_, cw_210⟩
  | 3, _, _ => exact ⟨_, cw_211⟩
  | 4, _, _ => exact ⟨_, cw_212⟩
  | 5, _, _ => exact ⟨_, cw_213⟩
  | 6, _, _ => exact ⟨_, cw_214⟩
  | 7, _, _ => exact ⟨_, cw_215⟩
  | 8, _, _ => exact ⟨_, cw_216⟩
  | 9, _, _ => exact ⟨_, cw_217⟩
  | 10, _, _ => exact ⟨_, cw_218⟩
  | 11, _, _ => exact ⟨_, cw_219⟩
  | 12, _, _ => exact ⟨_, cw_220⟩
  | 13, _, _ => exact ⟨_, cw_221⟩
  | 14, _, _ => exact ⟨_, cw_222⟩
  | 15, _, _ => exact ⟨_, cw_223⟩
  | n + 16, h, _ => omega
theorem cq_14 : ∀ j, j < 16 → 16 * 14 + j < 300 → tb_chk (16 * 14 + j) = true := by
  intro j hj hn
  match j, hj, hn with
  | 0, _, _ => exact ck_224
  | 1, _, _ => exact ck_225
  | 2, _, _ => exact ck_226
  | 3, _, _ => exact ck_227
  | 4, _, _ => exact ck_228
  | 5, _, _ => exact ck_229
  | 6, _, _ => exact ck_230
  | 7, _, _ => exact ck_231
  | 8, _, _ => exact ck_232
  | 9, _, _ => exact ck_233
  | 10, _, _ => exact ck_234
  | 11, _, _ => exact ck_235
  | 12, _, _ => exact ck_236
  | 13, _, _ => exact ck_237
  | 14, _, _ => exact ck_238
  | 15, _, _ => exact ck_239
  | n + 16, h, _ => omega
theorem cr_14 : ∀ j, j < 16 → 16 * 14 + j < 299 → ∃ z, tb_cdw (16 * 14 + j) z = true := by
  intro j hj hn
  match j, hj, hn with
  | 0, _, _ => exact ⟨_, cw_224⟩
  | 1, _, _ => exact ⟨_, cw_225⟩
  | 2, _, _ => exact ⟨_, cw_226⟩
  | 3, _, _ => exact ⟨_, cw_227⟩
  | 4, _, _ => exact ⟨_, cw_228⟩
  | 5, _, _ => exact ⟨_, cw_229⟩
  | 6, _, _ => exact ⟨_, cw_230⟩
  | 7, _, _ => exact ⟨_, cw_231⟩
  | 8, _, _ => exact ⟨_, cw_232⟩
  | 9, _, _ => exact ⟨_, cw_233⟩
  | 10, _, _ => exact ⟨_, cw_234⟩
  | 11, _, _ => exact ⟨_, cw_235⟩
  | 12, _, _ => exact ⟨_, cw_236⟩
  | 13, _, _ => exact ⟨_, cw_237⟩
  | 14, _, _ => exact ⟨_, cw_238⟩
  | 15, _, _ => exact ⟨_, cw_239⟩
  | n + 16, h, _ => omega
theorem cq_15 : ∀ j, j < 16 → 16 * 15 + j < 300 → tb_chk (16 * 15 + j) = true := by
  intro j hj hn
  match j, hj, hn with
  | 0, _, _ => exact ck_240
  | 1, _, _ => exact ck_241
  | 2, _, _ => exact ck_242
  | 3, _, _ => exact ck_243
  | 4, _, _ => exact ck_244
  | 5, _, _ => exact ck_245
  | 6, _, _ => exact ck_246
  | 7, _, _ => exact ck_247
  | 8, _, _ => exact ck_248
  | 9, _, _ => exact ck_249
  | 10, _, _ => exact ck_250
  | 11, _, _ => exact ck_251
  | 12, _, _ => exact ck_252
  | 13, _, _ => exact ck_253
  | 14, _, _ => exact ck_254
  | 15, _, _ => exact ck_255
  | n + 16, h, _ => omega
theorem cr_15 : ∀ j, j < 16 → 16 * 15 + j < 299 → ∃ z, tb_cdw (16 * 15 + j) z = true := by
  intro j hj hn
  match j, hj, hn with
  | 0, _, _ => exact ⟨_, cw_240⟩
  | 1, _, _ => exact ⟨_, cw_241⟩
  | 2, _, _ => exact ⟨_, cw_242⟩
  | 3, _, _ => exact ⟨_, cw_243⟩
  | 4, _, _ => exact ⟨_, cw_244⟩
  | 5, _, _ => exact ⟨_, cw_245⟩
  | 6, _, _ => exact ⟨_, cw_246⟩
  | 7, _, _ => exact ⟨_, cw_247⟩
  | 8, _, _ => exact ⟨_, cw_248⟩
  | 9, _, _ => exact ⟨_, cw_249⟩
  | 10, _, _ => exact ⟨_, cw_250⟩
  | 11, _, _ => exact ⟨_, cw_251⟩
  | 12, _, _ => exact ⟨_, cw_252⟩
  | 13, _, _ => exact ⟨_, cw_253⟩
  | 14, _, _ => exact ⟨_, cw_254⟩
  | 15, _, _ => exact ⟨_, cw_255⟩
  | n + 16, h, _ => omega
theorem cq_16 : ∀ j, j < 16 → 16 * 16 + j < 300 → tb_chk (16 * 16 + j) = true := by
  intro j hj hn
  match j, hj, hn with
  | 0, _, _ => exact ck_256
  | 1, _, _ => exact ck_257
  | 2, _, _ => exact ck_258
  | 3, _, _ => exact ck_259
  | 4, _, _ => exact ck_260
  | 5, _, _ => exact ck_261
  | 6, _, _ => exact ck_262
  | 7, _, _ => exact ck_263
  | 8, _, _ => exact ck_264
  | 9, _, _ => exact ck_265
  | 10, _, _ => exact ck_266
  | 11, _, _ => exact ck_267
  | 12, _, _ => exact ck_268
  | 13, _, _ => exact ck_269
  | 14, _, _ => exact ck_270
  | 15, _, _ => exact ck_271
  | n + 16, h, _ => omega
theorem cr_16 : ∀ j, j < 16 → 16 * 16 + j < 299 → ∃ z, tb_cdw (16 * 16 + j) z = true := by
  intro j hj hn
  match j, hj, hn with
  | 0, _, _ => exact ⟨_, cw_256⟩
  | 1, _, _ => exact ⟨_, cw_257⟩
  | 2, _, _ => exact ⟨_, cw_258⟩
  | 3, _, _ => exact ⟨_, cw_259⟩
  | 4, _, _ => exact ⟨_, cw_260⟩
  | 5, _, _ => exact ⟨_, cw_261⟩
  | 6, _, _ => exact ⟨_, cw_262⟩
  | 7, _, _ => exact ⟨_, cw_263⟩
  | 8, _, _ => exact ⟨_, cw_264⟩
  | 9, _, _ => exact ⟨_, cw_265⟩
  | 10, _, _ => exact ⟨_, cw_266⟩
  | 11, _, _ => exact ⟨_, cw_267⟩
  | 12, _, _ => exact ⟨_, cw_268⟩
  | 13, _, _ => exact ⟨_, cw_269⟩
  | 14, _, _ => exact ⟨_, cw_270⟩
  | 15, _, _ => exact ⟨_, cw_271⟩
  | n + 16, h, _ => omega
theorem cq_17 : ∀ j, j < 16 → 16 * 17 + j < 300 → tb_chk (16 * 17 + j) = true := by
  intro j hj hn
  match j, hj, hn with
  | 0, _, _ => exact ck_272
  | 1, _, _ => exact ck_273
  | 2, _, _ => exact ck_274
  | 3, _, _ => exact ck_275
  | 4, _, _ => exact ck_276
  | 5, _, _ => exact ck_277
  | 6, _, _ => exact ck_278
  | 7, _, _ => exact ck_279
  | 8, _, _ => exact ck_280
  | 9, _, _ => exact ck_281
  | 10, _, _ => exact ck_282
  | 11, _, _ => exact ck_283
  | 12, _, _ => exact ck_284
  | 13, _, _ => exact ck_285
  | 14, _, _ => exact ck_286
  | 15, _, _ => exact ck_287
  | n + 16, h, _ => omega
theorem cr_17 : ∀ j, j < 16 → 16 * 17 + j < 299 → ∃ z, tb_cdw (16 * 17 + j) z = true := by
  intro j hj hn
  match j, hj, hn with
  | 0, _, _ => exact ⟨_, cw_272⟩
  | 1, _, _ => exact ⟨_, cw_273⟩
  | 2, _, _ => exact ⟨_, cw_274⟩
  | 3, _, _ => exact ⟨_, cw_275⟩
  | 4, _, _ => exact ⟨_, cw_276⟩
  | 5, _, _ => exact ⟨_, cw_277⟩
  | 6, _, _ => exact ⟨_, cw_278⟩
  | 7, _, _ => exact ⟨_, cw_279⟩
  | 8, _, _ => exact ⟨_, cw_280⟩
  | 9, _, _ => exact ⟨_, cw_281⟩
  | 10, _, _ => exact ⟨_, cw_282⟩
  | 11, _, _ => exact ⟨_, cw_283⟩
  | 12, _, _ => exact ⟨_, cw_284⟩
  | 13, _, _ => exact ⟨_, cw_285⟩
  | 14, _, _ => exact ⟨_, cw_286⟩
  | 15, _, _ => exact ⟨_, cw_287⟩
  | n + 16, h, _ => omega
theorem cq_18 : ∀ j, j < 16 → 16 * 18 + j < 300 → tb_chk (16 * 18 + j) = true := by
  intro j hj hn
  match j, hj, hn with
  | 0, _, _ => exact ck_288
  | 1, _, _ => exact ck_289
  | 2, _, _ => exact ck_290
  | 3, _, _ => exact ck_291
  | 4, _, _ => exact ck_292
  | 5, _, _ => exact ck_293
  | 6, _, _ => exact ck_294
  | 7, _, _ => exact ck_295
  | 8, _, _ => exact ck_296
  | 9, _, _ => exact ck_297
  | 10, _, _ => exact ck_298
  | 11, _, _ => exact ck_299
  | 12, _, h => omega
  | 13, _, h => omega
  | 14, _, h => omega
  | 15, _, h => omega
  | n + 16, h, _ => omega
theorem cr_18 : ∀ j, j < 16 → 16 * 18 + j < 299 → ∃ z, tb_cdw (16 * 18 + j) z = true := by
  intro j hj hn
  match j, hj, hn with
  | 0, _, _ => exact ⟨_, cw_288⟩
  | 1, _, _ => exact ⟨_, cw_289⟩
  | 2, _, _ => exact ⟨_, cw_290⟩
  | 3, _, _ => exact ⟨_, cw_291⟩
  | 4, _, _ => exact ⟨_, cw_292⟩
  | 5, _, _ => exact ⟨_, cw_293⟩
  | 6, _, _ => exact ⟨_, cw_294⟩
  | 7, _, _ => exact ⟨_, cw_295⟩
  | 8, _, _ => exact ⟨_, cw_296⟩
  | 9, _, _ => exact ⟨_, cw_297⟩
  | 10, _, _ => exact ⟨_, cw_298⟩
  | 11, _, h => omega
  | 12, _, h => omega
  | 13, _, h => omega
  | 14, _, h => omega
  | 15, _, h => omega
  | n + 16, h, _ => omega
theorem tb_chk_all : ∀ y, y < 300 → tb_chk y = true := by
  intro y hy
  obtain ⟨q, j, rfl, hj⟩ : ∃ q j, y = 16 * q + j ∧ j < 16 := ⟨y / 16, y % 16, by omega, by omega⟩
  match q, hy with
  | 0, hy => exact cq_0 j hj hy
  | 1, hy => exact cq_1 j hj hy
  | 2, hy => exact cq_2 j hj hy
  | 3, hy => exact cq_3 j hj hy
  | 4, hy => exact cq_4 j hj hy
  | 5, hy => exact cq_5 j hj hy
  | 6, hy => exact cq_6 j hj hy
  | 7, hy => exact cq_7 j hj hy
  | 8, hy => exact cq_8 j hj hy
  | 9, hy => exact cq_9 j hj hy
  | 10, hy => exact cq_10 j hj hy
  | 11, hy => exact cq_11 j hj hy
  | 12, hy => exact cq_12 j hj hy
  | 13, hy => exact cq_13 j hj hy
  | 14, hy => exact cq_14 j hj hy
  | 15, hy => exact cq_15 j hj hy
  | 16, hy => exact cq_16 j hj hy
  | 17, hy => exact cq_17 j hj hy
  | 18, hy => exact cq_18 j hj hy
  | n + 19, hy => omega
theorem tb_cdw_all : ∀ y, y < 299 → ∃ z, tb_cdw y z = true := by
  intro y hy
  obtain ⟨q, j, rfl, hj⟩ : ∃ q j, y = 16 * q + j ∧ j < 16 := ⟨y / 16, y % 16, by omega, by omega⟩
  match q, hy with
  | 0, hy => exact cr_0 j hj hy
  | 1, hy => exact cr_1 j hj hy
  | 2, hy => exact cr_2 j hj hy
  | 3, hy => exact cr_3 j hj hy
  | 4, hy => exact cr_4 j hj hy
  | 5, hy => exact cr_5 j hj hy
  | 6, hy => exact cr_6 j hj hy
  | 7, hy => exact cr_7 j hj hy
  | 8, hy => exact cr_8 j hj hy
  | 9, hy => exact cr_9 j hj hy
  | 10, hy => exact cr_10 j hj hy
  | 11, hy => exact cr_11 j hj hy
  | 12, hy => exact cr_12 j hj hy
  | 13, hy => exact cr_13 j hj hy
  | 14, hy => exact cr_14 j hj hy
  | 15, hy => exact cr_15 j hj hy
  | 16, hy => exact cr_16 j hj hy
  | 17, hy => exact cr_17 j hj hy
  | 18, hy => exact cr_18 j hj hy
  | n + 19, hy => omega
theorem tb_P_out (y : Nat) (h : 300 ≤ y) : tb_P.1 y = [] := by
  show ((tb_cbs.getD (y / 16) []).getD (y % 16) []) = []
  by_cases h1 : y < 304
  · obtain ⟨j, rfl⟩ : ∃ j, y = 300 + j := ⟨y - 300, by omega⟩
    have hj : j < 4 := by omega
    match j, hj with
    | 0, _ => rfl
    | 1, _ => rfl
    | 2, _ => rfl
    | 3, _ => rfl
    | n + 4, h => omega
  · rw [List.getD_eq_getElem?_getD (l := tb_cbs), List.getElem?_eq_none (by show 19 ≤ y / 16; omega)]
    rfl
theorem tb_hP1 : ∀ (y i : Nat) (q : tb_I), (tb_P.1 y)[i]? = some q → tb_okI tb_mi tb_sc tb_ns (tb_P.1 y) y i q = true := by
  intro y i q hq
  by_cases hy : y < 300
  · have h := tb_chk_all y hy
    unfold tb_chk at h
    rw [Bool.and_eq_true] at h
    have := tb_okL_at (tb_P.1 y) 0 h.1 i q hq
    rw [Nat.zero_add] at this
    exact this
  · rw [tb_P_out y (by omega)] at hq
    simp at hq
theorem tb_hP2 : ∀ (y i : Nat) (q : tb_I), (tb_P.1 y)[i]? = some q → tb_okM tb_P tb_mi y := by
  intro y i q hq
  by_cases hy : y < 300
  · have h := tb_chk_all y hy
    unfold tb_chk tb_ckM at h
    simp only [Bool.and_eq_true, decide_eq_true_eq] at h
    obtain ⟨-, ⟨⟨⟨h1, h2⟩, h3⟩, h4⟩, h5⟩ := h
    refine ⟨?_, h2, rfl, h3, h4, h5, fun hl => ?_⟩
    · split at h1
      · rename_i q0 hq0
        exact ⟨q0, hq0, of_decide_eq_true h1⟩
      · cases h1
    · by_cases hy2 : y < 299
      · obtain ⟨z, hz⟩ := tb_cdw_all y hy2
        exact tb_wd_ok hz
      · have e : y = 299 := by omega
        subst e
        exact absurd rfl hl
  · rw [tb_P_out y (by omega)] at hq
    simp at hq
