theorem ck_101 : tb_chk 101 = true := by decide +kernel
theorem cw_101 : tb_cdw 101 962 = true := by decide +kernel
theorem ck_102 : tb_chk 102 = true := by decide +kernel
theorem cw_102 : tb_cdw 102 966 = true := by decide +kernel
theorem ck_103 : tb_chk 103 = true := by decide +kernel
theorem cw_103 : tb_cdw 103 970 = true := by decide +kernel
theorem ck_104 : tb_chk 104 = true := by decide +kernel
theorem cw_104 : tb_cdw 104 974 = true := by decide +kernel
theorem ck_105 : tb_chk 105 = true := by decide +kernel
theorem cw_105 : tb_cdw 105 978 = true := by decide +kernel
theorem ck_106 : tb_chk 106 = true := by decide +kernel
theorem cw_106 : tb_cdw 106 982 = true := by decide +kernel
theorem ck_107 : tb_chk 107 = true := by decide +kernel
theorem cw_107 : tb_cdw 107 986 = true := by decide +kernel
theorem ck_108 : tb_chk 108 = true := by decide +kernel
theorem cw_108 : tb_cdw 108 990 = true := by decide +kernel
theorem ck_109 : tb_chk 109 = true := by decide +kernel
theorem cw_109 : tb_cdw 109 994 = true := by decide +kernel
theorem ck_110 : tb_chk 110 = true := by decide +kernel
theorem cw_110 : tb_cdw 110 1000 = true := by decide +kernel
theorem ck_111 : tb_chk 111 = true := by decide +kernel
theorem cw_111 : tb_cdw 111 1005 = true := by decide +kernel
theorem ck_112 : tb_chk 112 = true := by decide +kernel
theorem cw_112 : tb_cdw 112 1009 = true := by decide +kernel
theorem ck_113 : tb_chk 113 = true := by decide +kernel
theorem cw_113 : tb_cdw 113 1012 = true := by decide +kernel
theorem ck_114 : tb_chk 114 = true := by decide +kernel
theorem cw_114 : tb_cdw 114 1016 = true := by decide +kernel
theorem ck_115 : tb_chk 115 = true := by decide +kernel
theorem cw_115 : tb_cdw 115 1021 = true := by decide +kernel
theorem ck_116 : tb_chk 116 = true := by decide +kernel
theorem cw_116 : tb_cdw 116 1025 = true := by decide +kernel
theorem ck_117 : tb_chk 117 = true := by decide +kernel
theorem cw_117 : tb_cdw 117 1029 = true := by decide +kernel
theorem ck_118 : tb_chk 118 = true := by decide +kernel
theorem cw_118 : tb_cdw 118 1033 = true := by decide +kernel
theorem ck_119 : tb_chk 119 = true := by decide +kernel
theorem cw_119 : tb_cdw 119 1037 = true := by decide +kernel
theorem ck_120 : tb_chk 120 = true := by decide +kernel
theorem cw_120 : tb_cdw 120 1040 = true := by decide +kernel
theorem ck_121 : tb_chk 121 = true := by decide +kernel
theorem cw_121 : tb_cdw 121 1045 = true := by decide +kernel
theorem ck_122 : tb_chk 122 = true := by decide +kernel
theorem cw_122 : tb_cdw 122 1049 = true := by decide +kernel
theorem ck_123 : tb_chk 123 = true := by decide +kernel
theorem cw_123 : tb_cdw 123 1054 = true := by decide +kernel
theorem ck_124 : tb_chk 124 = true := by decide +kernel
theorem cw_124 : tb_cdw 124 1059 = true := by decide +kernel
theorem ck_125 : tb_chk 125 = true := by decide +kernel
theorem cw_125 : tb_cdw 125 1063 = true := by decide +kernel
theorem ck_126 : tb_chk 126 = true := by decide +kernel
theorem cw_126 : tb_cdw 126 1071 = true := by decide +kernel
theorem ck_127 : tb_chk 127 = true := by decide +kernel
theorem cw_127 : tb_cdw 127 1075 = true := by decide +kernel
theorem ck_128 : tb_chk 128 = true := by decide +kernel
theorem cw_128 : tb_cdw 128 1079 = true := by decide +kernel
theorem ck_129 : tb_chk 129 = true := by decide +kernel
theorem cw_129 : tb_cdw 129 1083 = true := by decide +kernel
theorem ck_130 : tb_chk 130 = true := by decide +kernel
theorem cw_130 : tb_cdw 130 1087 = true := by decide +kernel
theorem ck_131 : tb_chk 131 = true := by decide +kernel
theorem cw_131 : tb_cdw 131 1092 = true := by decide +kernel
theorem ck_132 : tb_chk 132 = true := by decide +kernel
theorem cw_132 : tb_cdw 132 1096 = true := by decide +kernel
theorem ck_133 : tb_chk 133 = true := by decide +kernel
theorem cw_133 : tb_cdw 133 1100 = true := by decide +kernel
theorem ck_134 : tb_chk 134 = true := by decide +kernel
theorem cw_134 : tb_cdw 134 1104 = true := by decide +kernel
theorem ck_135 : tb_chk 135 = true := by decide +kernel
theorem cw_135 : tb_cdw 135 1108 = true := by decide +kernel
theorem ck_136 : tb_chk 136 = true := by decide +kernel
theorem cw_136 : tb_cdw 136 1117 = true := by decide +kernel
theorem ck_137 : tb_chk 137 = true := by decide +kernel
theorem cw_137 : tb_cdw 137 1121 = true := by decide +kernel
theorem ck_138 : tb_chk 138 = true := by decide +kernel
theorem cw_138 : tb_cdw 138 1125 = true := by decide +kernel
theorem ck_139 : tb_chk 139 = true := by decide +kernel
theorem cw_139 : tb_cdw 139 1129 = true := by decide +kernel
theorem ck_140 : tb_chk 140 = true := by decide +kernel
theorem cw_140 : tb_cdw 140 1135 = true := by decide +kernel
theorem ck_141 : tb_chk 141 = true := by decide +kernel
theorem cw_141 : tb_cdw 141 1139 = true := by decide +kernel
theorem ck_142 : tb_chk 142 = true := by decide +kernel
theorem cw_142 : tb_cdw 142 1145 = true := by decide +kernel
theorem ck_143 : tb_chk 143 = true := by decide +kernel
theorem cw_143 : tb_cdw 143 1150 = true := by decide +kernel
theorem ck_144 : tb_chk 144 = true := by decide +kernel
theorem cw_144 : tb_cdw 144 1154 = true := by decide +kernel
theorem ck_145 : tb_chk 145 = true := by decide +kernel
theorem cw_145 : tb_cdw 145 1158 = true := by decide +kernel
theorem ck_146 : tb_chk 146 = true := by decide +kernel
theorem cw_146 : tb_cdw 146 1162 = true := by decide +kernel
