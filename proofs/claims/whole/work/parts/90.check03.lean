theorem ck_147 : tb_chk 147 = true := by decide +kernel
theorem cw_147 : tb_cdw 147 1168 = true := by decide +kernel
theorem ck_148 : tb_chk 148 = true := by decide +kernel
theorem cw_148 : tb_cdw 148 1172 = true := by decide +kernel
theorem ck_149 : tb_chk 149 = true := by decide +kernel
theorem cw_149 : tb_cdw 149 1176 = true := by decide +kernel
theorem ck_150 : tb_chk 150 = true := by decide +kernel
theorem cw_150 : tb_cdw 150 1179 = true := by decide +kernel
theorem ck_151 : tb_chk 151 = true := by decide +kernel
theorem cw_151 : tb_cdw 151 1183 = true := by decide +kernel
theorem ck_152 : tb_chk 152 = true := by decide +kernel
theorem cw_152 : tb_cdw 152 1188 = true := by decide +kernel
theorem ck_153 : tb_chk 153 = true := by decide +kernel
theorem cw_153 : tb_cdw 153 1192 = true := by decide +kernel
theorem ck_154 : tb_chk 154 = true := by decide +kernel
theorem cw_154 : tb_cdw 154 1196 = true := by decide +kernel
theorem ck_155 : tb_chk 155 = true := by decide +kernel
theorem cw_155 : tb_cdw 155 1200 = true := by decide +kernel
theorem ck_156 : tb_chk 156 = true := by decide +kernel
theorem cw_156 : tb_cdw 156 1206 = true := by decide +kernel
theorem ck_157 : tb_chk 157 = true := by decide +kernel
theorem cw_157 : tb_cdw 157 1211 = true := by decide +kernel
theorem ck_158 : tb_chk 158 = true := by decide +kernel
theorem cw_158 : tb_cdw 158 1215 = true := by decide +kernel
theorem ck_159 : tb_chk 159 = true := by decide +kernel
theorem cw_159 : tb_cdw 159 1219 = true := by decide +kernel
theorem ck_160 : tb_chk 160 = true := by decide +kernel
theorem cw_160 : tb_cdw 160 1225 = true := by decide +kernel
theorem ck_161 : tb_chk 161 = true := by decide +kernel
theorem cw_161 : tb_cdw 161 1229 = true := by decide +kernel
theorem ck_162 : tb_chk 162 = true := by decide +kernel
theorem cw_162 : tb_cdw 162 1233 = true := by decide +kernel
theorem ck_163 : tb_chk 163 = true := by decide +kernel
theorem cw_163 : tb_cdw 163 1237 = true := by decide +kernel
theorem ck_164 : tb_chk 164 = true := by decide +kernel
theorem cw_164 : tb_cdw 164 1241 = true := by decide +kernel
theorem ck_165 : tb_chk 165 = true := by decide +kernel
theorem cw_165 : tb_cdw 165 1251 = true := by decide +kernel
theorem ck_166 : tb_chk 166 = true := by decide +kernel
theorem cw_166 : tb_cdw 166 1255 = true := by decide +kernel
theorem ck_167 : tb_chk 167 = true := by decide +kernel
theorem cw_167 : tb_cdw 167 1259 = true := by decide +kernel
theorem ck_168 : tb_chk 168 = true := by decide +kernel
theorem cw_168 : tb_cdw 168 1263 = true := by decide +kernel
theorem ck_169 : tb_chk 169 = true := by decide +kernel
theorem cw_169 : tb_cdw 169 1268 = true := by decide +kernel
theorem ck_170 : tb_chk 170 = true := by decide +kernel
theorem cw_170 : tb_cdw 170 1273 = true := by decide +kernel
theorem ck_171 : tb_chk 171 = true := by decide +kernel
theorem cw_171 : tb_cdw 171 1388 = true := by decide +kernel
theorem ck_172 : tb_chk 172 = true := by decide +kernel
theorem cw_172 : tb_cdw 172 1392 = true := by decide +kernel
theorem ck_173 : tb_chk 173 = true := by decide +kernel
theorem cw_173 : tb_cdw 173 1396 = true := by decide +kernel
theorem ck_174 : tb_chk 174 = true := by decide +kernel
theorem cw_174 : tb_cdw 174 1400 = true := by decide +kernel
theorem ck_175 : tb_chk 175 = true := by decide +kernel
theorem cw_175 : tb_cdw 175 1404 = true := by decide +kernel
theorem ck_176 : tb_chk 176 = true := by decide +kernel
theorem cw_176 : tb_cdw 176 1408 = true := by decide +kernel
theorem ck_177 : tb_chk 177 = true := by decide +kernel
theorem cw_177 : tb_cdw 177 1412 = true := by decide +kernel
theorem ck_178 : tb_chk 178 = true := by decide +kernel
theorem cw_178 : tb_cdw 178 1416 = true := by decide +kernel
theorem ck_179 : tb_chk 179 = true := by decide +kernel
theorem cw_179 : tb_cdw 179 1421 = true := by decide +kernel
theorem ck_180 : tb_chk 180 = true := by decide +kernel
theorem cw_180 : tb_cdw 180 1425 = true := by decide +kernel
theorem ck_181 : tb_chk 181 = true := by decide +kernel
theorem cw_181 : tb_cdw 181 1432 = true := by decide +kernel
theorem ck_182 : tb_chk 182 = true := by decide +kernel
theorem cw_182 : tb_cdw 182 1436 = true := by decide +kernel
theorem ck_183 : tb_chk 183 = true := by decide +kernel
theorem cw_183 : tb_cdw 183 1440 = true := by decide +kernel
theorem ck_184 : tb_chk 184 = true := by decide +kernel
theorem cw_184 : tb_cdw 184 1444 = true := by decide +kernel
theorem ck_185 : tb_chk 185 = true := by decide +kernel
theorem cw_185 : tb_cdw 185 1448 = true := by decide +kernel
theorem ck_186 : tb_chk 186 = true := by decide +kernel
theorem cw_186 : tb_cdw 186 1452 = true := by decide +kernel
theorem ck_187 : tb_chk 187 = true := by decide +kernel
theorem cw_187 : tb_cdw 187 1456 = true := by decide +kernel
theorem ck_188 : tb_chk 188 = true := by decide +kernel
theorem cw_188 : tb_cdw 188 1459 = true := by decide +kernel
theorem ck_189 : tb_chk 189 = true := by decide +kernel
theorem cw_189 : tb_cdw 189 1463 = true := by decide +kernel
theorem ck_190 : tb_chk 190 = true := by decide +kernel
theorem cw_190 : tb_cdw 190 1467 = true := by decide +kernel
