theorem ck_147 : tb_chk 147 = true := by decide +kernel
theorem cw_147 : tb_cdw 147 1167 = true := by decide +kernel
theorem ck_148 : tb_chk 148 = true := by decide +kernel
theorem cw_148 : tb_cdw 148 1171 = true := by decide +kernel
theorem ck_149 : tb_chk 149 = true := by decide +kernel
theorem cw_149 : tb_cdw 149 1175 = true := by decide +kernel
theorem ck_150 : tb_chk 150 = true := by decide +kernel
theorem cw_150 : tb_cdw 150 1178 = true := by decide +kernel
theorem ck_151 : tb_chk 151 = true := by decide +kernel
theorem cw_151 : tb_cdw 151 1182 = true := by decide +kernel
theorem ck_152 : tb_chk 152 = true := by decide +kernel
theorem cw_152 : tb_cdw 152 1187 = true := by decide +kernel
theorem ck_153 : tb_chk 153 = true := by decide +kernel
theorem cw_153 : tb_cdw 153 1191 = true := by decide +kernel
theorem ck_154 : tb_chk 154 = true := by decide +kernel
theorem cw_154 : tb_cdw 154 1195 = true := by decide +kernel
theorem ck_155 : tb_chk 155 = true := by decide +kernel
theorem cw_155 : tb_cdw 155 1199 = true := by decide +kernel
theorem ck_156 : tb_chk 156 = true := by decide +kernel
theorem cw_156 : tb_cdw 156 1205 = true := by decide +kernel
theorem ck_157 : tb_chk 157 = true := by decide +kernel
theorem cw_157 : tb_cdw 157 1210 = true := by decide +kernel
theorem ck_158 : tb_chk 158 = true := by decide +kernel
theorem cw_158 : tb_cdw 158 1214 = true := by decide +kernel
theorem ck_159 : tb_chk 159 = true := by decide +kernel
theorem cw_159 : tb_cdw 159 1218 = true := by decide +kernel
theorem ck_160 : tb_chk 160 = true := by decide +kernel
theorem cw_160 : tb_cdw 160 1224 = true := by decide +kernel
theorem ck_161 : tb_chk 161 = true := by decide +kernel
theorem cw_161 : tb_cdw 161 1228 = true := by decide +kernel
theorem ck_162 : tb_chk 162 = true := by decide +kernel
theorem cw_162 : tb_cdw 162 1232 = true := by decide +kernel
theorem ck_163 : tb_chk 163 = true := by decide +kernel
theorem cw_163 : tb_cdw 163 1236 = true := by decide +kernel
theorem ck_164 : tb_chk 164 = true := by decide +kernel
theorem cw_164 : tb_cdw 164 1240 = true := by decide +kernel
theorem ck_165 : tb_chk 165 = true := by decide +kernel
theorem cw_165 : tb_cdw 165 1250 = true := by decide +kernel
theorem ck_166 : tb_chk 166 = true := by decide +kernel
theorem cw_166 : tb_cdw 166 1254 = true := by decide +kernel
theorem ck_167 : tb_chk 167 = true := by decide +kernel
theorem cw_167 : tb_cdw 167 1258 = true := by decide +kernel
theorem ck_168 : tb_chk 168 = true := by decide +kernel
theorem cw_168 : tb_cdw 168 1262 = true := by decide +kernel
theorem ck_169 : tb_chk 169 = true := by decide +kernel
theorem cw_169 : tb_cdw 169 1267 = true := by decide +kernel
theorem ck_170 : tb_chk 170 = true := by decide +kernel
theorem cw_170 : tb_cdw 170 1272 = true := by decide +kernel
theorem ck_171 : tb_chk 171 = true := by decide +kernel
theorem cw_171 : tb_cdw 171 1387 = true := by decide +kernel
theorem ck_172 : tb_chk 172 = true := by decide +kernel
theorem cw_172 : tb_cdw 172 1391 = true := by decide +kernel
theorem ck_173 : tb_chk 173 = true := by decide +kernel
theorem cw_173 : tb_cdw 173 1395 = true := by decide +kernel
theorem ck_174 : tb_chk 174 = true := by decide +kernel
theorem cw_174 : tb_cdw 174 1399 = true := by decide +kernel
theorem ck_175 : tb_chk 175 = true := by decide +kernel
theorem cw_175 : tb_cdw 175 1403 = true := by decide +kernel
theorem ck_176 : tb_chk 176 = true := by decide +kernel
theorem cw_176 : tb_cdw 176 1407 = true := by decide +kernel
theorem ck_177 : tb_chk 177 = true := by decide +kernel
theorem cw_177 : tb_cdw 177 1411 = true := by decide +kernel
theorem ck_178 : tb_chk 178 = true := by decide +kernel
theorem cw_178 : tb_cdw 178 1415 = true := by decide +kernel
theorem ck_179 : tb_chk 179 = true := by decide +kernel
theorem cw_179 : tb_cdw 179 1420 = true := by decide +kernel
theorem ck_180 : tb_chk 180 = true := by decide +kernel
theorem cw_180 : tb_cdw 180 1424 = true := by decide +kernel
theorem ck_181 : tb_chk 181 = true := by decide +kernel
theorem cw_181 : tb_cdw 181 1431 = true := by decide +kernel
theorem ck_182 : tb_chk 182 = true := by decide +kernel
theorem cw_182 : tb_cdw 182 1435 = true := by decide +kernel
theorem ck_183 : tb_chk 183 = true := by decide +kernel
theorem cw_183 : tb_cdw 183 1439 = true := by decide +kernel
theorem ck_184 : tb_chk 184 = true := by decide +kernel
theorem cw_184 : tb_cdw 184 1443 = true := by decide +kernel
theorem ck_185 : tb_chk 185 = true := by decide +kernel
theorem cw_185 : tb_cdw 185 1447 = true := by decide +kernel
theorem ck_186 : tb_chk 186 = true := by decide +kernel
theorem cw_186 : tb_cdw 186 1451 = true := by decide +kernel
theorem ck_187 : tb_chk 187 = true := by decide +kernel
theorem cw_187 : tb_cdw 187 1455 = true := by decide +kernel
theorem ck_188 : tb_chk 188 = true := by decide +kernel
theorem cw_188 : tb_cdw 188 1458 = true := by decide +kernel
theorem ck_189 : tb_chk 189 = true := by decide +kernel
theorem cw_189 : tb_cdw 189 1462 = true := by decide +kernel
theorem ck_190 : tb_chk 190 = true := by decide +kernel
theorem cw_190 : tb_cdw 190 1466 = true := by decide +kernel
