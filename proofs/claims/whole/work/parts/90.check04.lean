theorem ck_191 : tb_chk 191 = true := by decide +kernel
theorem cw_191 : tb_cdw 191 1471 = true := by decide +kernel
theorem ck_192 : tb_chk 192 = true := by decide +kernel
theorem cw_192 : tb_cdw 192 1475 = true := by decide +kernel
theorem ck_193 : tb_chk 193 = true := by decide +kernel
theorem cw_193 : tb_cdw 193 1479 = true := by decide +kernel
theorem ck_194 : tb_chk 194 = true := by decide +kernel
theorem cw_194 : tb_cdw 194 1483 = true := by decide +kernel
theorem ck_195 : tb_chk 195 = true := by decide +kernel
theorem cw_195 : tb_cdw 195 1488 = true := by decide +kernel
theorem ck_196 : tb_chk 196 = true := by decide +kernel
theorem cw_196 : tb_cdw 196 1492 = true := by decide +kernel
theorem ck_197 : tb_chk 197 = true := by decide +kernel
theorem cw_197 : tb_cdw 197 1496 = true := by decide +kernel
theorem ck_198 : tb_chk 198 = true := by decide +kernel
theorem cw_198 : tb_cdw 198 1512 = true := by decide +kernel
theorem ck_199 : tb_chk 199 = true := by decide +kernel
theorem cw_199 : tb_cdw 199 1516 = true := by decide +kernel
theorem ck_200 : tb_chk 200 = true := by decide +kernel
theorem cw_200 : tb_cdw 200 1520 = true := by decide +kernel
theorem ck_201 : tb_chk 201 = true := by decide +kernel
theorem cw_201 : tb_cdw 201 1525 = true := by decide +kernel
theorem ck_202 : tb_chk 202 = true := by decide +kernel
theorem cw_202 : tb_cdw 202 1529 = true := by decide +kernel
theorem ck_203 : tb_chk 203 = true := by decide +kernel
theorem cw_203 : tb_cdw 203 1533 = true := by decide +kernel
theorem ck_204 : tb_chk 204 = true := by decide +kernel
theorem cw_204 : tb_cdw 204 1537 = true := by decide +kernel
theorem ck_205 : tb_chk 205 = true := by decide +kernel
theorem cw_205 : tb_cdw 205 1540 = true := by decide +kernel
theorem ck_206 : tb_chk 206 = true := by decide +kernel
theorem cw_206 : tb_cdw 206 1544 = true := by decide +kernel
theorem ck_207 : tb_chk 207 = true := by decide +kernel
theorem cw_207 : tb_cdw 207 1550 = true := by decide +kernel
theorem ck_208 : tb_chk 208 = true := by decide +kernel
theorem cw_208 : tb_cdw 208 1554 = true := by decide +kernel
theorem ck_209 : tb_chk 209 = true := by decide +kernel
theorem cw_209 : tb_cdw 209 1558 = true := by decide +kernel
theorem ck_210 : tb_chk 210 = true := by decide +kernel
theorem cw_210 : tb_cdw 210 1562 = true := by decide +kernel
theorem ck_211 : tb_chk 211 = true := by decide +kernel
theorem cw_211 : tb_cdw 211 1566 = true := by decide +kernel
theorem ck_212 : tb_chk 212 = true := by decide +kernel
theorem cw_212 : tb_cdw 212 1570 = true := by decide +kernel
theorem ck_213 : tb_chk 213 = true := by decide +kernel
theorem cw_213 : tb_cdw 213 1574 = true := by decide +kernel
theorem ck_214 : tb_chk 214 = true := by decide +kernel
theorem cw_214 : tb_cdw 214 1578 = true := by decide +kernel
theorem ck_215 : tb_chk 215 = true := by decide +kernel
theorem cw_215 : tb_cdw 215 1582 = true := by decide +kernel
theorem ck_216 : tb_chk 216 = true := by decide +kernel
theorem cw_216 : tb_cdw 216 1586 = true := by decide +kernel
theorem ck_217 : tb_chk 217 = true := by decide +kernel
theorem cw_217 : tb_cdw 217 1590 = true := by decide +kernel
theorem ck_218 : tb_chk 218 = true := by decide +kernel
theorem cw_218 : tb_cdw 218 1594 = true := by decide +kernel
theorem ck_219 : tb_chk 219 = true := by decide +kernel
theorem cw_219 : tb_cdw 219 1598 = true := by decide +kernel
theorem ck_220 : tb_chk 220 = true := by decide +kernel
theorem cw_220 : tb_cdw 220 1602 = true := by decide +kernel
theorem ck_221 : tb_chk 221 = true := by decide +kernel
theorem cw_221 : tb_cdw 221 1606 = true := by decide +kernel
theorem ck_222 : tb_chk 222 = true := by decide +kernel
theorem cw_222 : tb_cdw 222 1611 = true := by decide +kernel
theorem ck_223 : tb_chk 223 = true := by decide +kernel
theorem cw_223 : tb_cdw 223 1615 = true := by decide +kernel
theorem ck_224 : tb_chk 224 = true := by decide +kernel
theorem cw_224 : tb_cdw 224 1619 = true := by decide +kernel
theorem ck_225 : tb_chk 225 = true := by decide +kernel
theorem cw_225 : tb_cdw 225 1623 = true := by decide +kernel
theorem ck_226 : tb_chk 226 = true := by decide +kernel
theorem cw_226 : tb_cdw 226 1627 = true := by decide +kernel
theorem ck_227 : tb_chk 227 = true := by decide +kernel
theorem cw_227 : tb_cdw 227 1631 = true := by decide +kernel
theorem ck_228 : tb_chk 228 = true := by decide +kernel
theorem cw_228 : tb_cdw 228 1635 = true := by decide +kernel
theorem ck_229 : tb_chk 229 = true := by decide +kernel
theorem cw_229 : tb_cdw 229 1639 = true := by decide +kernel
theorem ck_230 : tb_chk 230 = true := by decide +kernel
theorem cw_230 : tb_cdw 230 1643 = true := by decide +kernel
