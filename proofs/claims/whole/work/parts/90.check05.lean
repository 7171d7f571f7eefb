theorem ck_231 : tb_chk 231 = true := by decide +kernel
theorem cw_231 : tb_cdw 231 1646 = true := by decide +kernel
theorem ck_232 : tb_chk 232 = true := by decide +kernel
theorem cw_232 : tb_cdw 232 1650 = true := by decide +kernel
theorem ck_233 : tb_chk 233 = true := by decide +kernel
theorem cw_233 : tb_cdw 233 1654 = true := by decide +kernel
theorem ck_234 : tb_chk 234 = true := by decide +kernel
theorem cw_234 : tb_cdw 234 1658 = true := by decide +kernel
theorem ck_235 : tb_chk 235 = true := by decide +kernel
theorem cw_235 : tb_cdw 235 1662 = true := by decide +kernel
theorem ck_236 : tb_chk 236 = true := by decide +kernel
theorem cw_236 : tb_cdw 236 1666 = true := by decide +kernel
theorem ck_237 : tb_chk 237 = true := by decide +kernel
theorem cw_237 : tb_cdw 237 1670 = true := by decide +kernel
theorem ck_238 : tb_chk 238 = true := by decide +kernel
theorem cw_238 : tb_cdw 238 1673 = true := by decide +kernel
theorem ck_239 : tb_chk 239 = true := by decide +kernel
theorem cw_239 : tb_cdw 239 1677 = true := by decide +kernel
theorem ck_240 : tb_chk 240 = true := by decide +kernel
theorem cw_240 : tb_cdw 240 1680 = true := by decide +kernel
theorem ck_241 : tb_chk 241 = true := by decide +kernel
theorem cw_241 : tb_cdw 241 1684 = true := by decide +kernel
theorem ck_242 : tb_chk 242 = true := by decide +kernel
theorem cw_242 : tb_cdw 242 1688 = true := by decide +kernel
theorem ck_243 : tb_chk 243 = true := by decide +kernel
theorem cw_243 : tb_cdw 243 1692 = true := by decide +kernel
theorem ck_244 : tb_chk 244 = true := by decide +kernel
theorem cw_244 : tb_cdw 244 1696 = true := by decide +kernel
theorem ck_245 : tb_chk 245 = true := by decide +kernel
theorem cw_245 : tb_cdw 245 1700 = true := by decide +kernel
theorem ck_246 : tb_chk 246 = true := by decide +kernel
theorem cw_246 : tb_cdw 246 1704 = true := by decide +kernel
theorem ck_247 : tb_chk 247 = true := by decide +kernel
theorem cw_247 : tb_cdw 247 1709 = true := by decide +kernel
theorem ck_248 : tb_chk 248 = true := by decide +kernel
theorem cw_248 : tb_cdw 248 1713 = true := by decide +kernel
theorem ck_249 : tb_chk 249 = true := by decide +kernel
theorem cw_249 : tb_cdw 249 1717 = true := by decide +kernel
theorem ck_250 : tb_chk 250 = true := by decide +kernel
theorem cw_250 : tb_cdw 250 1722 = true := by decide +kernel
theorem ck_251 : tb_chk 251 = true := by decide +kernel
theorem cw_251 : tb_cdw 251 1726 = true := by decide +kernel
theorem ck_252 : tb_chk 252 = true := by decide +kernel
theorem cw_252 : tb_cdw 252 1730 = true := by decide +kernel
theorem ck_253 : tb_chk 253 = true := by decide +kernel
theorem cw_253 : tb_cdw 253 1736 = true := by decide +kernel
theorem ck_254 : tb_chk 254 = true := by decide +kernel
theorem cw_254 : tb_cdw 254 1740 = true := by decide +kernel
theorem ck_255 : tb_chk 255 = true := by decide +kernel
theorem cw_255 : tb_cdw 255 1744 = true := by decide +kernel
theorem ck_256 : tb_chk 256 = true := by decide +kernel
theorem cw_256 : tb_cdw 256 1748 = true := by decide +kernel
theorem ck_257 : tb_chk 257 = true := by decide +kernel
theorem cw_257 : tb_cdw 257 1752 = true := by decide +kernel
theorem ck_258 : tb_chk 258 = true := by decide +kernel
theorem cw_258 : tb_cdw 258 1755 = true := by decide +kernel
theorem ck_259 : tb_chk 259 = true := by decide +kernel
theorem cw_259 : tb_cdw 259 1759 = true := by decide +kernel
theorem ck_260 : tb_chk 260 = true := by decide +kernel
theorem cw_260 : tb_cdw 260 1763 = true := by decide +kernel
theorem ck_261 : tb_chk 261 = true := by decide +kernel
theorem cw_261 : tb_cdw 261 1767 = true := by decide +kernel
theorem ck_262 : tb_chk 262 = true := by decide +kernel
theorem cw_262 : tb_cdw 262 1771 = true := by decide +kernel
theorem ck_263 : tb_chk 263 = true := by decide +kernel
theorem cw_263 : tb_cdw 263 1775 = true := by decide +kernel
theorem ck_264 : tb_chk 264 = true := by decide +kernel
theorem cw_264 : tb_cdw 264 1779 = true := by decide +kernel
theorem ck_265 : tb_chk 265 = true := by decide +kernel
theorem cw_265 : tb_cdw 265 1782 = true := by decide +kernel
theorem ck_266 : tb_chk 266 = true := by decide +kernel
theorem cw_266 : tb_cdw 266 1786 = true := by decide +kernel
theorem ck_267 : tb_chk 267 = true := by decide +kernel
theorem cw_267 : tb_cdw 267 1790 = true := by decide +kernel
theorem ck_268 : tb_chk 268 = true := by decide +kernel
theorem cw_268 : tb_cdw 268 1794 = true := by decide +kernel
theorem ck_269 : tb_chk 269 = true := by decide +kernel
theorem cw_269 : tb_cdw 269 1798 = true := by decide +kernel
theorem ck_270 : tb_chk 270 = true := by decide +kernel
theorem cw_270 : tb_cdw 270 1802 = true := by decide +kernel
theorem ck_271 : tb_chk 271 = true := by decide +kernel
theorem cw_271 : tb_cdw 271 1806 = true := by decide +kernel
theorem ck_272 : tb_chk 272 = true := by decide +kernel
theorem cw_272 : tb_cdw 272 1810 = true := by decide +kernel
theorem ck_273 : tb_chk 273 = true := by decide +kernel
theorem cw_273 : tb_cdw 273 1814 = true := by decide +kernel
theorem ck_274 : tb_chk 274 = true := by decide +kernel
theorem cw_274 : tb_cdw 274 1820 = true := by decide +kernel
theorem ck_275 : tb_chk 275 = true := by decide +kernel
theorem cw_275 : tb_cdw 275 1824 = true := by decide +kernel
theorem ck_276 : tb_chk 276 = true := by decide +kernel
theorem cw_276 : tb_cdw 276 1828 = true := by decide +kernel
