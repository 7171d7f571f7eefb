theorem ck_277 : tb_chk 277 = true := by decide +kernel
theorem cw_277 : tb_cdw 277 1832 = true := by decide +kernel
theorem ck_278 : tb_chk 278 = true := by decide +kernel
theorem cw_278 : tb_cdw 278 1836 = true := by decide +kernel
theorem ck_279 : tb_chk 279 = true := by decide +kernel
theorem cw_279 : tb_cdw 279 1840 = true := by decide +kernel
theorem ck_280 : tb_chk 280 = true := by decide +kernel
theorem cw_280 : tb_cdw 280 1844 = true := by decide +kernel
theorem ck_281 : tb_chk 281 = true := by decide +kernel
theorem cw_281 : tb_cdw 281 1849 = true := by decide +kernel
theorem ck_282 : tb_chk 282 = true := by decide +kernel
theorem cw_282 : tb_cdw 282 1853 = true := by decide +kernel
theorem ck_283 : tb_chk 283 = true := by decide +kernel
theorem cw_283 : tb_cdw 283 1857 = true := by decide +kernel
theorem ck_284 : tb_chk 284 = true := by decide +kernel
theorem cw_284 : tb_cdw 284 1862 = true := by decide +kernel
theorem ck_285 : tb_chk 285 = true := by decide +kernel
theorem cw_285 : tb_cdw 285 1866 = true := by decide +kernel
theorem ck_286 : tb_chk 286 = true := by decide +kernel
theorem cw_286 : tb_cdw 286 1871 = true := by decide +kernel
theorem ck_287 : tb_chk 287 = true := by decide +kernel
theorem cw_287 : tb_cdw 287 1875 = true := by decide +kernel
theorem ck_288 : tb_chk 288 = true := by decide +kernel
theorem cw_288 : tb_cdw 288 1879 = true := by decide +kernel
theorem ck_289 : tb_chk 289 = true := by decide +kernel
theorem cw_289 : tb_cdw 289 1883 = true := by decide +kernel
theorem ck_290 : tb_chk 290 = true := by decide +kernel
theorem cw_290 : tb_cdw 290 1887 = true := by decide +kernel
theorem ck_291 : tb_chk 291 = true := by decide +kernel
theorem cw_291 : tb_cdw 291 1891 = true := by decide +kernel
theorem ck_292 : tb_chk 292 = true := by decide +kernel
theorem cw_292 : tb_cdw 292 1895 = true := by decide +kernel
theorem ck_293 : tb_chk 293 = true := by decide +kernel
theorem cw_293 : tb_cdw 293 1899 = true := by decide +kernel
theorem ck_294 : tb_chk 294 = true := by decide +kernel
theorem cw_294 : tb_cdw 294 1903 = true := by decide +kernel
theorem ck_295 : tb_chk 295 = true := by decide +kernel
theorem cw_295 : tb_cdw 295 1908 = true := by decide +kernel
theorem ck_296 : tb_chk 296 = true := by decide +kernel
theorem cw_296 : tb_cdw 296 1916 = true := by decide +kernel
theorem ck_297 : tb_chk 297 = true := by decide +kernel
theorem cw_297 : tb_cdw 297 1920 = true := by decide +kernel
theorem ck_298 : tb_chk 298 = true := by decide +kernel
theorem cw_298 : tb_cdw 298 1924 = true := by decide +kernel
theorem ce_299_0 : tb_okL tb_mi tb_sc tb_ns (tb_P.1 299) 299 (0 + 25 * 0) (((tb_P.1 299).drop (25 * 0)).take 25) = true := by decide +kernel
theorem ce_299_1 : tb_okL tb_mi tb_sc tb_ns (tb_P.1 299) 299 (0 + 25 * 1) (((tb_P.1 299).drop (25 * 1)).take 25) = true := by decide +kernel
theorem ce_299_2 : tb_okL tb_mi tb_sc tb_ns (tb_P.1 299) 299 (0 + 25 * 2) (((tb_P.1 299).drop (25 * 2)).take 25) = true := by decide +kernel
theorem ce_299_3 : tb_okL tb_mi tb_sc tb_ns (tb_P.1 299) 299 (0 + 25 * 3) (((tb_P.1 299).drop (25 * 3)).take 25) = true := by decide +kernel
theorem ce_299_4 : tb_okL tb_mi tb_sc tb_ns (tb_P.1 299) 299 (0 + 25 * 4) (((tb_P.1 299).drop (25 * 4)).take 25) = true := by decide +kernel
theorem ce_299_5 : tb_okL tb_mi tb_sc tb_ns (tb_P.1 299) 299 (0 + 25 * 5) (((tb_P.1 299).drop (25 * 5)).take 25) = true := by decide +kernel
theorem ce_299_6 : tb_okL tb_mi tb_sc tb_ns (tb_P.1 299) 299 (0 + 25 * 6) (((tb_P.1 299).drop (25 * 6)).take 25) = true := by decide +kernel
theorem ce_299_7 : tb_okL tb_mi tb_sc tb_ns (tb_P.1 299) 299 (0 + 25 * 7) (((tb_P.1 299).drop (25 * 7)).take 25) = true := by decide +kernel
theorem ce_299_8 : tb_okL tb_mi tb_sc tb_ns (tb_P.1 299) 299 (0 + 25 * 8) (((tb_P.1 299).drop (25 * 8)).take 25) = true := by decide +kernel
theorem ce_299_9 : tb_okL tb_mi tb_sc tb_ns (tb_P.1 299) 299 (0 + 25 * 9) (((tb_P.1 299).drop (25 * 9)).take 25) = true := by decide +kernel
theorem ce_299_10 : tb_okL tb_mi tb_sc tb_ns (tb_P.1 299) 299 (0 + 25 * 10) (((tb_P.1 299).drop (25 * 10)).take 25) = true := by decide +kernel
theorem ce_299_11 : tb_okL tb_mi tb_sc tb_ns (tb_P.1 299) 299 (0 + 25 * 11) (((tb_P.1 299).drop (25 * 11)).take 25) = true := by decide +kernel
theorem ce_299_12 : tb_okL tb_mi tb_sc tb_ns (tb_P.1 299) 299 (0 + 25 * 12) (((tb_P.1 299).drop (25 * 12)).take 25) = true := by decide +kernel
theorem ce_299_13 : tb_okL tb_mi tb_sc tb_ns (tb_P.1 299) 299 (0 + 25 * 13) (((tb_P.1 299).drop (25 * 13)).take 25) = true := by decide +kernel
theorem ce_299_14 : tb_okL tb_mi tb_sc tb_ns (tb_P.1 299) 299 (0 + 25 * 14) (((tb_P.1 299).drop (25 * 14)).take 25) = true := by decide +kernel
theorem ce_299_15 : tb_okL tb_mi tb_sc tb_ns (tb_P.1 299) 299 (0 + 25 * 15) (((tb_P.1 299).drop (25 * 15)).take 25) = true := by decide +kernel
theorem ce_299_16 : tb_okL tb_mi tb_sc tb_ns (tb_P.1 299) 299 (0 + 25 * 16) (((tb_P.1 299).drop (25 * 16)).take 25) = true := by decide +kernel
theorem ce_299_17 : tb_okL tb_mi tb_sc tb_ns (tb_P.1 299) 299 (0 + 25 * 17) (((tb_P.1 299).drop (25 * 17)).take 25) = true := by decide +kernel
theorem ce_299_18 : tb_okL tb_mi tb_sc tb_ns (tb_P.1 299) 299 (0 + 25 * 18) (((tb_P.1 299).drop (25 * 18)).take 25) = true := by decide +kernel
theorem ce_299_19 : tb_okL tb_mi tb_sc tb_ns (tb_P.1 299) 299 (0 + 25 * 19) (((tb_P.1 299).drop (25 * 19)).take 25) = true := by decide +kernel
theorem ce_299_20 : tb_okL tb_mi tb_sc tb_ns (tb_P.1 299) 299 (0 + 25 * 20) (((tb_P.1 299).drop (25 * 20)).take 25) = true := by decide +kernel
theorem ce_299_21 : tb_okL tb_mi tb_sc tb_ns (tb_P.1 299) 299 (0 + 25 * 21) (((tb_P.1 299).drop (25 * 21)).take 25) = true := by decide +kernel
theorem ce_299_22 : tb_okL tb_mi tb_sc tb_ns (tb_P.1 299) 299 (0 + 25 * 22) (((tb_P.1 299).drop (25 * 22)).take 25) = true := by decide +kernel
theorem ce_299_23 : tb_okL tb_mi tb_sc tb_ns (tb_P.1 299) 299 (0 + 25 * 23) (((tb_P.1 299).drop (25 * 23)).take 25) = true := by decide +kernel
theorem ce_299_24 : tb_okL tb_mi tb_sc tb_ns (tb_P.1 299) 299 (0 + 25 * 24) (((tb_P.1 299).drop (25 * 24)).take 25) = true := by decide +kernel
theorem ce_299_25 : tb_okL tb_mi tb_sc tb_ns (tb_P.1 299) 299 (0 + 25 * 25) (((tb_P.1 299).drop (25 * 25)).take 25) = true := by decide +kernel
theorem ce_299_26 : tb_okL tb_mi tb_sc tb_ns (tb_P.1 299) 299 (0 + 25 * 26) (((tb_P.1 299).drop (25 * 26)).take 25) = true := by decide +kernel
theorem ce_299_27 : tb_okL tb_mi tb_sc tb_ns (tb_P.1 299) 299 (0 + 25 * 27) (((tb_P.1 299).drop (25 * 27)).take 25) = true := by decide +kernel
theorem ce_299_28 : tb_okL tb_mi tb_sc tb_ns (tb_P.1 299) 299 (0 + 25 * 28) (((tb_P.1 299).drop (25 * 28)).take 25) = true := by decide +kernel
theorem ce_299_29 : tb_okL tb_mi tb_sc tb_ns (tb_P.1 299) 299 (0 + 25 * 29) (((tb_P.1 299).drop (25 * 29)).take 25) = true := by decide +kernel
theorem ce_299_30 : tb_okL tb_mi tb_sc tb_ns (tb_P.1 299) 299 (0 + 25 * 30) (((tb_P.1 299).drop (25 * 30)).take 25) = true := by decide +kernel
theorem ce_299_31 : tb_okL tb_mi tb_sc tb_ns (tb_P.1 299) 299 (0 + 25 * 31) (((tb_P.1 299).drop (25 * 31)).take 25) = true := by decide +kernel
theorem ce_299_32 : tb_okL tb_mi tb_sc tb_ns (tb_P.1 299) 299 (0 + 25 * 32) (((tb_P.1 299).drop (25 * 32)).take 25) = true := by decide +kernel
theorem ce_299_33 : tb_okL tb_mi tb_sc tb_ns (tb_P.1 299) 299 (0 + 25 * 33) (((tb_P.1 299).drop (25 * 33)).take 25) = true := by decide +kernel
theorem ce_299_34 : tb_okL tb_mi tb_sc tb_ns (tb_P.1 299) 299 (0 + 25 * 34) (((tb_P.1 299).drop (25 * 34)).take 25) = true := by decide +kernel
theorem ce_299_35 : tb_okL tb_mi tb_sc tb_ns (tb_P.1 299) 299 (0 + 25 * 35) (((tb_P.1 299).drop (25 * 35)).take 25) = true := by decide +kernel
theorem ce_299_36 : tb_okL tb_mi tb_sc tb_ns (tb_P.1 299) 299 (0 + 25 * 36) (((tb_P.1 299).drop (25 * 36)).take 25) = true := by decide +kernel
theorem cm_299 : tb_ckM 299 = true := by decide +kernel
theorem cn_299 : (tb_P.1 299).length ≤ 25 * 37 := by decide +kernel
theorem ck_299 : tb_chk 299 = true := by
  unfold tb_chk
  rw [Bool.and_eq_true]
  refine ⟨tb_okL_chunks 25 37 0 _ cn_299 (fun k hk => ?_), cm_299⟩
  match k, hk with
  | 0, _ => exact ce_299_0
  | 1, _ => exact ce_299_1
  | 2, _ => exact ce_299_2
  | 3, _ => exact ce_299_3
  | 4, _ => exact ce_299_4
  | 5, _ => exact ce_299_5
  | 6, _ => exact ce_299_6
  | 7, _ => exact ce_299_7
  | 8, _ => exact ce_299_8
  | 9, _ => exact ce_299_9
  | 10, _ => exact ce_299_10
  | 11, _ => exact ce_299_11
  | 12, _ => exact ce_299_12
  | 13, _ => exact ce_299_13
  | 14, _ => exact ce_299_14
  | 15, _ => exact ce_299_15
  | 16, _ => exact ce_299_16
  | 17, _ => exact ce_299_17
  | 18, _ => exact ce_299_18
  | 19, _ => exact ce_299_19
  | 20, _ => exact ce_299_20
  | 21, _ => exact ce_299_21
  | 22, _ => exact ce_299_22
  | 23, _ => exact ce_299_23
  | 24, _ => exact ce_299_24
  | 25, _ => exact ce_299_25
  | 26, _ => exact ce_299_26
  | 27, _ => exact ce_299_27
  | 28, _ => exact ce_299_28
  | 29, _ => exact ce_299_29
  | 30, _ => exact ce_299_30
  | 31, _ => exact ce_299_31
  | 32, _ => exact ce_299_32
  | 33, _ => exact ce_299_33
  | 34, _ => exact ce_299_34
  | 35, _ => exact ce_299_35
  | 36, _ => exact ce_299_36
  | n + 37, h => omega
