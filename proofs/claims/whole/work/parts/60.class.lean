/-! ===== The class at place 1: its shapes ===== -/
def pu_XS : List (Nat × Nat) := [(21, 12), (19, 10), (1, 400), (1, 401), (1, 401), (1, 401), (18, 2), (17, 12), (1, 10), (1, 10), (1, 8), (1, 8), (1, 8), (1, 10), (14, 4), (1, 400), (4, 6), (15, 5), (17, 12), (1, 10), (1, 10), (1, 8), (1, 8), (1, 8), (1, 10), (17, 12), (1, 10), (1, 10), (1, 8), (1, 8), (1, 8), (1, 10), (12, 4), (1, 10), (1, 10), (1, 10), (5, 4), (13, 3), (6, 20), (11, 2), (2, 64), (10, 3), (17, 12), (1, 10), (1, 10), (1, 8), (1, 8), (1, 8), (1, 10), (1, 192), (1, 5), (20, 8), (17, 12), (1, 10), (1, 10), (1, 8), (1, 8), (1, 8), (1, 10), (1, 8), (16, 5), (17, 12), (1, 10), (1, 10), (1, 8), (1, 8), (1, 8), (1, 10), (1, 10)]
def pu_XR : List ((Nat × Nat) × Nat) := [((1, 0), 2), ((1, 1), 7), ((1, 2), 15), ((1, 3), 17), ((1, 5), 18), ((1, 6), 37), ((1, 7), 38), ((1, 8), 40), ((1, 9), 42), ((1, 10), 52), ((1, 11), 61), ((2, 4), 3), ((2, 5), 4), ((2, 6), 5), ((2, 7), 6), ((7, 0), 8), ((7, 1), 2), ((8, 6), 9), ((8, 7), 10), ((8, 8), 11), ((8, 9), 12), ((8, 10), 13), ((8, 11), 14), ((15, 0), 2), ((15, 1), 16), ((18, 0), 19), ((18, 1), 26), ((18, 2), 33), ((19, 6), 20), ((19, 7), 21), ((19, 8), 22), ((19, 9), 23), ((19, 10), 24), ((19, 11), 25), ((26, 6), 27), ((26, 7), 28), ((26, 8), 29), ((26, 9), 30), ((26, 10), 31), ((26, 11), 32), ((33, 1), 34), ((33, 2), 35), ((33, 3), 36), ((38, 2), 39), ((40, 0), 41), ((42, 0), 43), ((42, 1), 50), ((42, 2), 51), ((43, 6), 44), ((43, 7), 45), ((43, 8), 46), ((43, 9), 47), ((43, 10), 48), ((43, 11), 49), ((52, 0), 53), ((52, 5), 40), ((52, 6), 60), ((53, 6), 54), ((53, 7), 55), ((53, 8), 56), ((53, 9), 57), ((53, 10), 58), ((53, 11), 59), ((61, 2), 40), ((61, 3), 62), ((61, 4), 69), ((62, 6), 63), ((62, 7), 64), ((62, 8), 65), ((62, 9), 66), ((62, 10), 67), ((62, 11), 68)]
def pu_X (s : List (Nat × Nat)) (R : Nat → Nat → Option Nat) : Prop := (∀ k, k < 69 → s[k + 1]? = pu_XS[k]?) ∧ (∀ q, q ∈ pu_XR → R q.1.1 q.1.2 = some q.2)
section PUM
variable {s : List (Nat × Nat)} {R : Nat → Nat → Option Nat}
theorem pu_c1 (h : pu_X s R) : s[1]? = some (21, 12) := h.1 0 (by decide)
theorem pu_c2 (h : pu_X s R) : s[2]? = some (19, 10) := h.1 1 (by decide)
theorem pu_c3 (h : pu_X s R) : s[3]? = some (1, 400) := h.1 2 (by decide)
theorem pu_c4 (h : pu_X s R) : s[4]? = some (1, 401) := h.1 3 (by decide)
theorem pu_c5 (h : pu_X s R) : s[5]? = some (1, 401) := h.1 4 (by decide)
theorem pu_c6 (h : pu_X s R) : s[6]? = some (1, 401) := h.1 5 (by decide)
theorem pu_c7 (h : pu_X s R) : s[7]? = some (18, 2) := h.1 6 (by decide)
theorem pu_c8 (h : pu_X s R) : s[8]? = some (17, 12) := h.1 7 (by decide)
theorem pu_c9 (h : pu_X s R) : s[9]? = some (1, 10) := h.1 8 (by decide)
theorem pu_c10 (h : pu_X s R) : s[10]? = some (1, 10) := h.1 9 (by decide)
theorem pu_c11 (h : pu_X s R) : s[11]? = some (1, 8) := h.1 10 (by decide)
theorem pu_c12 (h : pu_X s R) : s[12]? = some (1, 8) := h.1 11 (by decide)
theorem pu_c13 (h : pu_X s R) : s[13]? = some (1, 8) := h.1 12 (by decide)
theorem pu_c14 (h : pu_X s R) : s[14]? = some (1, 10) := h.1 13 (by decide)
theorem pu_c15 (h : pu_X s R) : s[15]? = some (14, 4) := h.1 14 (by decide)
theorem pu_c16 (h : pu_X s R) : s[16]? = some (1, 400) := h.1 15 (by decide)
theorem pu_c17 (h : pu_X s R) : s[17]? = some (4, 6) := h.1 16 (by decide)
theorem pu_c18 (h : pu_X s R) : s[18]? = some (15, 5) := h.1 17 (by decide)
theorem pu_c19 (h : pu_X s R) : s[19]? = some (17, 12) := h.1 18 (by decide)
theorem pu_c20 (h : pu_X s R) : s[20]? = some (1, 10) := h.1 19 (by decide)
theorem pu_c21 (h : pu_X s R) : s[21]? = some (1, 10) := h.1 20 (by decide)
theorem pu_c22 (h : pu_X s R) : s[22]? = some (1, 8) := h.1 21 (by decide)
theorem pu_c23 (h : pu_X s R) : s[23]? = some (1, 8) := h.1 22 (by decide)
theorem pu_c24 (h : pu_X s R) : s[24]? = some (1, 8) := h.1 23 (by decide)
theorem pu_c25 (h : pu_X s R) : s[25]? = some (1, 10) := h.1 24 (by decide)
theorem pu_c26 (h : pu_X s R) : s[26]? = some (17, 12) := h.1 25 (by decide)
theorem pu_c27 (h : pu_X s R) : s[27]? = some (1, 10) := h.1 26 (by decide)
theorem pu_c28 (h : pu_X s R) : s[28]? = some (1, 10) := h.1 27 (by decide)
theorem pu_c29 (h : pu_X s R) : s[29]? = some (1, 8) := h.1 28 (by decide)
theorem pu_c30 (h : pu_X s R) : s[30]? = some (1, 8) := h.1 29 (by decide)
theorem pu_c31 (h : pu_X s R) : s[31]? = some (1, 8) := h.1 30 (by decide)
theorem pu_c32 (h : pu_X s R) : s[32]? = some (1, 10) := h.1 31 (by decide)
theorem pu_c33 (h : pu_X s R) : s[33]? = some (12, 4) := h.1 32 (by decide)
theorem pu_c34 (h : pu_X s R) : s[34]? = some (1, 10) := h.1 33 (by decide)
theorem pu_c35 (h : pu_X s R) : s[35]? = some (1, 10) := h.1 34 (by decide)
theorem pu_c36 (h : pu_X s R) : s[36]? = some (1, 10) := h.1 35 (by decide)
theorem pu_c37 (h : pu_X s R) : s[37]? = some (5, 4) := h.1 36 (by decide)
theorem pu_c38 (h : pu_X s R) : s[38]? = some (13, 3) := h.1 37 (by decide)
theorem pu_c39 (h : pu_X s R) : s[39]? = some (6, 20) := h.1 38 (by decide)
theorem pu_c40 (h : pu_X s R) : s[40]? = some (11, 2) := h.1 39 (by decide)
theorem pu_c41 (h : pu_X s R) : s[41]? = some (2, 64) := h.1 40 (by decide)
theorem pu_c42 (h : pu_X s R) : s[42]? = some (10, 3) := h.1 41 (by decide)
theorem pu_c43 (h : pu_X s R) : s[43]? = some (17, 12) := h.1 42 (by decide)
theorem pu_c44 (h : pu_X s R) : s[44]? = some (1, 10) := h.1 43 (by decide)
theorem pu_c45 (h : pu_X s R) : s[45]? = some (1, 10) := h.1 44 (by decide)
theorem pu_c46 (h : pu_X s R) : s[46]? = some (1, 8) := h.1 45 (by decide)
theorem pu_c47 (h : pu_X s R) : s[47]? = some (1, 8) := h.1 46 (by decide)
theorem pu_c48 (h : pu_X s R) : s[48]? = some (1, 8) := h.1 47 (by decide)
theorem pu_c49 (h : pu_X s R) : s[49]? = some (1, 10) := h.1 48 (by decide)
theorem pu_c50 (h : pu_X s R) : s[50]? = some (1, 192) := h.1 49 (by decide)
theorem pu_c51 (h : pu_X s R) : s[51]? = some (1, 5) := h.1 50 (by decide)
theorem pu_c52 (h : pu_X s R) : s[52]? = some (20, 8) := h.1 51 (by decide)
theorem pu_c53 (h : pu_X s R) : s[53]? = some (17, 12) := h.1 52 (by decide)
theorem pu_c54 (h : pu_X s R) : s[54]? = some (1, 10) := h.1 53 (by decide)
theorem pu_c55 (h : pu_X s R) : s[55]? = some (1, 10) := h.1 54 (by decide)
theorem pu_c56 (h : pu_X s R) : s[56]? = some (1, 8) := h.1 55 (by decide)
theorem pu_c57 (h : pu_X s R) : s[57]? = some (1, 8) := h.1 56 (by decide)
theorem pu_c58 (h : pu_X s R) : s[58]? = some (1, 8) := h.1 57 (by decide)
theorem pu_c59 (h : pu_X s R) : s[59]? = some (1, 10) := h.1 58 (by decide)
theorem pu_c60 (h : pu_X s R) : s[60]? = some (1, 8) := h.1 59 (by decide)
theorem pu_c61 (h : pu_X s R) : s[61]? = some (16, 5) := h.1 60 (by decide)
theorem pu_c62 (h : pu_X s R) : s[62]? = some (17, 12) := h.1 61 (by decide)
theorem pu_c63 (h : pu_X s R) : s[63]? = some (1, 10) := h.1 62 (by decide)
theorem pu_c64 (h : pu_X s R) : s[64]? = some (1, 10) := h.1 63 (by decide)
theorem pu_c65 (h : pu_X s R) : s[65]? = some (1, 8) := h.1 64 (by decide)
theorem pu_c66 (h : pu_X s R) : s[66]? = some (1, 8) := h.1 65 (by decide)
theorem pu_c67 (h : pu_X s R) : s[67]? = some (1, 8) := h.1 66 (by decide)
theorem pu_c68 (h : pu_X s R) : s[68]? = some (1, 10) := h.1 67 (by decide)
theorem pu_c69 (h : pu_X s R) : s[69]? = some (1, 10) := h.1 68 (by decide)
theorem pu_f1_0 (h : pu_X s R) : R 1 0 = some 2 := h.2 ((1, 0), 2) (by decide)
theorem pu_f1_1 (h : pu_X s R) : R 1 1 = some 7 := h.2 ((1, 1), 7) (by decide)
theorem pu_f1_2 (h : pu_X s R) : R 1 2 = some 15 := h.2 ((1, 2), 15) (by decide)
theorem pu_f1_3 (h : pu_X s R) : R 1 3 = some 17 := h.2 ((1, 3), 17) (by decide)
theorem pu_f1_5 (h : pu_X s R) : R 1 5 = some 18 := h.2 ((1, 5), 18) (by decide)
theorem pu_f1_6 (h : pu_X s R) : R 1 6 = some 37 := h.2 ((1, 6), 37) (by decide)
theorem pu_f1_7 (h : pu_X s R) : R 1 7 = some 38 := h.2 ((1, 7), 38) (by decide)
theorem pu_f1_8 (h : pu_X s R) : R 1 8 = some 40 := h.2 ((1, 8), 40) (by decide)
theorem pu_f1_9 (h : pu_X s R) : R 1 9 = some 42 := h.2 ((1, 9), 42) (by decide)
theorem pu_f1_10 (h : pu_X s R) : R 1 10 = some 52 := h.2 ((1, 10), 52) (by decide)
theorem pu_f1_11 (h : pu_X s R) : R 1 11 = some 61 := h.2 ((1, 11), 61) (by decide)
theorem pu_f2_4 (h : pu_X s R) : R 2 4 = some 3 := h.2 ((2, 4), 3) (by decide)
theorem pu_f2_5 (h : pu_X s R) : R 2 5 = some 4 := h.2 ((2, 5), 4) (by decide)
theorem pu_f2_6 (h : pu_X s R) : R 2 6 = some 5 := h.2 ((2, 6), 5) (by decide)
theorem pu_f2_7 (h : pu_X s R) : R 2 7 = some 6 := h.2 ((2, 7), 6) (by decide)
theorem pu_f7_0 (h : pu_X s R) : R 7 0 = some 8 := h.2 ((7, 0), 8) (by decide)
theorem pu_f7_1 (h : pu_X s R) : R 7 1 = some 2 := h.2 ((7, 1), 2) (by decide)
theorem pu_f8_6 (h : pu_X s R) : R 8 6 = some 9 := h.2 ((8, 6), 9) (by decide)
theorem pu_f8_7 (h : pu_X s R) : R 8 7 = some 10 := h.2 ((8, 7), 10) (by decide)
theorem pu_f8_8 (h : pu_X s R) : R 8 8 = some 11 := h.2 ((8, 8), 11) (by decide)
theorem pu_f8_9 (h : pu_X s R) : R 8 9 = some 12 := h.2 ((8, 9), 12) (by decide)
theorem pu_f8_10 (h : pu_X s R) : R 8 10 = some 13 := h.2 ((8, 10), 13) (by decide)
theorem pu_f8_11 (h : pu_X s R) : R 8 11 = some 14 := h.2 ((8, 11), 14) (by decide)
theorem pu_f15_0 (h : pu_X s R) : R 15 0 = some 2 := h.2 ((15, 0), 2) (by decide)
theorem pu_f15_1 (h : pu_X s R) : R 15 1 = some 16 := h.2 ((15, 1), 16) (by decide)
theorem pu_f18_0 (h : pu_X s R) : R 18 0 = some 19 := h.2 ((18, 0), 19) (by decide)
theorem pu_f18_1 (h : pu_X s R) : R 18 1 = some 26 := h.2 ((18, 1), 26) (by decide)
theorem pu_f18_2 (h : pu_X s R) : R 18 2 = some 33 := h.2 ((18, 2), 33) (by decide)
theorem pu_f19_6 (h : pu_X s R) : R 19 6 = some 20 := h.2 ((19, 6), 20) (by decide)
theorem pu_f19_7 (h : pu_X s R) : R 19 7 = some 21 := h.2 ((19, 7), 21) (by decide)
theorem pu_f19_8 (h : pu_X s R) : R 19 8 = some 22 := h.2 ((19, 8), 22) (by decide)
theorem pu_f19_9 (h : pu_X s R) : R 19 9 = some 23 := h.2 ((19, 9), 23) (by decide)
theorem pu_f19_10 (h : pu_X s R) : R 19 10 = some 24 := h.2 ((19, 10), 24) (by decide)
theorem pu_f19_11 (h : pu_X s R) : R 19 11 = some 25 := h.2 ((19, 11), 25) (by decide)
theorem pu_f26_6 (h : pu_X s R) : R 26 6 = some 27 := h.2 ((26, 6), 27) (by decide)
theorem pu_f26_7 (h : pu_X s R) : R 26 7 = some 28 := h.2 ((26, 7), 28) (by decide)
theorem pu_f26_8 (h : pu_X s R) : R 26 8 = some 29 := h.2 ((26, 8), 29) (by decide)
theorem pu_f26_9 (h : pu_X s R) : R 26 9 = some 30 := h.2 ((26, 9), 30) (by decide)
theorem pu_f26_10 (h : pu_X s R) : R 26 10 = some 31 := h.2 ((26, 10), 31) (by decide)
theorem pu_f26_11 (h : pu_X s R) : R 26 11 = some 32 := h.2 ((26, 11), 32) (by decide)
theorem pu_f33_1 (h : pu_X s R) : R 33 1 = some 34 := h.2 ((33, 1), 34) (by decide)
theorem pu_f33_2 (h : pu_X s R) : R 33 2 = some 35 := h.2 ((33, 2), 35) (by decide)
theorem pu_f33_3 (h : pu_X s R) : R 33 3 = some 36 := h.2 ((33, 3), 36) (by decide)
theorem pu_f38_2 (h : pu_X s R) : R 38 2 = some 39 := h.2 ((38, 2), 39) (by decide)
theorem pu_f40_0 (h : pu_X s R) : R 40 0 = some 41 := h.2 ((40, 0), 41) (by decide)
theorem pu_f42_0 (h : pu_X s R) : R 42 0 = some 43 := h.2 ((42, 0), 43) (by decide)
theorem pu_f42_1 (h : pu_X s R) : R 42 1 = some 50 := h.2 ((42, 1), 50) (by decide)
theorem pu_f42_2 (h : pu_X s R) : R 42 2 = some 51 := h.2 ((42, 2), 51) (by decide)
theorem pu_f43_6 (h : pu_X s R) : R 43 6 = some 44 := h.2 ((43, 6), 44) (by decide)
theorem pu_f43_7 (h : pu_X s R) : R 43 7 = some 45 := h.2 ((43, 7), 45) (by decide)
theorem pu_f43_8 (h : pu_X s R) : R 43 8 = some 46 := h.2 ((43, 8), 46) (by decide)
theorem pu_f43_9 (h : pu_X s R) : R 43 9 = some 47 := h.2 ((43, 9), 47) (by decide)
theorem pu_f43_10 (h : pu_X s R) : R 43 10 = some 48 := h.2 ((43, 10), 48) (by decide)
theorem pu_f43_11 (h : pu_X s R) : R 43 11 = some 49 := h.2 ((43, 11), 49) (by decide)
theorem pu_f52_0 (h : pu_X s R) : R 52 0 = some 53 := h.2 ((52, 0), 53) (by decide)
theorem pu_f52_5 (h : pu_X s R) : R 52 5 = some 40 := h.2 ((52, 5), 40) (by decide)
theorem pu_f52_6 (h : pu_X s R) : R 52 6 = some 60 := h.2 ((52, 6), 60) (by decide)
theorem pu_f53_6 (h : pu_X s R) : R 53 6 = some 54 := h.2 ((53, 6), 54) (by decide)
theorem pu_f53_7 (h : pu_X s R) : R 53 7 = some 55 := h.2 ((53, 7), 55) (by decide)
theorem pu_f53_8 (h : pu_X s R) : R 53 8 = some 56 := h.2 ((53, 8), 56) (by decide)
theorem pu_f53_9 (h : pu_X s R) : R 53 9 = some 57 := h.2 ((53, 9), 57) (by decide)
theorem pu_f53_10 (h : pu_X s R) : R 53 10 = some 58 := h.2 ((53, 10), 58) (by decide)
theorem pu_f53_11 (h : pu_X s R) : R 53 11 = some 59 := h.2 ((53, 11), 59) (by decide)
theorem pu_f61_2 (h : pu_X s R) : R 61 2 = some 40 := h.2 ((61, 2), 40) (by decide)
theorem pu_f61_3 (h : pu_X s R) : R 61 3 = some 62 := h.2 ((61, 3), 62) (by decide)
theorem pu_f61_4 (h : pu_X s R) : R 61 4 = some 69 := h.2 ((61, 4), 69) (by decide)
theorem pu_f62_6 (h : pu_X s R) : R 62 6 = some 63 := h.2 ((62, 6), 63) (by decide)
theorem pu_f62_7 (h : pu_X s R) : R 62 7 = some 64 := h.2 ((62, 7), 64) (by decide)
theorem pu_f62_8 (h : pu_X s R) : R 62 8 = some 65 := h.2 ((62, 8), 65) (by decide)
theorem pu_f62_9 (h : pu_X s R) : R 62 9 = some 66 := h.2 ((62, 9), 66) (by decide)
theorem pu_f62_10 (h : pu_X s R) : R 62 10 = some 67 := h.2 ((62, 10), 67) (by decide)
theorem pu_f62_11 (h : pu_X s R) : R 62 11 = some 68 := h.2 ((62, 11), 68) (by decide)
theorem pu_st8 (h : pu_X s R) : pu_St s R 8 := ⟨pu_c8 h, ⟨pu_c9 h, pu_c10 h, pu_c11 h, pu_c12 h, pu_c13 h, pu_c14 h⟩, ⟨pu_f8_6 h, pu_f8_7 h, pu_f8_8 h, pu_f8_9 h, pu_f8_10 h, pu_f8_11 h⟩⟩
theorem pu_st19 (h : pu_X s R) : pu_St s R 19 := ⟨pu_c19 h, ⟨pu_c20 h, pu_c21 h, pu_c22 h, pu_c23 h, pu_c24 h, pu_c25 h⟩, ⟨pu_f19_6 h, pu_f19_7 h, pu_f19_8 h, pu_f19_9 h, pu_f19_10 h, pu_f19_11 h⟩⟩
theorem pu_st26 (h : pu_X s R) : pu_St s R 26 := ⟨pu_c26 h, ⟨pu_c27 h, pu_c28 h, pu_c29 h, pu_c30 h, pu_c31 h, pu_c32 h⟩, ⟨pu_f26_6 h, pu_f26_7 h, pu_f26_8 h, pu_f26_9 h, pu_f26_10 h, pu_f26_11 h⟩⟩
theorem pu_st43 (h : pu_X s R) : pu_St s R 43 := ⟨pu_c43 h, ⟨pu_c44 h, pu_c45 h, pu_c46 h, pu_c47 h, pu_c48 h, pu_c49 h⟩, ⟨pu_f43_6 h, pu_f43_7 h, pu_f43_8 h, pu_f43_9 h, pu_f43_10 h, pu_f43_11 h⟩⟩
theorem pu_st53 (h : pu_X s R) : pu_St s R 53 := ⟨pu_c53 h, ⟨pu_c54 h, pu_c55 h, pu_c56 h, pu_c57 h, pu_c58 h, pu_c59 h⟩, ⟨pu_f53_6 h, pu_f53_7 h, pu_f53_8 h, pu_f53_9 h, pu_f53_10 h, pu_f53_11 h⟩⟩
theorem pu_st62 (h : pu_X s R) : pu_St s R 62 := ⟨pu_c62 h, ⟨pu_c63 h, pu_c64 h, pu_c65 h, pu_c66 h, pu_c67 h, pu_c68 h⟩, ⟨pu_f62_6 h, pu_f62_7 h, pu_f62_8 h, pu_f62_9 h, pu_f62_10 h, pu_f62_11 h⟩⟩
theorem pu_jg (h : pu_X s R) : pu_Jg s R := ⟨pu_c40 h, pu_c41 h, pu_f40_0 h⟩
end PUM
/-- what a question to the class changes: judge, those on trial, what they hold -/
def pu_Cf (I I' : Nat → Nat → Int32) (J J' : Nat → Nat → Int64) : Prop := (∀ q, q ≠ 25 → q ≠ 40 → (q < 43 ∨ 70 ≤ q) → I' q = I q) ∧ (∀ q, q ≠ 41 → J' q = J q)
theorem pu_Cf.rf {I : Nat → Nat → Int32} {J : Nat → Nat → Int64} : pu_Cf I I J J := ⟨fun _ _ _ _ => rfl, fun _ _ => rfl⟩
theorem pu_Cf.tr {I I' I2 : Nat → Nat → Int32} {J J' J2 : Nat → Nat → Int64} (a : pu_Cf I I' J J') (b : pu_Cf I' I2 J' J2) : pu_Cf I I2 J J2 := ⟨fun q h1 h2 h3 => (b.1 q h1 h2 h3).trans (a.1 q h1 h2 h3), fun q h => (b.2 q h).trans (a.2 q h)⟩
theorem pu_Cf.yf {p : Nat} {I I' : Nat → Nat → Int32} {J J' : Nat → Nat → Int64} (hp : 43 ≤ p) (hp2 : p ≤ 63) (a : pu_Yf p I I' J J') : pu_Cf I I' J J' := ⟨fun q h1 h2 h3 => a.1 q (by omega) h2, a.2⟩
theorem pu_Cf.fr {p : Nat} {I I' : Nat → Nat → Int32} {J : Nat → Nat → Int64} (hp : 43 ≤ p) (hp2 : p ≤ 63) (a : pu_Fr p I I') : pu_Cf I I' J J := ⟨fun q h1 h2 h3 => a q (by omega), fun _ _ => rfl⟩
theorem pu_Cf.u2 {p k : Nat} {v : Int32} {I : Nat → Nat → Int32} {J : Nat → Nat → Int64} (hp : 43 ≤ p) (hp2 : p < 70) : pu_Cf I (tb_up2 I p k v) J J := ⟨fun q h1 h2 h3 => pu_u2p _ _ _ _ (by omega), fun _ _ => rfl⟩
theorem pu_Cf.h6 {I I' : Nat → Nat → Int32} {J : Nat → Nat → Int64} (h : ∀ q, q ≠ 25 → I' q = I q) : pu_Cf I I' J J := ⟨fun q h1 _ _ => h q h1, fun _ _ => rfl⟩
/-- what a question to the reference changes: its heap, its words, its scratch rows -/
def pu_Zf (I I' : Nat → Nat → Int32) (J J' : Nat → Nat → Int64) : Prop := (∀ q, q ≠ 70 → (q < 82 ∨ 88 ≤ q) → I' q = I q) ∧ (∀ k, k ≠ 18 → I' 70 k = I 70 k) ∧ (∀ q, q ≠ 70 → q ≠ 78 → q ≠ 79 → J' q = J q)
theorem pu_Zf.rf {I : Nat → Nat → Int32} {J : Nat → Nat → Int64} : pu_Zf I I J J := ⟨fun _ _ _ => rfl, fun _ _ => rfl, fun _ _ _ _ => rfl⟩
theorem pu_Zf.tr {I I' I2 : Nat → Nat → Int32} {J J' J2 : Nat → Nat → Int64} (a : pu_Zf I I' J J') (b : pu_Zf I' I2 J' J2) : pu_Zf I I2 J J2 := ⟨fun q h1 h2 => (b.1 q h1 h2).trans (a.1 q h1 h2), fun k h => (b.2.1 k h).trans (a.2.1 k h), fun q h1 h2 h3 => (b.2.2 q h1 h2 h3).trans (a.2.2 q h1 h2 h3)⟩
/-- the same, while years go by in the row -/
def pu_Tf (I I' : Nat → Nat → Int32) (J J' : Nat → Nat → Int64) : Prop := (∀ q, q ≠ 70 → q ≠ 80 → (q < 82 ∨ 88 ≤ q) → I' q = I q) ∧ (∀ k, k ≠ 18 → I' 70 k = I 70 k) ∧ (∀ k, k < 10 ∨ 74 ≤ k → I' 80 k = I 80 k) ∧ (∀ q, q ≠ 70 → q ≠ 78 → q ≠ 79 → J' q = J q)
theorem pu_Tf.rf {I : Nat → Nat → Int32} {J : Nat → Nat → Int64} : pu_Tf I I J J := ⟨fun _ _ _ _ => rfl, fun _ _ => rfl, fun _ _ => rfl, fun _ _ _ _ => rfl⟩
theorem pu_Tf.tr {I I' I2 : Nat → Nat → Int32} {J J' J2 : Nat → Nat → Int64} (a : pu_Tf I I' J J') (b : pu_Tf I' I2 J' J2) : pu_Tf I I2 J J2 := ⟨fun q h1 h2 h3 => (b.1 q h1 h2 h3).trans (a.1 q h1 h2 h3), fun k h => (b.2.1 k h).trans (a.2.1 k h), fun k h => (b.2.2.1 k h).trans (a.2.2.1 k h), fun q h1 h2 h3 => (b.2.2.2 q h1 h2 h3).trans (a.2.2.2 q h1 h2 h3)⟩
theorem pu_Tf.pf {I I' : Nat → Nat → Int32} {J J' : Nat → Nat → Int64} (a : pu_Pf I I' J J') : pu_Tf I I' J J' := ⟨fun q h1 h2 _ => a.1 q h1 h2, a.2.1, a.2.2.1, fun q _ h2 h3 => a.2.2.2 q h2 h3⟩
theorem pu_Tf.mf {I I' : Nat → Nat → Int32} {J : Nat → Nat → Int64} (a : pu_Mf I I') : pu_Tf I I' J J := pu_Tf.pf (pu_Pf.mf a)
theorem pu_Tf.zf {I I' : Nat → Nat → Int32} {J J' : Nat → Nat → Int64} (a : pu_Zf I I' J J') : pu_Tf I I' J J' := ⟨fun q h1 _ h3 => a.1 q h1 h3, a.2.1, fun k _ => congrFun (a.1 80 (by decide) (by omega)) k, a.2.2⟩
theorem pu_Tf.back {I I' : Nat → Nat → Int32} {J J' : Nat → Nat → Int64} (a : pu_Tf I I' J J') (h : ∀ k, 10 ≤ k → k < 74 → I' 80 k = I 80 k) : pu_Zf I I' J J' := by
  refine ⟨fun q h1 h3 => ?_, a.2.1, a.2.2.2⟩
  by_cases e : q = 80
  · subst e
    funext k
    by_cases hk : k < 10 ∨ 74 ≤ k
    · exact a.2.2.1 k hk
    · exact h k (by omega) (by omega)
  · exact a.1 q h1 e h3
theorem pu_FM_tf {I I' : Nat → Nat → Int32} {J J' : Nat → Nat → Int64} {ro : Option pu_Ru} (f : pu_Tf I I' J J') (h : pu_FM I ro) : pu_FM I' ro := by
  cases ro with
  | none => exact (f.2.1 21 (by decide)).trans h
  | some ru =>
    obtain ⟨r, a, b, c, d, e, g⟩ := h
    refine ⟨r, a, (f.2.1 21 (by decide)).trans b, c, ?_, ?_, g⟩
    · rw [f.1 75 (by decide) (by decide) (by omega)]; exact d
    · rw [f.1 72 (by decide) (by decide) (by omega), f.1 74 (by decide) (by decide) (by omega)]; exact e
section PUN
variable {s : List (Nat × Nat)} {J : Nat → Nat → Int64} {R : Nat → Nat → Option Nat}
theorem pu_m_keeps_l (hM : pu_M s R) : ∀ d i n I, i + d = 64 → d < n → ∃ I', fl_m_keeps_2 n 70 (nI i) (s, I, J, R) = some (s, I', J, R) ∧ (∀ k, k < 64 → I' 82 k = if i ≤ k then I 80 (10 + k) else I 82 k) ∧ (∀ q, q ≠ 82 → I' q = I q) := by
  intro d
  induction d with
  | zero =>
    intro i n I hi hn
    obtain ⟨n, rfl⟩ : ∃ z, n = z + 1 := ⟨n - 1, by omega⟩
    unfold fl_m_keeps_2
    simp only [show (64 : Int32) = nI 64 from rfl, pu_ltI (show i < 2147483648 by omega) (show 64 < 2147483648 by omega), show ¬ i < 64 by omega, ↓reduceIte]
    exact ⟨I, rfl, fun k hk => by rw [if_neg (by omega)], fun _ _ => rfl⟩
  | succ d ih =>
    intro i n I hi hn
    obtain ⟨n, rfl⟩ : ∃ z, n = z + 1 := ⟨n - 1, by omega⟩
    unfold fl_m_keeps_2
    simp only [show (64 : Int32) = nI 64 from rfl, pu_ltI (show i < 2147483648 by omega) (show 64 < 2147483648 by omega), show i < 64 by omega, ↓reduceIte, pu_gN (pu_m70 hM), pu_r25 hM, pu_r20 hM, Option.bind_some, pu_cell' hM (pu_L10 i) (show 10 + i < 149 by omega), pu_tI (pu_m82 hM) (show i < 64 by omega) (show 64 ≤ 100000 by omega)]
    rw [← nI_succ]
    obtain ⟨I', a1, a2, a3⟩ := ih (i + 1) n (tb_up2 I 82 i (I 80 (10 + i))) (by omega) (by omega)
    refine ⟨I', a1, ?_, fun q hq => by rw [a3 q hq, pu_u2p _ _ _ _ hq]⟩
    intro k hk
    rw [a2 k hk, pu_u2p _ _ _ _ (show (80 : Nat) ≠ 82 by decide), pu_u2i]
    by_cases h1 : i + 1 ≤ k
    · rw [if_pos h1, if_pos (by omega)]
    · rw [if_neg h1]
      by_cases h2 : k = i
      · rw [if_pos h2, if_pos (by omega), h2]
      · rw [if_neg h2, if_neg (by omega)]
theorem pu_m_keeps {I : Nat → Nat → Int32} (hM : pu_M s R) : ∃ I', fb_m_keeps 70 (s, I, J, R) = some (s, I', J, R) ∧ (∀ k, k < 64 → I' 82 k = I 80 (10 + k)) ∧ (∀ q, q ≠ 82 → I' q = I q) := by
  obtain ⟨I', a1, a2, a3⟩ := pu_m_keeps_l (J := J) hM 64 0 1048576 I (by omega) (by omega)
  refine ⟨I', ?_, fun k hk => by rw [a2 k hk, if_pos (by omega)], a3⟩
  unfold fb_m_keeps
  rw [show nI 0 = 0 from rfl] at a1
  rw [a1]
  rfl
theorem pu_m_laysBack_l (hM : pu_M s R) : ∀ d i n I, i + d = 64 → d < n → ∃ I', fl_m_laysBack_2 n 70 (nI i) (s, I, J, R) = some (s, I', J, R) ∧ (∀ k, k < 64 → I' 80 (10 + k) = if i ≤ k then I 82 k else I 80 (10 + k)) ∧ pu_Mf I I' := by
  intro d
  induction d with
  | zero =>
    intro i n I hi hn
    obtain ⟨n, rfl⟩ : ∃ z, n = z + 1 := ⟨n - 1, by omega⟩
    unfold fl_m_laysBack_2
    simp only [show (64 : Int32) = nI 64 from rfl, pu_ltI (show i < 2147483648 by omega) (show 64 < 2147483648 by omega), show ¬ i < 64 by omega, ↓reduceIte]
    exact ⟨I, rfl, fun k hk => by rw [if_neg (by omega)], pu_Mf.rf⟩
  | succ d ih =>
    intro i n I hi hn
    obtain ⟨n, rfl⟩ : ∃ z, n = z + 1 := ⟨n - 1, by omega⟩
    unfold fl_m_laysBack_2
    simp only [show (64 : Int32) = nI 64 from rfl, pu_ltI (show i < 2147483648 by omega) (show 64 < 2147483648 by omega), show i < 64 by omega, ↓reduceIte, pu_gN (pu_m70 hM), pu_r25 hM, pu_r20 hM, Option.bind_some, pu_lI (pu_m82 hM) (show i < 64 by omega) (show 64 ≤ 100000 by omega), pu_put' hM (pu_L10 i) (show 10 + i < 149 by omega)]
    rw [← nI_succ]
    obtain ⟨I', a1, a2, a3⟩ := ih (i + 1) n (tb_up2 I 80 (10 + i) (I 82 i)) (by omega) (by omega)
    refine ⟨I', a1, ?_, (pu_Mf.u2 (by omega) (by omega)).tr a3⟩
    intro k hk
    rw [a2 k hk, pu_u2p _ _ _ _ (show (82 : Nat) ≠ 80 by decide), pu_u2i]
    by_cases h1 : i + 1 ≤ k
    · rw [if_pos h1, if_pos (by omega)]
    · rw [if_neg h1]
      by_cases h2 : k = i
      · rw [if_pos (by omega), if_pos (by omega), h2]
      · rw [if_neg (by omega), if_neg (by omega)]
/-- the row's state is laid back as it was kept -/
theorem pu_m_laysBack {I I0 : Nat → Nat → Int32} {J0 : Nat → Nat → Int64} (hM : pu_M s R) (hk : ∀ k, k < 64 → I 82 k = I0 80 (10 + k)) (f : pu_Tf I0 I J0 J) : ∃ I', fb_m_laysBack 70 (s, I, J, R) = some (s, I', J, R) ∧ pu_Zf I0 I' J0 J ∧ I' 82 = I 82 ∧ pu_Tf I I' J J := by
  obtain ⟨I', a1, a2, a3⟩ := pu_m_laysBack_l (J := J) hM 64 0 1048576 I (by omega) (by omega)
  refine ⟨I', ?_, (f.tr (pu_Tf.mf a3)).back ?_, a3.1 82 (by decide), pu_Tf.mf a3⟩
  · unfold fb_m_laysBack
    rw [show nI 0 = 0 from rfl] at a1
    rw [a1]
    rfl
  · intro k h1 h2
    have := a2 (k - 10) (by omega)
    rw [show 10 + (k - 10) = k by omega, if_pos (by omega), hk (k - 10) (by omega), show 10 + (k - 10) = k by omega] at this
    exact this
end PUN
