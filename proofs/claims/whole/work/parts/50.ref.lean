/-! ===== The reference at place 70: its shapes; what its row of numbers (place 80) tells of a street ===== -/
def pu_M (s : List (Nat × Nat)) (R : Nat → Nat → Option Nat) : Prop := (∀ k, k < 22 → s[70 + k]? = ([(22, 36), (0, 400), (1, 2400), (1, 7), (1, 288), (1, 6), (1, 118), (1, 400), (2, 64), (2, 12), (1, 149), (1, 1280), (1, 64), (1, 5), (1, 5), (1, 8), (3, 7), (1, 7), (1, 596), (1, 4), (1, 4), (3, 4)])[k]?) ∧ (∀ k, k < 36 → k ∈ [0, 3, 4, 5, 6, 7, 15, 17, 19, 20, 23, 25, 26, 27, 28, 29, 30, 32, 33, 34, 35] → R 70 k = ([(0, 71), (3, 72), (4, 73), (5, 74), (6, 75), (7, 76), (15, 77), (17, 78), (19, 79), (20, 80), (23, 81), (25, 82), (26, 83), (27, 84), (28, 85), (29, 86), (30, 87), (32, 88), (33, 89), (34, 90), (35, 91)]).lookup k)
section PUB
variable {s : List (Nat × Nat)} {R : Nat → Nat → Option Nat}
theorem pu_m70 (h : pu_M s R) : s[70]? = some (22, 36) := h.1 0 (by decide)
theorem pu_m71 (h : pu_M s R) : s[71]? = some (0, 400) := h.1 1 (by decide)
theorem pu_m72 (h : pu_M s R) : s[72]? = some (1, 2400) := h.1 2 (by decide)
theorem pu_m73 (h : pu_M s R) : s[73]? = some (1, 7) := h.1 3 (by decide)
theorem pu_m74 (h : pu_M s R) : s[74]? = some (1, 288) := h.1 4 (by decide)
theorem pu_m75 (h : pu_M s R) : s[75]? = some (1, 6) := h.1 5 (by decide)
theorem pu_m76 (h : pu_M s R) : s[76]? = some (1, 118) := h.1 6 (by decide)
theorem pu_m77 (h : pu_M s R) : s[77]? = some (1, 400) := h.1 7 (by decide)
theorem pu_m78 (h : pu_M s R) : s[78]? = some (2, 64) := h.1 8 (by decide)
theorem pu_m79 (h : pu_M s R) : s[79]? = some (2, 12) := h.1 9 (by decide)
theorem pu_m80 (h : pu_M s R) : s[80]? = some (1, 149) := h.1 10 (by decide)
theorem pu_m81 (h : pu_M s R) : s[81]? = some (1, 1280) := h.1 11 (by decide)
theorem pu_m82 (h : pu_M s R) : s[82]? = some (1, 64) := h.1 12 (by decide)
theorem pu_m83 (h : pu_M s R) : s[83]? = some (1, 5) := h.1 13 (by decide)
theorem pu_m84 (h : pu_M s R) : s[84]? = some (1, 5) := h.1 14 (by decide)
theorem pu_m85 (h : pu_M s R) : s[85]? = some (1, 8) := h.1 15 (by decide)
theorem pu_m86 (h : pu_M s R) : s[86]? = some (3, 7) := h.1 16 (by decide)
theorem pu_m87 (h : pu_M s R) : s[87]? = some (1, 7) := h.1 17 (by decide)
theorem pu_m88 (h : pu_M s R) : s[88]? = some (1, 596) := h.1 18 (by decide)
theorem pu_m89 (h : pu_M s R) : s[89]? = some (1, 4) := h.1 19 (by decide)
theorem pu_m90 (h : pu_M s R) : s[90]? = some (1, 4) := h.1 20 (by decide)
theorem pu_m91 (h : pu_M s R) : s[91]? = some (3, 4) := h.1 21 (by decide)
theorem pu_r0 (h : pu_M s R) : R 70 0 = some 71 := h.2 0 (by decide) (by decide)
theorem pu_r3 (h : pu_M s R) : R 70 3 = some 72 := h.2 3 (by decide) (by decide)
theorem pu_r4 (h : pu_M s R) : R 70 4 = some 73 := h.2 4 (by decide) (by decide)
theorem pu_r5 (h : pu_M s R) : R 70 5 = some 74 := h.2 5 (by decide) (by decide)
theorem pu_r6 (h : pu_M s R) : R 70 6 = some 75 := h.2 6 (by decide) (by decide)
theorem pu_r7 (h : pu_M s R) : R 70 7 = some 76 := h.2 7 (by decide) (by decide)
theorem pu_r15 (h : pu_M s R) : R 70 15 = some 77 := h.2 15 (by decide) (by decide)
theorem pu_r17 (h : pu_M s R) : R 70 17 = some 78 := h.2 17 (by decide) (by decide)
theorem pu_r19 (h : pu_M s R) : R 70 19 = some 79 := h.2 19 (by decide) (by decide)
theorem pu_r20 (h : pu_M s R) : R 70 20 = some 80 := h.2 20 (by decide) (by decide)
theorem pu_r23 (h : pu_M s R) : R 70 23 = some 81 := h.2 23 (by decide) (by decide)
theorem pu_r25 (h : pu_M s R) : R 70 25 = some 82 := h.2 25 (by decide) (by decide)
theorem pu_r26 (h : pu_M s R) : R 70 26 = some 83 := h.2 26 (by decide) (by decide)
theorem pu_r27 (h : pu_M s R) : R 70 27 = some 84 := h.2 27 (by decide) (by decide)
theorem pu_r28 (h : pu_M s R) : R 70 28 = some 85 := h.2 28 (by decide) (by decide)
theorem pu_r29 (h : pu_M s R) : R 70 29 = some 86 := h.2 29 (by decide) (by decide)
theorem pu_r30 (h : pu_M s R) : R 70 30 = some 87 := h.2 30 (by decide) (by decide)
theorem pu_r32 (h : pu_M s R) : R 70 32 = some 88 := h.2 32 (by decide) (by decide)
theorem pu_r33 (h : pu_M s R) : R 70 33 = some 89 := h.2 33 (by decide) (by decide)
theorem pu_r34 (h : pu_M s R) : R 70 34 = some 90 := h.2 34 (by decide) (by decide)
theorem pu_r35 (h : pu_M s R) : R 70 35 = some 91 := h.2 35 (by decide) (by decide)
end PUB
def pu_Q (f : Nat → Int32) (A : pu_A) : Prop :=
  (f 0 = pu_b (decide (0 < A.1 0 0)) ∧ f 1 = nI (A.1 0 0) ∧ f 2 = nI (A.1 0 1) ∧ f 10 = nI (A.1 0 2) ∧ f 11 = nI (A.1 0 3)) ∧
  (∀ h, h < 10 → f (12 + h) = nI (A.1 1 h) ∧ f (22 + h) = nI (A.1 2 h)) ∧ (∀ h, h < 2 * A.1 0 0 → f (32 + h) = pu_b (A.2 1 h)) ∧
  (∀ l, l < A.1 0 3 → f (42 + 4 * l) = nI (A.1 3 l) ∧ f (42 + 4 * l + 1) = nI (A.1 4 l) ∧ f (42 + 4 * l + 2) = (if A.2 0 l then nI (A.1 5 l) else 0) ∧ f (42 + 4 * l + 3) = pu_b (A.2 0 l))
section PUC
variable {s : List (Nat × Nat)} {I : Nat → Nat → Int32} {J : Nat → Nat → Int64} {R : Nat → Nat → Option Nat} {A : pu_A}
/-- a cell of the row, by its number -/
theorem pu_cell (hM : pu_M s R) {j : Nat} (hj : j < 149) : tb_lI [1, 9] 80 (nI j) (s, I, J, R) = some (I 80 j) := pu_lI (pu_m80 hM) hj (by omega)
theorem pu_cell' (hM : pu_M s R) {j : Nat} {a : Int32} (e : a = nI j) (hj : j < 149) : tb_lI [1, 9] 80 a (s, I, J, R) = some (I 80 j) := e ▸ pu_cell hM hj
theorem pu_put' (hM : pu_M s R) {j : Nat} {a v : Int32} (e : a = nI j) (hj : j < 149) : tb_tI 80 a v (s, I, J, R) = some (s, tb_up2 I 80 j v, J, R) := e ▸ pu_tI (pu_m80 hM) hj (by omega)
theorem pu_x0 (l : Nat) : (42 : Int32) + 4 * nI l = nI (42 + 4 * l) := by rw [pu_M4, pu_L42]
theorem pu_x1 (l : Nat) : (42 : Int32) + 4 * nI l + 1 = nI (42 + 4 * l + 1) := by rw [pu_M4, pu_L42, pu_R1]
theorem pu_x2 (l : Nat) : (42 : Int32) + 4 * nI l + 2 = nI (42 + 4 * l + 2) := by rw [pu_M4, pu_L42, pu_R2]
theorem pu_x3 (l : Nat) : (42 : Int32) + 4 * nI l + 3 = nI (42 + 4 * l + 3) := by rw [pu_M4, pu_L42, pu_R3]
theorem pu_m_houses (hM : pu_M s R) (q : pu_Q (I 80) A) : fb_m_houses 70 (s, I, J, R) = some (nI (2 * A.1 0 0), (s, I, J, R)) := by
  unfold fb_m_houses
  simp only [pu_gN (pu_m70 hM), pu_r20 hM, Option.bind_some, pu_cell' hM (show (1 : Int32) = nI 1 from rfl) (by omega), q.1.2.1, pu_M2]
theorem pu_m_isStreet (hM : pu_M s R) (q : pu_Q (I 80) A) : fb_m_isStreet 70 (s, I, J, R) = some (pu_b (decide (0 < A.1 0 0)), (s, I, J, R)) := by
  unfold fb_m_isStreet
  simp only [pu_gN (pu_m70 hM), pu_r20 hM, Option.bind_some, pu_cell' hM (show (0 : Int32) = nI 0 from rfl) (by omega), q.1.1, pu_b1]
  cases decide (0 < A.1 0 0) <;> rfl
theorem pu_m_isHouse (hM : pu_M s R) (q : pu_Q (I 80) A) (wf : pu_wf A) {k : Nat} (hk : k < 2147483648) : fb_m_isHouse 70 (nI k) (s, I, J, R) = some (pu_b (decide (k < 2 * A.1 0 0)), (s, I, J, R)) := by
  have h5 := wf.1
  unfold fb_m_isHouse
  simp only [pu_lt0 hk, ↓reduceIte, pu_on (pu_m70 hM), pu_m_houses hM q, Option.bind_some, pu_ltI hk (show 2 * A.1 0 0 < 2147483648 by omega)]
  by_cases hx : k < 2 * A.1 0 0
  · simp only [hx, ↓reduceIte, decide_true, pu_bt]
  · simp only [hx, ↓reduceIte, decide_false, pu_bf]
theorem pu_m_isHouse_neg {a : Int32} (ha : a < 0) {w : tb_Hp} : fb_m_isHouse 70 a w = some (0, w) := by
  unfold fb_m_isHouse
  simp only [ha, ↓reduceIte]
theorem pu_m_isLine (hM : pu_M s R) (q : pu_Q (I 80) A) (wf : pu_wf A) {k : Nat} (hk : k < 2147483648) : fb_m_isLine 70 (nI k) (s, I, J, R) = some (pu_b (decide (k < A.1 0 3)), (s, I, J, R)) := by
  have h5 := wf.2.2.1
  unfold fb_m_isLine
  simp only [pu_lt0 hk, ↓reduceIte, pu_gN (pu_m70 hM), pu_r20 hM, Option.bind_some, pu_cell' hM (show (11 : Int32) = nI 11 from rfl) (by omega), q.1.2.2.2.2, pu_ltI hk (show A.1 0 3 < 2147483648 by omega)]
  by_cases hx : k < A.1 0 3
  · simp only [hx, ↓reduceIte, decide_true, pu_bt]
  · simp only [hx, ↓reduceIte, decide_false, pu_bf]
theorem pu_m_isLine_neg {a : Int32} (ha : a < 0) {w : tb_Hp} : fb_m_isLine 70 a w = some (0, w) := by
  unfold fb_m_isLine
  simp only [ha, ↓reduceIte]
theorem pu_noup (wf : pu_wf A) {k : Nat} (h : ¬ k < A.1 0 3) : A.2 0 k = false := by
  cases e : A.2 0 k
  · rfl
  · exact absurd (wf.2.2.2.2.2.2.1 k e) h
theorem pu_nost (wf : pu_wf A) {k : Nat} (h : ¬ k < 2 * A.1 0 0) : A.2 1 k = false := by
  cases e : A.2 1 k
  · rfl
  · exact absurd (wf.2.2.2.2.2.2.2 k e) h
theorem pu_m_isUp (hM : pu_M s R) (q : pu_Q (I 80) A) (wf : pu_wf A) {k : Nat} (hk : k < 2147483648) : fb_m_isUp 70 (nI k) (s, I, J, R) = some (pu_b (A.2 0 k), (s, I, J, R)) := by
  have h5 := wf.2.2.1
  unfold fb_m_isUp
  simp only [pu_on (pu_m70 hM), pu_m_isLine hM q wf hk, Option.bind_some, pu_b0, decide_eq_false_iff_not]
  by_cases hx : k < A.1 0 3
  · simp only [hx, not_true, ↓reduceIte, pu_gN (pu_m70 hM), pu_r20 hM, Option.bind_some, pu_cell' hM (pu_x3 k) (by omega), (q.2.2.2 k hx).2.2.2, pu_b1]
    cases A.2 0 k <;> rfl
  · simp only [hx, not_false_eq_true, ↓reduceIte, pu_noup wf hx, pu_bf]
theorem pu_m_isUp_neg (hM : pu_M s R) {a : Int32} (ha : a < 0) : fb_m_isUp 70 a (s, I, J, R) = some (0, (s, I, J, R)) := by
  unfold fb_m_isUp
  simp only [pu_on (pu_m70 hM), pu_m_isLine_neg ha, Option.bind_some, ↓reduceIte]
theorem pu_m_isStanding (hM : pu_M s R) (q : pu_Q (I 80) A) (wf : pu_wf A) {k : Nat} (hk : k < 2147483648) : fb_m_isStanding 70 (nI k) (s, I, J, R) = some (pu_b (A.2 1 k), (s, I, J, R)) := by
  have h5 := wf.1
  unfold fb_m_isStanding
  simp only [pu_on (pu_m70 hM), pu_m_isHouse hM q wf hk, Option.bind_some, pu_b0, decide_eq_false_iff_not]
  by_cases hx : k < 2 * A.1 0 0
  · simp only [hx, not_true, ↓reduceIte, pu_gN (pu_m70 hM), pu_r20 hM, Option.bind_some, pu_cell' hM (pu_L32 k) (by omega), q.2.2.1 k hx, pu_b1]
    cases A.2 1 k <;> rfl
  · simp only [hx, not_false_eq_true, ↓reduceIte, pu_nost wf hx, pu_bf]
theorem pu_m_isStanding_neg (hM : pu_M s R) {a : Int32} (ha : a < 0) : fb_m_isStanding 70 a (s, I, J, R) = some (0, (s, I, J, R)) := by
  unfold fb_m_isStanding
  simp only [pu_on (pu_m70 hM), pu_m_isHouse_neg ha, Option.bind_some, ↓reduceIte]
theorem pu_m_oddOf (hM : pu_M s R) (q : pu_Q (I 80) A) (wf : pu_wf A) {k : Nat} (hk : k < A.1 0 3) : fb_m_oddOf 70 (nI k) (s, I, J, R) = some (nI (A.1 3 k), (s, I, J, R)) := by
  have h5 := wf.2.2.1
  unfold fb_m_oddOf
  simp only [pu_gN (pu_m70 hM), pu_r20 hM, Option.bind_some, pu_cell' hM (pu_x0 k) (by omega), (q.2.2.2 k hk).1]
theorem pu_m_evenOf (hM : pu_M s R) (q : pu_Q (I 80) A) (wf : pu_wf A) {k : Nat} (hk : k < A.1 0 3) : fb_m_evenOf 70 (nI k) (s, I, J, R) = some (nI (A.1 4 k), (s, I, J, R)) := by
  have h5 := wf.2.2.1
  unfold fb_m_evenOf
  simp only [pu_gN (pu_m70 hM), pu_r20 hM, Option.bind_some, pu_cell' hM (pu_x1 k) (by omega), (q.2.2.2 k hk).2.1]
theorem pu_m_pullOf (hM : pu_M s R) (q : pu_Q (I 80) A) (wf : pu_wf A) {k : Nat} (hk : k < A.1 0 3) : fb_m_pullOf 70 (nI k) (s, I, J, R) = some (if A.2 0 k then nI (A.1 5 k) else 0, (s, I, J, R)) := by
  have h5 := wf.2.2.1
  unfold fb_m_pullOf
  simp only [pu_gN (pu_m70 hM), pu_r20 hM, Option.bind_some, pu_cell' hM (pu_x2 k) (by omega), (q.2.2.2 k hk).2.2.1]
theorem pu_m_isAt (hM : pu_M s R) (q : pu_Q (I 80) A) (wf : pu_wf A) {k h : Nat} (hk : k < 2147483648) (hh : h < 2147483648) : fb_m_isAt 70 (nI k) (nI h) (s, I, J, R) = some (pu_b (pu_at A k h), (s, I, J, R)) := by
  have h5 := wf.2.2.1
  have h7 := wf.1
  unfold fb_m_isAt
  simp only [pu_on (pu_m70 hM), pu_m_isUp hM q wf hk, Option.bind_some, pu_b0]
  cases hu : A.2 0 k
  · simp only [↓reduceIte, pu_at, hu, Bool.false_and, pu_bf]
  · have hx := wf.2.2.2.2.2.2.1 k hu
    obtain ⟨g1, g2, g3⟩ := wf.2.2.2.2.2.1 k hx
    simp only [Bool.true_eq_false, ↓reduceIte, pu_m_oddOf hM q wf hx, pu_m_evenOf hM q wf hx, Option.bind_some, pu_eqI (show A.1 3 k < 2147483648 by omega) hh, pu_eqI (show A.1 4 k < 2147483648 by omega) hh, pu_at, hu, Bool.true_and]
    by_cases e1 : A.1 3 k = h
    · simp only [e1, ↓reduceIte, decide_true, Bool.true_or, pu_bt]
    · by_cases e2 : A.1 4 k = h
      · simp only [e1, e2, ↓reduceIte, decide_true, Bool.or_true, pu_bt, pu_on (pu_m70 hM), Option.bind_some]
      · simp only [e1, e2, ↓reduceIte, decide_false, Bool.or_false, pu_bf, pu_on (pu_m70 hM), Option.bind_some, pu_eqI (show A.1 4 k < 2147483648 by omega) hh]
end PUC
