/-! ===== note ===== -/
/-- notes as both keep them; each within its bounds -/
def pu_NT (I : Nat → Nat → Int32) (A : pu_A) (nn : Nat) : Prop := I 33 0 = nI nn ∧ I 80 148 = nI nn ∧ nn ≤ 10 ∧ ∀ i, i < nn → ∃ n h t, n ≤ 60 ∧ h < 2 * A.1 0 0 ∧ t ≤ 1 ∧ (I 34 i = nI n ∧ I 35 i = nI h ∧ I 36 i = nI t) ∧ I 80 (118 + 3 * i) = nI n ∧ I 80 (118 + 3 * i + 1) = nI h ∧ I 80 (118 + 3 * i + 2) = nI t
/-- what note(a, b, c) is asked: nothing fitting, all forgotten, or one more -/
def pu_no (A : pu_A) (nn : Nat) (a b c : Int32) : Bool := pu_wi a 0 60 && pu_ih A b && pu_wi c 0 1 && decide (nn < 10)
section PUx
variable {s : List (Nat × Nat)} {J : Nat → Nat → Int64} {R : Nat → Nat → Option Nat} {A : pu_A}
theorem pu_x_note {I : Nat → Nat → Int32} (hX : pu_X s R) (v : pu_V I 19 A) (wf : pu_wf A) {nn : Nat} (hn : nn ≤ 10) (e : I 33 0 = nI nn) (a b c : Int32) : fb_x_note 1 a b c (s, I, J, R) = if a = -1 then some (0, (s, tb_up2 I 33 0 0, J, R)) else if pu_no A nn a b c then some (nI (nn + 1), (s, tb_up2 (tb_up2 (tb_up2 (tb_up2 I 34 nn a) 35 nn b) 36 nn c) 33 0 (nI (nn + 1)), J, R)) else some (-2, (s, I, J, R)) := by
  have hz : fj_x_note_j29 1 a b c 0 (s, I, J, R) = some (-2, (s, I, J, R)) := by
    unfold fj_x_note_j29
    rw [if_pos rfl]
  unfold fb_x_note pu_no
  by_cases h1 : a = -1
  · rw [if_pos h1, if_pos h1]
    simp only [pu_gN (pu_c1 hX), pu_f1_5 hX, Option.bind_some, pu_gN (pu_c18 hX), pu_f18_2 hX, pu_pI (pu_c33 hX)]
  · rw [if_neg h1, if_neg h1]
    simp only [pu_x_within, Option.bind_some, pu_b0]
    cases h2 : pu_wi a 0 60
    · simp only [↓reduceIte, hz, Bool.false_and, Bool.false_eq_true]
    · simp only [Bool.true_eq_false, ↓reduceIte, pu_gN (pu_c1 hX), pu_f1_5 hX, Option.bind_some, pu_gN (pu_c18 hX), pu_f18_0 hX, pu_on (pu_c19 hX), pu_s_isHouseA (pu_st19 hX) v wf, pu_b0, Bool.true_and]
      cases h3 : pu_ih A b
      · simp only [↓reduceIte, hz, Bool.false_and, Bool.false_eq_true]
      · simp only [Bool.true_eq_false, ↓reduceIte, Bool.true_and]
        cases h4 : pu_wi c 0 1
        · simp only [↓reduceIte, hz, Bool.false_and, Bool.false_eq_true]
        · have q33 : ∀ (f : Nat → Nat → Int32) x y z, tb_up2 (tb_up2 (tb_up2 f 34 nn x) 35 nn y) 36 nn z 33 0 = f 33 0 := fun f x y z => by rw [pu_u2p _ _ _ _ (by decide), pu_u2p _ _ _ _ (by decide), pu_u2p _ _ _ _ (by decide)]
          have q33a : ∀ (f : Nat → Nat → Int32) x, tb_up2 f 34 nn x 33 0 = f 33 0 := fun f x => by rw [pu_u2p _ _ _ _ (by decide)]
          have q33b : ∀ (f : Nat → Nat → Int32) x y, tb_up2 (tb_up2 f 34 nn x) 35 nn y 33 0 = f 33 0 := fun f x y => by rw [pu_u2p _ _ _ _ (by decide), pu_u2p _ _ _ _ (by decide)]
          simp only [Bool.true_eq_false, ↓reduceIte, Bool.true_and]
          unfold fj_x_note_j29
          simp only [show ¬ ((1 : Int32) = 0) by decide, ↓reduceIte, pu_gN (pu_c1 hX), pu_f1_5 hX, Option.bind_some, pu_gN (pu_c18 hX), pu_f18_2 hX, pu_gI (pu_c33 hX), e, show (10 : Int32) = nI 10 from rfl, pu_ltI (show nn < 2147483648 by omega) (show 10 < 2147483648 by omega), decide_eq_true_eq]
          by_cases h5 : nn < 10
          · simp only [h5, ↓reduceIte, pu_on (pu_c33 hX), fb_n_add, pu_gI (pu_c33 hX), e, Option.bind_some, pu_lt0 (show nn < 2147483648 by omega), show (10 : Int32) = nI 10 from rfl, pu_ltI (show nn < 2147483648 by omega) (show 10 < 2147483648 by omega), pu_gN (pu_c33 hX), pu_f33_1 hX, pu_f33_2 hX, pu_f33_3 hX, pu_tI (pu_c34 hX) (show nn < 10 by omega) (show 10 ≤ 100000 by omega), q33a, pu_tI (pu_c35 hX) (show nn < 10 by omega) (show 10 ≤ 100000 by omega), q33b, pu_tI (pu_c36 hX) (show nn < 10 by omega) (show 10 ≤ 100000 by omega), q33, pu_R1, pu_pI (pu_c33 hX), pu_u2s, pu_gN (pu_c1 hX), pu_f1_5 hX, pu_gN (pu_c18 hX), pu_f18_2 hX]
          · simp only [h5, ↓reduceIte]
theorem pu_m_note {I : Nat → Nat → Int32} (hM : pu_M s R) (q : pu_Q (I 80) A) (wf : pu_wf A) {nn : Nat} (hn : nn ≤ 10) (e : I 80 148 = nI nn) (a b c : Int32) : fb_m_note 70 a b c (s, I, J, R) = if a = -1 then some (0, (s, tb_up2 I 80 148 0, J, R)) else if pu_no A nn a b c then some (nI (nn + 1), (s, tb_up2 (tb_up2 (tb_up2 (tb_up2 I 80 (118 + 3 * nn) a) 80 (118 + 3 * nn + 1) b) 80 (118 + 3 * nn + 2) c) 80 148 (nI (nn + 1)), J, R)) else some (-2, (s, I, J, R)) := by
  unfold fb_m_note pu_no
  by_cases h1 : a = -1
  · rw [if_pos h1, if_pos h1]
    simp only [pu_gN (pu_m70 hM), pu_r20 hM, Option.bind_some, pu_put' hM (show (148 : Int32) = nI 148 from rfl) (show 148 < 149 by omega)]
  · rw [if_neg h1, if_neg h1]
    simp only [pu_m_in a 0 60 (show (0 : Int64) = (0 : Int32).toInt64 from rfl) (show (60 : Int64) = (60 : Int32).toInt64 from rfl), pu_m_in c 0 1 (show (0 : Int64) = (0 : Int32).toInt64 from rfl) (show (1 : Int64) = (1 : Int32).toInt64 from rfl), Option.bind_some, pu_b0, pu_on (pu_m70 hM), pu_m_isHouseA hM q wf]
    cases h2 : pu_wi a 0 60
    · simp only [↓reduceIte, Bool.false_and, Bool.false_eq_true]
    · cases h3 : pu_ih A b
      · simp only [Bool.true_eq_false, ↓reduceIte, Bool.true_and, Bool.false_and, Bool.false_eq_true]
      · cases h4 : pu_wi c 0 1
        · simp only [Bool.true_eq_false, ↓reduceIte, Bool.true_and, Bool.false_and, Bool.false_eq_true]
        · have i0 : (118 : Int32) + 3 * nI nn = nI (118 + 3 * nn) := by rw [pu_M3, pu_L118]
          have i1 : (118 : Int32) + 3 * nI nn + 1 = nI (118 + 3 * nn + 1) := by rw [pu_M3, pu_L118, pu_R1]
          have i2 : (118 : Int32) + 3 * nI nn + 2 = nI (118 + 3 * nn + 2) := by rw [pu_M3, pu_L118, pu_R2]
          simp only [Bool.true_eq_false, ↓reduceIte, Bool.true_and, pu_gN (pu_m70 hM), pu_r20 hM, Option.bind_some, pu_cell' hM (show (148 : Int32) = nI 148 from rfl) (show 148 < 149 by omega), e, show (10 : Int32) = nI 10 from rfl, pu_eqI (show nn < 2147483648 by omega) (show 10 < 2147483648 by omega), decide_eq_true_eq]
          by_cases h5 : nn < 10
          · have e3 : tb_up2 (tb_up2 (tb_up2 I 80 (118 + 3 * nn) a) 80 (118 + 3 * nn + 1) b) 80 (118 + 3 * nn + 2) c 80 148 = nI nn := by
              simp (disch := omega) only [pu_u2k]; exact e
            simp only [show ¬ nn = 10 by omega, h5, ↓reduceIte, pu_gN (pu_m70 hM), pu_r20 hM, e, pu_put' hM i0 (show 118 + 3 * nn < 149 by omega), pu_put' hM i1 (show 118 + 3 * nn + 1 < 149 by omega), pu_put' hM i2 (show 118 + 3 * nn + 2 < 149 by omega), Option.bind_some, pu_cell' hM (show (148 : Int32) = nI 148 from rfl) (show 148 < 149 by omega), e3, pu_R1, pu_put' hM (show (148 : Int32) = nI 148 from rfl) (show 148 < 149 by omega), pu_u2s]
          · simp only [show nn = 10 by omega, ↓reduceIte, Nat.lt_irrefl]
end PUx
