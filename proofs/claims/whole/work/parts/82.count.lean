/-! ===== count, seed ===== -/
def pu_a_count (A : pu_A) (rc fo nn u x tl a : Int32) : Int32 := if a = 0 then nI (A.1 0 0) else if a = 1 then nI (A.1 0 1) else if a = 2 then nI (A.1 0 3) else if a = 3 then rc else if a = 4 then fo else if a = 5 then nI (A.1 0 2) else if a = 6 then pu_mk (A.2 1) 10 else if a = 7 then pu_mk (A.2 0) 8 else if a = 8 then nI (pu_allPull A) else if a = 9 then nI (pu_allLean A) else if a = 10 then nn else if a = 11 then u else if a = 12 then x else if a = 13 then tl else -1
theorem pu_its {c : Prop} [Decidable c] (x y : Int32) (w : tb_Hp) : (if c then some (x, w) else some (y, w)) = some (if c then x else y, w) := by
  split <;> rfl
section PUu
variable {s : List (Nat × Nat)} {R : Nat → Nat → Option Nat} {I : Nat → Nat → Int32} {J : Nat → Nat → Int64} {A : pu_A}
theorem pu_x_count (hX : pu_X s R) (v : pu_V I 19 A) (wf : pu_wf A) (a : Int32) : fb_x_count 1 a (s, I, J, R) = some (pu_a_count A (I 1 4) (I 18 3) (I 33 0) (I 38 0) (I 18 4) (I 2 0) a, (s, I, J, R)) := by
  unfold fb_x_count pu_a_count
  simp only [pu_gN (pu_c1 hX), pu_f1_5 hX, pu_f1_7 hX, pu_f1_0 hX, Option.bind_some, pu_gN (pu_c18 hX), pu_f18_0 hX, pu_f18_2 hX, pu_gI (pu_c19 hX), pu_gI (pu_c1 hX), pu_gI (pu_c18 hX), pu_gI (pu_c33 hX), pu_gI (pu_c38 hX), pu_gI (pu_c2 hX), pu_on (pu_c19 hX), pu_s_allPull (pu_st19 hX) v wf, pu_s_allLean (pu_st19 hX) v wf, v.1.1, v.1.2.1, v.1.2.2.1, v.1.2.2.2.1, v.1.2.2.2.2.1, v.1.2.2.2.2.2]
  simp only [pu_its]
theorem pu_m_count (hM : pu_M s R) (q : pu_Q (I 80) A) (wf : pu_wf A) (a : Int32) : fb_m_count 70 a (s, I, J, R) = some (pu_a_count A (I 70 2) (I 70 21) (I 80 148) (I 70 24) (I 70 22) (I 70 1) a, (s, I, J, R)) := by
  unfold fb_m_count pu_a_count
  by_cases h0 : a = 0
  · subst h0
    simp only [↓reduceIte, pu_gN (pu_m70 hM), pu_r20 hM, Option.bind_some, pu_cell' hM (show (0 : Int32) + 1 = nI 1 by decide) (show 1 < 149 by omega), q.1.2.1]
  · rw [if_neg h0, if_neg h0]
    by_cases h1 : a = 1
    · subst h1
      simp only [↓reduceIte, pu_gN (pu_m70 hM), pu_r20 hM, Option.bind_some, pu_cell' hM (show (1 : Int32) + 1 = nI 2 by decide) (show 2 < 149 by omega), q.1.2.2.1]
    · rw [if_neg h1, if_neg h1]
      simp only [pu_gN (pu_m70 hM), pu_r20 hM, Option.bind_some, pu_cell' hM (show (11 : Int32) = nI 11 from rfl) (show 11 < 149 by omega), pu_cell' hM (show (10 : Int32) = nI 10 from rfl) (show 10 < 149 by omega), pu_cell' hM (show (148 : Int32) = nI 148 from rfl) (show 148 < 149 by omega), q.1.2.2.2.1, q.1.2.2.2.2, pu_gI (pu_m70 hM), pu_on (pu_m70 hM), pu_m_standingOnes hM q wf, pu_m_linesUp hM q wf, pu_m_pullAll hM q wf, pu_m_leanAll hM q wf]
      simp only [pu_its]
theorem pu_x_seed (hX : pu_X s R) (a : Int32) : fb_x_seed 1 a (s, I, J, R) = if a < 0 then some (-1, (s, I, J, R)) else some (I 18 4, (s, tb_up2 I 18 4 a, J, R)) := by
  unfold fb_x_seed
  simp only [pu_gN (pu_c1 hX), pu_f1_5 hX, Option.bind_some, pu_gI (pu_c18 hX), pu_pI (pu_c18 hX)]
theorem pu_m_seed (hM : pu_M s R) (a : Int32) : fb_m_seed 70 a (s, I, J, R) = if a < 0 then some (-1, (s, I, J, R)) else some (I 70 22, (s, tb_up2 I 70 22 a, J, R)) := by
  unfold fb_m_seed
  simp only [pu_gI (pu_m70 hM), Option.bind_some, pu_pI (pu_m70 hM)]
/-- a number that names a rule or none -/
def pu_ir (rc : Nat) (a : Int32) : Bool := decide (a = -1) || (!decide (a < 0) && decide (a < nI rc))
theorem pu_x_force (hX : pu_X s R) {rc : Nat} (hr : rc ≤ 6) (e : I 1 4 = nI rc) (a : Int32) : fb_x_force 1 a (s, I, J, R) = if pu_ir rc a then some (I 18 3, (s, tb_up2 I 18 3 a, J, R)) else some (-2, (s, I, J, R)) := by
  unfold fb_x_force pu_ir
  simp only [pu_gI (pu_c1 hX), Option.bind_some, e, pu_gN (pu_c1 hX), pu_f1_5 hX, pu_gI (pu_c18 hX), pu_pI (pu_c18 hX)]
  by_cases h1 : a = -1
  · subst h1
    have : (-1 : Int32) < nI rc := by
      rw [Int32.lt_iff_toInt_lt, nI_toInt (by omega)]
      show (-1 : Int) < (rc : Int)
      omega
    simp [this]
  · by_cases h0 : a < 0
    · have hm : a < -1 := by
        rw [Int32.lt_iff_toInt_lt] at h0 ⊢
        have h2 : a.toInt ≠ (-1 : Int32).toInt := fun z => h1 (Int32.toInt_inj.mp z)
        have z0 : (0 : Int32).toInt = 0 := rfl
        have z1 : (-1 : Int32).toInt = -1 := rfl
        omega
      simp [h0, h1, hm]
    · have hm : ¬ a < -1 := by
        rw [Int32.lt_iff_toInt_lt] at h0 ⊢
        have z0 : (0 : Int32).toInt = 0 := rfl
        have z1 : (-1 : Int32).toInt = -1 := rfl
        omega
      simp [h0, h1, hm]
theorem pu_m_force (hM : pu_M s R) {rc : Nat} (e : I 70 2 = nI rc) (a : Int32) : fb_m_force 70 a (s, I, J, R) = if pu_ir rc a then some (I 70 21, (s, tb_up2 I 70 21 a, J, R)) else some (-2, (s, I, J, R)) := by
  unfold fb_m_force pu_ir fj_m_force_j9 fb_m_isRule
  simp only [pu_gI (pu_m70 hM), Option.bind_some, e, pu_pI (pu_m70 hM), pu_on (pu_m70 hM)]
  by_cases h1 : a = -1
  · simp [h1]
  · by_cases h0 : a < 0
    · simp [h0, h1]
    · by_cases h2 : a < nI rc
      · simp [h0, h1, h2, pu_gI (pu_m70 hM), pu_pI (pu_m70 hM)]
      · simp [h0, h1, h2]
end PUu
