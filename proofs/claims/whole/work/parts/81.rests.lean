/-! ===== rests of the reference: counting ===== -/
section PUt
variable {s : List (Nat × Nat)} {R : Nat → Nat → Option Nat} {I : Nat → Nat → Int32} {J : Nat → Nat → Int64} {A : pu_A} {ro : Option pu_Ru}
theorem pu_m_isRest_s (hM : pu_M s R) {G H : Nat → Nat} (hG : ∀ w, G w ≤ 1000 ∧ H w ≤ 1000) (hz : ∀ z, z < 4 → I 85 (2 * z) = nI (G z) ∧ I 85 (2 * z + 1) = nI (H z)) {a b k n : Nat} (ha : a < 2) (hb : b < 2) (hk : k < 2) : fl_m_isRest_2 (n + 1) 70 (nI a) (nI b) (nI k) (s, I, J, R) = if G (2 * k + b) ≤ G (2 * a + b) then (if H (2 * a + b) < H (2 * a + k) then some (0, (s, I, J, R)) else fl_m_isRest_2 n 70 (nI a) (nI b) (nI (k + 1)) (s, I, J, R)) else some (0, (s, I, J, R)) := by
  have hc : nI k < (2 : Int32) := by rw [show (2 : Int32) = nI 2 from rfl, pu_ltI (by omega) (by omega)]; omega
  have g1 := hG (2 * k + b)
  have g2 := hG (2 * a + b)
  have g3 := hG (2 * a + k)
  rw [fl_m_isRest_2.eq_2]
  simp only [hc, ↓reduceIte, pu_gN (pu_m70 hM), pu_r28 hM, Option.bind_some, pu_M2, nI_add, pu_R1, pu_lI (pu_m85 hM) (show 2 * (2 * k + b) < 8 by omega) (show 8 ≤ 100000 by omega), pu_lI (pu_m85 hM) (show 2 * (2 * a + b) < 8 by omega) (show 8 ≤ 100000 by omega), pu_lI (pu_m85 hM) (show 2 * (2 * a + k) + 1 < 8 by omega) (show 8 ≤ 100000 by omega), pu_lI (pu_m85 hM) (show 2 * (2 * a + b) + 1 < 8 by omega) (show 8 ≤ 100000 by omega), (hz (2 * k + b) (by omega)).1, (hz (2 * a + b) (by omega)).1, (hz (2 * a + k) (by omega)).2, (hz (2 * a + b) (by omega)).2, pu_leI (show G (2 * k + b) < 2147483648 by omega) (show G (2 * a + b) < 2147483648 by omega), pu_ltI (show H (2 * a + b) < 2147483648 by omega) (show H (2 * a + k) < 2147483648 by omega), fj_m_isRest_j51]
theorem pu_m_isRest (hM : pu_M s R) {G H : Nat → Nat} (hG : ∀ w, G w ≤ 1000 ∧ H w ≤ 1000) (hz : ∀ z, z < 4 → I 85 (2 * z) = nI (G z) ∧ I 85 (2 * z + 1) = nI (H z)) {w : Nat} (hw : w < 4) : fb_m_isRest 70 (nI w / 2) (nI w - nI w / 2 * 2) (s, I, J, R) = some (pu_b (pu_rs G H w), (s, I, J, R)) := by
  have hd : ∀ z, z < 4 → nI z / 2 = nI (z / 2) ∧ nI z - nI z / 2 * 2 = nI (z % 2) := by decide +kernel
  have e2 : ∀ n, fl_m_isRest_2 (n + 1) 70 (nI (w / 2)) (nI (w % 2)) (nI 2) (s, I, J, R) = some (1, (s, I, J, R)) := by
    intro n
    rw [fl_m_isRest_2.eq_2]
    rw [if_neg (by decide)]
    rfl
  unfold fb_m_isRest
  rw [(hd w hw).2, (hd w hw).1, show (0 : Int32) = nI 0 from rfl, show (1048576 : Nat) = 1048575 + 1 from rfl, pu_m_isRest_s hM hG hz (by omega) (by omega) (by omega), show (1048575 : Nat) = 1048574 + 1 from rfl, pu_m_isRest_s hM hG hz (by omega) (by omega) (by omega), show (1048574 : Nat) = 1048573 + 1 from rfl, e2]
  unfold pu_rs
  have : w = 0 ∨ w = 1 ∨ w = 2 ∨ w = 3 := by omega
  rcases this with e | e | e | e <;> subst e <;> simp only [Nat.reduceDiv, Nat.reduceMod, Nat.reduceMul, Nat.reduceAdd, Nat.reduceXor, Nat.zero_add, Nat.add_zero, Nat.le_refl, Nat.lt_irrefl, ↓reduceIte]
  · by_cases h1 : G 2 ≤ G 0
    · by_cases h2 : H 1 ≤ H 0
      · simp only [h1, h2, Nat.not_lt.mpr h2, ↓reduceIte, decide_true, Bool.and_self, pu_bt, Option.bind_some]
      · simp only [h1, h2, Nat.not_le.mp h2, ↓reduceIte, decide_true, decide_false, Bool.and_false, pu_bf, Option.bind_some]
    · simp only [h1, ↓reduceIte, decide_false, Bool.false_and, pu_bf, Option.bind_some]
  · by_cases h2 : H 0 ≤ H 1
    · by_cases h1 : G 3 ≤ G 1
      · simp only [h1, h2, Nat.not_lt.mpr h2, ↓reduceIte, decide_true, Bool.and_self, pu_bt, Option.bind_some]
      · simp only [h1, h2, Nat.not_lt.mpr h2, ↓reduceIte, decide_true, decide_false, Bool.false_and, pu_bf, Option.bind_some]
    · simp only [h2, Nat.not_le.mp h2, ↓reduceIte, decide_false, Bool.and_false, pu_bf, Option.bind_some]
  · by_cases h1 : G 0 ≤ G 2
    · by_cases h2 : H 3 ≤ H 2
      · simp only [h1, h2, Nat.not_lt.mpr h2, ↓reduceIte, decide_true, Bool.and_self, pu_bt, Option.bind_some]
      · simp only [h1, h2, Nat.not_le.mp h2, ↓reduceIte, decide_true, decide_false, Bool.and_false, pu_bf, Option.bind_some]
    · simp only [h1, ↓reduceIte, decide_false, Bool.false_and, pu_bf, Option.bind_some]
  · by_cases h1 : G 1 ≤ G 3
    · by_cases h2 : H 2 ≤ H 3
      · simp only [h1, h2, Nat.not_lt.mpr h2, ↓reduceIte, decide_true, Bool.and_self, pu_bt, Option.bind_some]
      · simp only [h1, h2, Nat.not_le.mp h2, ↓reduceIte, decide_true, decide_false, Bool.and_false, pu_bf, Option.bind_some]
    · simp only [h1, ↓reduceIte, decide_false, Bool.false_and, pu_bf, Option.bind_some]
theorem pu_m_rests_s (hM : pu_M s R) {G H : Nat → Nat} (hG : ∀ w, G w ≤ 1000 ∧ H w ≤ 1000) (hz : ∀ z, z < 4 → I 85 (2 * z) = nI (G z) ∧ I 85 (2 * z + 1) = nI (H z)) {w n : Nat} (hw : w < 4) (y m x : Int32) : fl_m_rests_46 (n + 1) 70 y m x (nI w) (s, I, J, R) = if pu_rs G H w = false then fl_m_rests_46 n 70 y m x (nI w + (-1)) (s, I, J, R) else fl_m_rests_46 n 70 y (m + 1) (nI w) (nI w + (-1)) (s, I, J, R) := by
  rw [fl_m_rests_46.eq_2]
  simp only [pu_lt0 (show w < 2147483648 by omega), ↓reduceIte, pu_on (pu_m70 hM), pu_m_isRest hM hG hz hw, Option.bind_some, pu_b0]
theorem pu_m_rests (hM : pu_M s R) (q : pu_Q (I 80) A) (wf : pu_wf A) (hF : pu_FM I ro) (a b c d : Int32) : ∃ I' J', fb_m_rests 70 a b c d (s, I, J, R) = some (pu_a_rests ro A a b c d, (s, I', J', R)) ∧ pu_Zf I I' J J' := by
  have h5 := wf.1
  unfold fb_m_rests pu_a_rests
  simp only [pu_on (pu_m70 hM), pu_m_isStandingA hM q wf, Option.bind_some, pu_b0, pu_m_in c 1 20 (show (1 : Int64) = (1 : Int32).toInt64 from rfl) (show (20 : Int64) = (20 : Int32).toInt64 from rfl), pu_m_in d 0 2 (show (0 : Int64) = (0 : Int32).toInt64 from rfl) (show (2 : Int64) = (2 : Int32).toInt64 from rfl)]
  by_cases hab : a = b
  · refine ⟨I, J, ?_, pu_Zf.rf⟩
    rw [if_pos hab, if_pos hab]
    split
    · rfl
    · split <;> rfl
  · rw [if_neg hab, if_neg hab]
    cases h1 : pu_hs A a
    · simp only [↓reduceIte]
      exact ⟨I, J, rfl, pu_Zf.rf⟩
    · cases h2 : pu_hs A b
      · simp only [Bool.true_eq_false, ↓reduceIte]
        exact ⟨I, J, rfl, pu_Zf.rf⟩
      · cases h3 : pu_wi c 1 20
        · simp only [Bool.true_eq_false, ↓reduceIte]
          exact ⟨I, J, rfl, pu_Zf.rf⟩
        · cases h4 : pu_wi d 0 2
          · simp only [Bool.true_eq_false, ↓reduceIte]
            exact ⟨I, J, rfl, pu_Zf.rf⟩
          · obtain ⟨o, ho, rfl, -⟩ := pu_hs_n wf h1
            obtain ⟨e, he, rfl, -⟩ := pu_hs_n wf h2
            obtain ⟨N, hN, rfl, -⟩ := pu_wi_n h3 (by decide) (show (20 : Int32) = nI 20 from rfl) (by omega)
            obtain ⟨I1, a1, a2, a3⟩ := pu_m_keeps (I := I) (J := J) hM
            obtain ⟨I2, J2, b1, b2, b3⟩ := pu_m_gains (I0 := I) (J0 := J) (ro := ro) (y := d) hM q wf hF ho he hN 4 0 1048576 I1 J (by omega) (by omega) (pu_Zf.kp a3) a2 (fun z hz => by omega)
            rw [show nI 0 = 0 from rfl] at b1
            have hG : ∀ w, pu_g0 ro A o e N w ≤ 1000 ∧ pu_g1 ro A o e N w ≤ 1000 := fun w => ⟨by have := pu_g0_le (ro := ro) (A := A) (o := o) (e := e) (n := N) (w := w); omega, by have := pu_g1_le (ro := ro) (A := A) (o := o) (e := e) (n := N) (w := w); omega⟩
            have ee : ∀ n m x, fl_m_rests_46 (n + 1) 70 d m x (-1) (s, I2, J2, R) = some (d, m, x, (s, I2, J2, R)) := by
              intro n m x
              rw [fl_m_rests_46.eq_2, if_pos (by decide)]
            simp only [Bool.true_eq_false, ↓reduceIte, a1, b1, Option.bind_some]
            rw [pu_cl (show o < 2147483648 by omega), pu_cl (show e < 2147483648 by omega), pu_cl (show N < 2147483648 by omega)]
            have st := fun (w n : Nat) (hw : w < 4) (m x : Int32) => pu_m_rests_s (J := J2) (n := n) hM hG b3 hw d m x
            generalize pu_g0 ro A o e N = G at st
            generalize pu_g1 ro A o e N = H at st
            have s3 := fun m x => st 3 1048575 (by omega) m x
            have s2 := fun m x => st 2 1048574 (by omega) m x
            have s1 := fun m x => st 1 1048573 (by omega) m x
            have s0 := fun m x => st 0 1048572 (by omega) m x
            have sm := fun m x => ee 1048571 m x
            have k3 : nI 3 + (-1 : Int32) = nI 2 := by decide
            have k2 : nI 2 + (-1 : Int32) = nI 1 := by decide
            have k1 : nI 1 + (-1 : Int32) = nI 0 := by decide
            have k0 : nI 0 + (-1 : Int32) = -1 := by decide
            rw [k3] at s3
            rw [k2] at s2
            rw [k1] at s1
            rw [k0] at s0
            refine ⟨I2, J2, ?_, b2⟩
            have key : ∀ r, fl_m_rests_46 1048576 70 d 0 (-1) 3 (s, I2, J2, R) = some r → ((some r : Option (Int32 × Int32 × Int32 × tb_Hp)).bind fun o9 => if o9.1 = 0 then some (o9.2.1, o9.2.2.2) else if o9.2.2.1 < 0 then some (-2, o9.2.2.2) else if o9.1 = 1 then some (o9.2.2.1 / 2, o9.2.2.2) else some (o9.2.2.1 - o9.2.2.1 / 2 * 2, o9.2.2.2)) = some ((if d = 0 then nI (pu_rf G H 4 0 (0, -2, -2)).1 else if d = 1 then (pu_rf G H 4 0 (0, -2, -2)).2.1 else (pu_rf G H 4 0 (0, -2, -2)).2.2), (s, I2, J2, R)) := by
              intro r hr
              have hr : fl_m_rests_46 (1048575 + 1) 70 d 0 (-1) (nI 3) (s, I2, J2, R) = some r := hr
              rw [s3] at hr
              rw [show (1048575 : Nat) = 1048574 + 1 from rfl] at hr
              simp only [s2] at hr
              rw [show (1048574 : Nat) = 1048573 + 1 from rfl] at hr
              simp only [s1] at hr
              rw [show (1048573 : Nat) = 1048572 + 1 from rfl] at hr
              simp only [s0] at hr
              rw [show (1048572 : Nat) = 1048571 + 1 from rfl] at hr
              simp only [sm] at hr
              cases r0 : pu_rs G H 0 <;> cases r1 : pu_rs G H 1 <;> cases r2 : pu_rs G H 2 <;> cases r3 : pu_rs G H 3 <;> simp only [r0, r1, r2, r3, Bool.true_eq_false, ↓reduceIte] at hr <;> cases hr <;> simp only [pu_rf, r0, r1, r2, r3, Bool.false_eq_true, ↓reduceIte, Option.bind_some, Nat.reduceAdd, Nat.reduceEqDiff] <;> (by_cases d0 : d = 0 <;> by_cases d1 : d = 1 <;> simp only [d0, d1, ↓reduceIte, ite_self] <;> first | rfl | (rw [if_neg (by decide)]; rfl) | (rw [if_pos (by decide)]; rfl))
            cases hh : fl_m_rests_46 1048576 70 d 0 (-1) 3 (s, I2, J2, R) with
            | none =>
              exfalso
              have hr : fl_m_rests_46 (1048575 + 1) 70 d 0 (-1) (nI 3) (s, I2, J2, R) = none := hh
              rw [s3] at hr
              rw [show (1048575 : Nat) = 1048574 + 1 from rfl] at hr
              simp only [s2] at hr
              rw [show (1048574 : Nat) = 1048573 + 1 from rfl] at hr
              simp only [s1] at hr
              rw [show (1048573 : Nat) = 1048572 + 1 from rfl] at hr
              simp only [s0] at hr
              rw [show (1048572 : Nat) = 1048571 + 1 from rfl] at hr
              simp only [sm] at hr
              cases r0 : pu_rs G H 0 <;> cases r1 : pu_rs G H 1 <;> cases r2 : pu_rs G H 2 <;> cases r3 : pu_rs G H 3 <;> simp [r0, r1, r2, r3] at hr
            | some r => exact key r hh
end PUt
