/-! ===== newLine of the reference ===== -/
section PUc
variable {s : List (Nat × Nat)} {R : Nat → Nat → Option Nat} {I : Nat → Nat → Int32} {J : Nat → Nat → Int64} {A : pu_A} {ro : Option pu_Ru}
theorem pu_m_canHang (hM : pu_M s R) (q : pu_Q (I 80) A) (wf : pu_wf A) {o e : Nat} (ho : o < 2147483648) (he : e < 2147483648) : fb_m_canHang 70 (nI o) (nI e) (s, I, J, R) = some (pu_b (pu_can A o e), (s, I, J, R)) := by
  have h5 := wf.1
  have hct := pu_ct_le (A.2 0) 8
  unfold fb_m_canHang pu_can
  simp only [pu_on (pu_m70 hM), pu_m_isStanding hM q wf ho, pu_m_isStanding hM q wf he, Option.bind_some, pu_b0, pu_gN (pu_m70 hM), pu_r20 hM, pu_cell' hM (show (1 : Int32) = nI 1 from rfl) (show 1 < 149 by omega), q.1.2.1, pu_ltI ho (show A.1 0 0 < 2147483648 by omega), pu_ltI he (show A.1 0 0 < 2147483648 by omega), pu_m_linesUp hM q wf, pu_m_bits8, show (8 : Int32) = nI 8 from rfl, pu_ltI (show pu_ct (A.2 0) 8 < 2147483648 by omega) (show 8 < 2147483648 by omega), pu_ct_lnu]
  cases h1 : A.2 1 o
  · simp only [↓reduceIte, Bool.and_false, Bool.false_and, pu_bf]
  · cases h2 : A.2 1 e
    · simp only [Bool.true_eq_false, ↓reduceIte, Bool.and_false, Bool.false_and, pu_bf]
    · simp only [Bool.true_eq_false, ↓reduceIte, Bool.and_true]
      by_cases h3 : o < A.1 0 0
      · by_cases h4 : e < A.1 0 0
        · simp only [h3, h4, ↓reduceIte, show ¬ A.1 0 0 ≤ e by omega, decide_true, decide_false, Bool.and_false, Bool.false_and, pu_bf]
        · by_cases h6 : pu_lnu A < 8
          · simp only [h3, h4, h6, ↓reduceIte, show A.1 0 0 ≤ e by omega, decide_true, Bool.and_self, pu_bt]
          · simp only [h3, h4, h6, ↓reduceIte, show A.1 0 0 ≤ e by omega, decide_true, decide_false, Bool.and_false, pu_bf]
      · simp only [h3, ↓reduceIte, decide_false, Bool.false_and, pu_bf]
/-- years go by, who stands is counted, all is laid back -/
theorem pu_m_standIn {I0 : Nat → Nat → Int32} {J0 : Nat → Nat → Int64} {B : pu_A} (hM : pu_M s R) (q : pu_Q (I 80) B) (wf : pu_wf B) (hF : pu_FM I0 ro) {N : Nat} (hN : N ≤ 1000) (f : pu_Tf I0 I J0 J) (h82 : ∀ z, z < 64 → I 82 z = I0 80 (10 + z)) :
    ∃ I' J', fb_m_standIn 70 (nI N) (s, I, J, R) = some (nI (pu_ct ((pu_ys ro N B).2 1) 10), (s, I', J', R)) ∧ pu_Zf I0 I' J0 J' ∧ (∀ z, z < 64 → I' 82 z = I0 80 (10 + z)) := by
  obtain ⟨I3, J3, b1, b2, b3⟩ := pu_m_passesAll (J := J) hM q wf (pu_FM_tf f hF) (show N < 1000000 by omega)
  have wf3 := pu_ys_wf (ro := ro) N wf
  have f3 : pu_Tf I0 I3 J0 J3 := f.tr (pu_Tf.pf b3)
  have h823 : ∀ z, z < 64 → I3 82 z = I0 80 (10 + z) := fun z hz => by rw [b3.1 82 (by decide) (by decide)]; exact h82 z hz
  obtain ⟨I4, d1, d2, d3, -⟩ := pu_m_laysBack (I := I3) (I0 := I0) (J := J3) (J0 := J0) hM h823 f3
  refine ⟨I4, J3, ?_, d2, fun z hz => by rw [d3]; exact h823 z hz⟩
  unfold fb_m_standIn
  simp only [pu_on (pu_m70 hM), b1, Option.bind_some, pu_m_standingOnes hM b2 wf3, pu_m_bits, d1]
theorem pu_m_nl2 {I0 : Nat → Nat → Int32} {J0 : Nat → Nat → Int64} (hM : pu_M s R) (q : pu_Q (I0 80) A) (wf : pu_wf A) (hF : pu_FM I0 ro) {N m o : Nat} {w : Int32} (hN : N ≤ 40) (hm : m ≤ 40) (ho : o < A.1 0 0) : ∀ d e n I J (st : pu_N3), e + d = 2 * A.1 0 0 → A.1 0 0 ≤ e → d < n → pu_Zf I0 I J0 J → (∀ z, z < 64 → I 82 z = I0 80 (10 + z)) → st.1 ≤ 10 →
    ∃ I' J', fl_m_newLine_46 n 70 (nI m) (nI N) w st.2.1 st.2.2 (nI st.1) (nI o) (nI e) (s, I, J, R) = some (70, nI m, nI N, w, (pu_nl2 ro A N m o d e st).2.1, (pu_nl2 ro A N m o d e st).2.2, nI (pu_nl2 ro A N m o d e st).1, nI o, (s, I', J', R)) ∧ (pu_nl2 ro A N m o d e st).1 ≤ 10 ∧ pu_Zf I0 I' J0 J' ∧ (∀ z, z < 64 → I' 82 z = I0 80 (10 + z)) := by
  intro d
  have h5 := wf.1
  induction d with
  | zero =>
    intro e n I J st hi he hn f h82 h10
    obtain ⟨n, rfl⟩ : ∃ z, n = z + 1 := ⟨n - 1, by omega⟩
    have q1 : pu_Q (I 80) A := by rw [f.1 80 (by decide) (by omega)]; exact q
    unfold fl_m_newLine_46
    simp only [pu_on (pu_m70 hM), pu_m_houses hM q1, Option.bind_some, pu_ltI (show e < 2147483648 by omega) (show 2 * A.1 0 0 < 2147483648 by omega), show ¬ e < 2 * A.1 0 0 by omega, ↓reduceIte]
    exact ⟨I, J, rfl, h10, f, h82⟩
  | succ d ih =>
    intro e n I J st hi he hn f h82 h10
    obtain ⟨n, rfl⟩ : ∃ z, n = z + 1 := ⟨n - 1, by omega⟩
    have q1 : pu_Q (I 80) A := by rw [f.1 80 (by decide) (by omega)]; exact q
    rw [fl_m_newLine_46.eq_2]
    simp only [pu_on (pu_m70 hM), pu_m_houses hM q1, Option.bind_some, pu_ltI (show e < 2147483648 by omega) (show 2 * A.1 0 0 < 2147483648 by omega), show e < 2 * A.1 0 0 by omega, ↓reduceIte, pu_m_canHang hM q1 wf (show o < 2147483648 by omega) (show e < 2147483648 by omega), pu_b0]
    rw [← nI_succ]
    have es : pu_nl2 ro A N m o (d + 1) e st = pu_nl2 ro A N m o d (e + 1) (pu_nl1 ro A N m o e st) := rfl
    rw [es]
    cases hc : pu_can A o e
    · have e1 : pu_nl1 ro A N m o e st = st := by
        unfold pu_nl1
        rw [hc, if_neg (by decide)]
      rw [e1]
      simp only [↓reduceIte]
      exact ih (e + 1) n I J st (by omega) (by omega) (by omega) f h82 h10
    · have hl : pu_lnu A < 8 := by
        unfold pu_can at hc
        rw [Bool.and_eq_true, decide_eq_true_eq] at hc
        exact hc.2
      obtain ⟨I1, a1, a2, a3⟩ := pu_m_hangs (J := J) hM q1 wf hl o e m
      have wf2 := pu_put_wf wf (pu_lnu_le wf hl) hl ho he (show e < 2 * A.1 0 0 by omega) (show m ≤ 100 by omega)
      obtain ⟨I2, J2, b1, b2, b3⟩ := pu_m_standIn (J := J) (ro := ro) hM a2 wf2 hF (show N ≤ 1000 by omega) ((pu_Tf.zf f).tr (pu_Tf.mf a3)) (fun z hz => by rw [a3.1 82 (by decide)]; exact h82 z hz)
      have hc10 : pu_nlc ro A N m o e ≤ 10 := pu_ct_le _ 10
      rw [show pu_ct ((pu_ys ro N (pu_put A (pu_lnu A) o e m)).2 1) 10 = pu_nlc ro A N m o e from rfl] at b1
      simp only [Bool.true_eq_false, ↓reduceIte, a1, b1, Option.bind_some, pu_on (pu_m70 hM), pu_leI (show pu_nlc ro A N m o e < 2147483648 by omega) (show st.1 < 2147483648 by omega)]
      by_cases hlt : st.1 < pu_nlc ro A N m o e
      · have e1 : pu_nl1 ro A N m o e st = (pu_nlc ro A N m o e, nI o, nI e) := by
          unfold pu_nl1
          rw [if_pos hc, if_pos hlt]
        rw [e1]
        simp only [show ¬ pu_nlc ro A N m o e ≤ st.1 by omega, ↓reduceIte]
        exact ih (e + 1) n I2 J2 (pu_nlc ro A N m o e, nI o, nI e) (by omega) (by omega) (by omega) b2 b3 hc10
      · have e1 : pu_nl1 ro A N m o e st = st := by
          unfold pu_nl1
          rw [if_pos hc, if_neg hlt]
        rw [e1]
        simp only [show pu_nlc ro A N m o e ≤ st.1 by omega, ↓reduceIte]
        exact ih (e + 1) n I2 J2 st (by omega) (by omega) (by omega) b2 b3 h10
theorem pu_m_nl3 {I0 : Nat → Nat → Int32} {J0 : Nat → Nat → Int64} (hM : pu_M s R) (q : pu_Q (I0 80) A) (wf : pu_wf A) (hF : pu_FM I0 ro) {N m : Nat} {w : Int32} (hN : N ≤ 40) (hm : m ≤ 40) : ∀ d o n I J (st : pu_N3), o + d = A.1 0 0 → d < n → pu_Zf I0 I J0 J → (∀ z, z < 64 → I 82 z = I0 80 (10 + z)) → st.1 ≤ 10 →
    ∃ I' J', fl_m_newLine_35 n 70 (nI m) (nI N) w st.2.1 st.2.2 (nI st.1) (nI o) (s, I, J, R) = some (w, (pu_nl3 ro A N m d o st).2.1, (pu_nl3 ro A N m d o st).2.2, nI (pu_nl3 ro A N m d o st).1, (s, I', J', R)) ∧ pu_Zf I0 I' J0 J' := by
  intro d
  have h5 := wf.1
  induction d with
  | zero =>
    intro o n I J st hi hn f h82 h10
    obtain ⟨n, rfl⟩ : ∃ z, n = z + 1 := ⟨n - 1, by omega⟩
    have q1 : pu_Q (I 80) A := by rw [f.1 80 (by decide) (by omega)]; exact q
    unfold fl_m_newLine_35
    simp only [pu_gN (pu_m70 hM), pu_r20 hM, Option.bind_some, pu_cell' hM (show (1 : Int32) = nI 1 from rfl) (show 1 < 149 by omega), q1.1.2.1, pu_ltI (show o < 2147483648 by omega) (show A.1 0 0 < 2147483648 by omega), show ¬ o < A.1 0 0 by omega, ↓reduceIte]
    exact ⟨I, J, rfl, f⟩
  | succ d ih =>
    intro o n I J st hi hn f h82 h10
    obtain ⟨n, rfl⟩ : ∃ z, n = z + 1 := ⟨n - 1, by omega⟩
    have q1 : pu_Q (I 80) A := by rw [f.1 80 (by decide) (by omega)]; exact q
    obtain ⟨I1, J1, a1, a2, a3, a4⟩ := pu_m_nl2 (ro := ro) (w := w) (J0 := J0) hM q wf hF hN hm (show o < A.1 0 0 by omega) (A.1 0 0) (A.1 0 0) 1048576 I J st (by omega) (by omega) (by omega) f h82 h10
    rw [fl_m_newLine_35.eq_2]
    simp only [pu_gN (pu_m70 hM), pu_r20 hM, Option.bind_some, pu_cell' hM (show (1 : Int32) = nI 1 from rfl) (show 1 < 149 by omega), q1.1.2.1, pu_ltI (show o < 2147483648 by omega) (show A.1 0 0 < 2147483648 by omega), show o < A.1 0 0 by omega, ↓reduceIte, a1]
    rw [← nI_succ]
    have es : pu_nl3 ro A N m (d + 1) o st = pu_nl3 ro A N m d (o + 1) (pu_nl2 ro A N m o (A.1 0 0) (A.1 0 0) st) := rfl
    rw [es]
    exact ih (o + 1) n I1 J1 _ (by omega) (by omega) a3 a4 a2
theorem pu_Zf.kp {I1 : Nat → Nat → Int32} (a3 : ∀ q, q ≠ 82 → I1 q = I q) : pu_Zf I I1 J J := ⟨fun z _ h3 => a3 z (by omega), fun k _ => congrFun (a3 70 (by decide)) k, fun _ _ _ _ => rfl⟩
theorem pu_m_newLine (hM : pu_M s R) (q : pu_Q (I 80) A) (wf : pu_wf A) (hF : pu_FM I ro) (a b c : Int32) : ∃ I' J', fb_m_newLine 70 a b c (s, I, J, R) = some (pu_a_newLine ro A a b c, (s, I', J', R)) ∧ pu_Zf I I' J J' := by
  have h5 := wf.1
  unfold fb_m_newLine pu_a_newLine
  simp only [pu_on (pu_m70 hM), pu_m_isStreet hM q, Option.bind_some, pu_m_in a 1 40 (show (1 : Int64) = (1 : Int32).toInt64 from rfl) (show (40 : Int64) = (40 : Int32).toInt64 from rfl), pu_m_in b 1 40 (show (1 : Int64) = (1 : Int32).toInt64 from rfl) (show (40 : Int64) = (40 : Int32).toInt64 from rfl), pu_m_in c 0 2 (show (0 : Int64) = (0 : Int32).toInt64 from rfl) (show (2 : Int64) = (2 : Int32).toInt64 from rfl), pu_b0, decide_eq_false_iff_not]
  by_cases h0 : A.1 0 0 = 0
  · simp only [h0, Nat.lt_irrefl, not_false_eq_true, ↓reduceIte]
    exact ⟨I, J, rfl, pu_Zf.rf⟩
  · simp only [show 0 < A.1 0 0 by omega, not_true, ↓reduceIte, h0]
    cases h1 : pu_wi a 1 40
    · simp only [↓reduceIte]
      exact ⟨I, J, rfl, pu_Zf.rf⟩
    · cases h2 : pu_wi b 1 40
      · simp only [Bool.true_eq_false, ↓reduceIte]
        exact ⟨I, J, rfl, pu_Zf.rf⟩
      · cases h3 : pu_wi c 0 2
        · simp only [Bool.true_eq_false, ↓reduceIte]
          exact ⟨I, J, rfl, pu_Zf.rf⟩
        · obtain ⟨m, hm, rfl, -⟩ := pu_wi_n h1 (by decide) (show (40 : Int32) = nI 40 from rfl) (by omega)
          obtain ⟨N, hN, rfl, -⟩ := pu_wi_n h2 (by decide) (show (40 : Int32) = nI 40 from rfl) (by omega)
          obtain ⟨I1, a1, a2, a3⟩ := pu_m_keeps (I := I) (J := J) hM
          have q1 : pu_Q (I1 80) A := by rw [a3 80 (by decide)]; exact q
          obtain ⟨I2, J2, b1, b2, b3⟩ := pu_m_standIn (J := J) (ro := ro) hM q1 wf hF (show N ≤ 1000 by omega) (pu_Tf.kp a3) a2
          have hc10 : pu_ct ((pu_ys ro N A).2 1) 10 ≤ 10 := pu_ct_le _ 10
          obtain ⟨I3, J3, d1, d2⟩ := pu_m_nl3 (ro := ro) (w := c) (J0 := J) hM q wf hF hN hm (A.1 0 0) 0 1048576 I2 J2 (pu_ct ((pu_ys ro N A).2 1) 10, -1, -1) (by omega) (by omega) b2 b3 hc10
          rw [show nI 0 = 0 from rfl] at d1
          simp only [Bool.true_eq_false, ↓reduceIte, a1, b1, Option.bind_some, pu_on (pu_m70 hM), d1]
          rw [pu_cl (show m < 2147483648 by omega), pu_cl (show N < 2147483648 by omega)]
          refine ⟨I3, J3, ?_, d2⟩
          unfold pu_nl
          split
          · rfl
          · split <;> rfl
end PUc
