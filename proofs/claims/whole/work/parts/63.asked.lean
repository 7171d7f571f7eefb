/-! ===== falls and lasts ===== -/
def pu_a_falls (ro : Option pu_Ru) (A : pu_A) (b : Int32) : Int32 := if A.1 0 0 = 0 then -1 else if pu_wi b 0 1 = false then -1 else pu_a_fall ro A (fun _ => true) b
/-- a house by a number that may be anything -/
def pu_hs (A : pu_A) (a : Int32) : Bool := !decide (a < 0) && A.2 1 a.toNatClampNeg
def pu_a_lasts (ro : Option pu_Ru) (A : pu_A) (a : Int32) : Int32 := if pu_hs A a = false then -1 else pu_a_fall ro A (fun k => decide (k = a.toNatClampNeg)) 0
theorem pu_ne1 {n : Nat} (h : n < 2147483648) : ¬ nI n = -1 := by
  intro e
  have := pu_lt0 h
  rw [e] at this
  exact this (by decide)
section PUR
variable {s : List (Nat × Nat)} {R : Nat → Nat → Option Nat} {I : Nat → Nat → Int32} {J : Nat → Nat → Int64} {A : pu_A} {ro : Option pu_Ru}
theorem pu_s_standsA {p : Nat} (h : pu_St s R p) (v : pu_V I p A) (wf : pu_wf A) (a : Int32) : fb_s_stands p a (s, I, J, R) = some (pu_b (pu_hs A a), (s, I, J, R)) := by
  by_cases ha : a < 0
  · rw [pu_s_stands_neg h ha]
    unfold pu_hs
    rw [decide_eq_true ha]; rfl
  · obtain ⟨n, hn, rfl⟩ := nI_of ha
    rw [pu_s_stands h v wf (by omega)]
    unfold pu_hs
    rw [decide_eq_false ha, pu_cl (by omega)]
    rfl
theorem pu_m_isStandingA (hM : pu_M s R) (q : pu_Q (I 80) A) (wf : pu_wf A) (a : Int32) : fb_m_isStanding 70 a (s, I, J, R) = some (pu_b (pu_hs A a), (s, I, J, R)) := by
  by_cases ha : a < 0
  · rw [pu_m_isStanding_neg hM ha]
    unfold pu_hs
    rw [decide_eq_true ha]; rfl
  · obtain ⟨n, hn, rfl⟩ := nI_of ha
    rw [pu_m_isStanding hM q wf (by omega)]
    unfold pu_hs
    rw [decide_eq_false ha, pu_cl (by omega)]
    rfl
theorem pu_hs_n (wf : pu_wf A) {a : Int32} (h : pu_hs A a = true) : ∃ k, k < 2 * A.1 0 0 ∧ a = nI k ∧ A.2 1 k = true := by
  unfold pu_hs at h
  rw [Bool.and_eq_true, Bool.not_eq_true', decide_eq_false_iff_not] at h
  obtain ⟨n, hn, rfl⟩ := nI_of h.1
  rw [pu_cl (by omega)] at h
  exact ⟨n, wf.2.2.2.2.2.2.2 n h.2, rfl, h.2⟩
theorem pu_x_falls (hX : pu_X s R) (v : pu_V I 19 A) (wf : pu_wf A) (hF : pu_FX s I R ro) (hy : A.1 0 2 ≤ 1000000) (b : Int32) : ∃ I' J', fb_x_falls 1 b (s, I, J, R) = some (pu_a_falls ro A b, (s, I', J', R)) ∧ pu_Cf I I' J J' := by
  unfold fb_x_falls pu_a_falls
  simp only [pu_gN (pu_c1 hX), pu_f1_5 hX, pu_f1_10 hX, Option.bind_some, pu_on (pu_c18 hX), pu_sc_isEmpty hX v wf, pu_x_within, pu_b0, decide_eq_false_iff_not]
  by_cases h0 : A.1 0 0 = 0
  · simp only [h0, not_true, ↓reduceIte]
    exact ⟨I, J, rfl, pu_Cf.rf⟩
  · simp only [h0, not_false_eq_true, ↓reduceIte]
    cases h1 : pu_wi b 0 1
    · simp only [↓reduceIte]
      exact ⟨I, J, rfl, pu_Cf.rf⟩
    · obtain ⟨c, c1, c2⟩ := pu_x_ruleInForce (I := I) (J := J) (ro := ro) hX hF
      obtain ⟨I1, J1, a1, a2, a3⟩ := pu_yr_firstFall (J := J) hX v wf c2 (A.2 1)
      rw [pu_srch_all 200 (fun k hk => hk)] at a1 a2
      simp only [Bool.true_eq_false, ↓reduceIte, pu_gN (pu_c18 hX), pu_f18_0 hX, Option.bind_some, pu_on (pu_c1 hX), c1, pu_gN (pu_c1 hX), pu_f1_5 hX, pu_gI (pu_c19 hX), v.1.2.2.2.2.2, pu_on (pu_c52 hX), a1]
      refine ⟨I1, J1, ?_, a3⟩
      unfold pu_a_fall
      cases hs : pu_srch ro (fun _ => true) 200 A with
      | none => rfl
      | some B =>
        obtain ⟨y1, y2, y3⟩ := pu_srch_y 200 hs
        rw [pu_mk_cong 10 (fun k _ => Bool.and_true _)] at y3
        dsimp only
        rw [if_neg (pu_ne1 (by omega))]
        split
        · rfl
        · simp only [pu_gN (pu_c1 hX), pu_f1_10 hX, Option.bind_some, pu_gI (pu_c52 hX), a2 B hs, pu_x_leastOf y3]
theorem pu_x_lasts (hX : pu_X s R) (v : pu_V I 19 A) (wf : pu_wf A) (hF : pu_FX s I R ro) (hy : A.1 0 2 ≤ 1000000) (a : Int32) : ∃ I' J', fb_x_lasts 1 a (s, I, J, R) = some (pu_a_lasts ro A a, (s, I', J', R)) ∧ pu_Cf I I' J J' := by
  have h5 := wf.1
  unfold fb_x_lasts pu_a_lasts
  simp only [pu_gN (pu_c1 hX), pu_f1_5 hX, pu_f1_10 hX, Option.bind_some, pu_gN (pu_c18 hX), pu_f18_0 hX, pu_on (pu_c19 hX), pu_s_standsA (pu_st19 hX) v wf, pu_b0]
  cases h1 : pu_hs A a
  · simp only [↓reduceIte]
    exact ⟨I, J, rfl, pu_Cf.rf⟩
  · obtain ⟨k, hk, rfl, -⟩ := pu_hs_n wf h1
    obtain ⟨c, c1, c2⟩ := pu_x_ruleInForce (I := I) (J := J) (ro := ro) hX hF
    obtain ⟨I1, J1, a1, a2, a3⟩ := pu_yr_firstFall (J := J) hX v wf c2 (fun z => decide (z = k))
    rw [← pu_mk_1 (show k < 10 by omega) (by omega)] at a1
    simp only [Bool.true_eq_false, ↓reduceIte, pu_gN (pu_c1 hX), pu_f1_5 hX, pu_f1_10 hX, pu_gN (pu_c18 hX), pu_f18_0 hX, Option.bind_some, pu_on (pu_c1 hX), c1, pu_on (pu_c52 hX), a1]
    refine ⟨I1, J1, ?_, a3⟩
    rw [pu_cl (by omega)]
    unfold pu_a_fall
    cases hs : pu_srch ro (fun z => decide (z = k)) 200 A with
    | none => rfl
    | some B =>
      obtain ⟨y1, y2, y3⟩ := pu_srch_y 200 hs
      dsimp only
      rw [if_neg (pu_ne1 (by omega)), if_pos rfl]
theorem pu_m_falls_l (hM : pu_M s R) (b : Int32) : ∀ d i n I J A, i + d = 200 → d + 1 < n → pu_Q (I 80) A → pu_wf A → pu_FM I ro → A.1 0 2 + d ≤ 2000000 →
    ∃ I' J', fl_m_falls_17 n 70 b (-2) (nI i) (s, I, J, R) = some (70, (match pu_srch ro (fun _ => true) d A with | none => -2 | some B => if b = 0 then nI (B.1 0 2) else nI (pu_ff (pu_fallen B (pu_year ro B)) 10 0)), (s, I', J', R)) ∧ pu_Pf I I' J J' := by
  intro d
  induction d with
  | zero =>
    intro i n I J A hi hn q wf hF hy
    obtain ⟨n, rfl⟩ : ∃ z, n = z + 1 := ⟨n - 1, by omega⟩
    unfold fl_m_falls_17
    simp only [show (200 : Int32) = nI 200 from rfl, pu_ltI (show i < 2147483648 by omega) (show 200 < 2147483648 by omega), show ¬ i < 200 by omega, ↓reduceIte]
    exact ⟨I, J, rfl, pu_Pf.rf⟩
  | succ d ih =>
    intro i n I J A hi hn q wf hF hy
    obtain ⟨n, rfl⟩ : ∃ z, n = z + 1 + 1 := ⟨n - 2, by omega⟩
    obtain ⟨I1, J1, a1, a2, a3⟩ := pu_m_passes (J := J) hM q wf hF
    have ey : I1 80 10 = nI (A.1 0 2 + 1) := by
      have := a2.1.2.2.2.1
      rw [this, pu_year_y]
    -- behind an answer
    have fin : ∀ (k : Nat), k < 2147483648 → fl_m_falls_17 (n + 1) 70 b (nI k) (nI (i + 1)) (s, I1, J1, R) = some (70, nI k, (s, I1, J1, R)) := by
      intro k hk
      unfold fl_m_falls_17
      simp only [pu_lt0 hk, ↓reduceIte, ite_self]
    rw [fl_m_falls_17.eq_2]
    simp only [show (200 : Int32) = nI 200 from rfl, pu_ltI (show i < 2147483648 by omega) (show 200 < 2147483648 by omega), show i < 200 by omega, ↓reduceIte, show ((-2 : Int32) < 0) by decide, pu_on (pu_m70 hM), a1, Option.bind_some]
    rw [← nI_succ]
    have es : pu_srch ro (fun _ => true) (d + 1) A = if pu_mk (pu_fallen A (pu_year ro A)) 10 = 0 then pu_srch ro (fun _ => true) d (pu_year ro A) else some A := by
      show (if pu_mk (fun k => pu_fallen A (pu_year ro A) k && true) 10 = 0 then _ else _) = _
      rw [pu_mk_cong 10 (fun k _ => Bool.and_true _)]
    rw [es]
    by_cases h0 : pu_mk (pu_fallen A (pu_year ro A)) 10 = 0
    · rw [if_pos h0, if_pos h0]
      obtain ⟨I', J', b1, b2⟩ := ih (i + 1) (n + 1) I1 J1 (pu_year ro A) (by omega) (by omega) a2 (pu_year_wf wf) (pu_FM_eq a3 hF) (by rw [pu_year_y]; omega)
      exact ⟨I', J', b1, a3.tr b2⟩
    · rw [if_neg h0, if_neg h0]
      refine ⟨I1, J1, ?_, a3⟩
      dsimp only
      by_cases hb : b = 0
      · rw [if_pos hb, if_pos hb]
        simp only [pu_gN (pu_m70 hM), pu_r20 hM, Option.bind_some, pu_cell' hM (show (10 : Int32) = nI 10 from rfl) (show 10 < 149 by omega), ey, nI_pred]
        exact fin _ (by omega)
      · rw [if_neg hb, if_neg hb]
        simp only [pu_m_leastOf h0, Option.bind_some]
        have := pu_ff_lt h0
        exact fin _ (by omega)
theorem pu_Tf.kp {I1 : Nat → Nat → Int32} (a3 : ∀ q, q ≠ 82 → I1 q = I q) : pu_Tf I I1 J J := ⟨fun z _ _ h3 => a3 z (by omega), fun k _ => congrFun (a3 70 (by decide)) k, fun k _ => congrFun (a3 80 (by decide)) k, fun _ _ _ _ => rfl⟩
theorem pu_m_falls (hM : pu_M s R) (q : pu_Q (I 80) A) (wf : pu_wf A) (hF : pu_FM I ro) (hy : A.1 0 2 ≤ 1000000) (b : Int32) : ∃ I' J', fb_m_falls 70 b (s, I, J, R) = some (pu_a_falls ro A b, (s, I', J', R)) ∧ pu_Zf I I' J J' := by
  unfold fb_m_falls pu_a_falls
  simp only [pu_on (pu_m70 hM), pu_m_isStreet hM q, Option.bind_some, pu_m_in b 0 1 (show (0 : Int64) = (0 : Int32).toInt64 from rfl) (show (1 : Int64) = (1 : Int32).toInt64 from rfl), pu_b0, decide_eq_false_iff_not]
  by_cases h0 : A.1 0 0 = 0
  · simp only [h0, Nat.lt_irrefl, not_false_eq_true, ↓reduceIte]
    exact ⟨I, J, rfl, pu_Zf.rf⟩
  · simp only [show 0 < A.1 0 0 by omega, not_true, ↓reduceIte, h0]
    cases h1 : pu_wi b 0 1
    · simp only [↓reduceIte]
      exact ⟨I, J, rfl, pu_Zf.rf⟩
    · simp only [Bool.true_eq_false, ↓reduceIte]
      obtain ⟨I1, a1, a2, a3⟩ := pu_m_keeps (I := I) (J := J) hM
      have f1 : pu_Tf I I1 J J := pu_Tf.kp a3
      obtain ⟨I2, J2, b1, b3⟩ := pu_m_falls_l (ro := ro) hM b 200 0 1048576 I1 J A (by omega) (by omega) (by rw [a3 80 (by decide)]; exact q) wf (pu_FM_tf f1 hF) (by omega)
      have hk : ∀ k, k < 64 → I2 82 k = I 80 (10 + k) := fun k hk => by rw [b3.1 82 (by decide) (by decide)]; exact a2 k hk
      obtain ⟨I3, d1, d2, -, -⟩ := pu_m_laysBack (I := I2) (I0 := I) (J := J2) (J0 := J) hM hk (f1.tr (pu_Tf.pf b3))
      rw [show nI 0 = 0 from rfl] at b1
      simp only [a1, b1, Option.bind_some, pu_on (pu_m70 hM), d1]
      exact ⟨I3, J2, rfl, d2⟩
theorem pu_m_lasts_l (hM : pu_M s R) {h : Nat} (hh : h < 10) : ∀ d i n I J A, i + d = 200 → d + 1 < n → pu_Q (I 80) A → pu_wf A → pu_FM I ro → A.1 0 2 + d ≤ 2000000 →
    ∃ I' J', fl_m_lasts_12 n 70 (nI h) (-2) (nI i) (s, I, J, R) = some (70, (match pu_srch ro (fun z => decide (z = h)) d A with | none => -2 | some B => nI (B.1 0 2)), (s, I', J', R)) ∧ pu_Pf I I' J J' := by
  intro d
  induction d with
  | zero =>
    intro i n I J A hi hn q wf hF hy
    obtain ⟨n, rfl⟩ : ∃ z, n = z + 1 := ⟨n - 1, by omega⟩
    unfold fl_m_lasts_12
    simp only [show (200 : Int32) = nI 200 from rfl, pu_ltI (show i < 2147483648 by omega) (show 200 < 2147483648 by omega), show ¬ i < 200 by omega, ↓reduceIte]
    exact ⟨I, J, rfl, pu_Pf.rf⟩
  | succ d ih =>
    intro i n I J A hi hn q wf hF hy
    obtain ⟨n, rfl⟩ : ∃ z, n = z + 1 + 1 := ⟨n - 2, by omega⟩
    obtain ⟨I1, J1, a1, a2, a3⟩ := pu_m_passes (J := J) hM q wf hF
    have ey : I1 80 10 = nI (A.1 0 2 + 1) := by
      have := a2.1.2.2.2.1
      rw [this, pu_year_y]
    have fin : ∀ (k : Nat), k < 2147483648 → fl_m_lasts_12 (n + 1) 70 (nI h) (nI k) (nI (i + 1)) (s, I1, J1, R) = some (70, nI k, (s, I1, J1, R)) := by
      intro k hk
      unfold fl_m_lasts_12
      simp only [pu_lt0 hk, ↓reduceIte, ite_self]
    rw [fl_m_lasts_12.eq_2]
    simp only [show (200 : Int32) = nI 200 from rfl, pu_ltI (show i < 2147483648 by omega) (show 200 < 2147483648 by omega), show i < 200 by omega, ↓reduceIte, show ((-2 : Int32) < 0) by decide, pu_on (pu_m70 hM), a1, Option.bind_some, fb_m_isOf, pu_sh (pu_mk (pu_fallen A (pu_year ro A)) 10) (show h < 32 by omega), pu_mk_bt _ 10 (show 10 ≤ 32 by omega) h (show h < 32 by omega), hh, decide_true, Bool.true_and, pu_b1]
    rw [← nI_succ]
    have es : pu_srch ro (fun z => decide (z = h)) (d + 1) A = if pu_fallen A (pu_year ro A) h = false then pu_srch ro (fun z => decide (z = h)) d (pu_year ro A) else some A := by
      show (if pu_mk (fun k => pu_fallen A (pu_year ro A) k && decide (k = h)) 10 = 0 then _ else _) = _
      have e : (pu_mk (fun k => pu_fallen A (pu_year ro A) k && decide (k = h)) 10 = 0) = (pu_fallen A (pu_year ro A) h = false) := by
        rw [pu_mk0 (by omega)]
        apply propext
        constructor
        · intro hx
          have := hx h hh
          simpa using this
        · intro hx k _
          by_cases e : k = h
          · subst e; rw [hx]; rfl
          · rw [decide_eq_false e, Bool.and_false]
      simp only [e]
    rw [es]
    cases hf : pu_fallen A (pu_year ro A) h
    · simp only [Bool.false_eq_true, ↓reduceIte, Option.bind_some]
      obtain ⟨I', J', b1, b2⟩ := ih (i + 1) (n + 1) I1 J1 (pu_year ro A) (by omega) (by omega) a2 (pu_year_wf wf) (pu_FM_eq a3 hF) (by rw [pu_year_y]; omega)
      exact ⟨I', J', b1, a3.tr b2⟩
    · simp only [Bool.true_eq_false, ↓reduceIte, Option.bind_some, show ¬ ((1 : Int32) = 0) by decide, pu_gN (pu_m70 hM), pu_r20 hM, pu_cell' hM (show (10 : Int32) = nI 10 from rfl) (show 10 < 149 by omega), ey, nI_pred]
      exact ⟨I1, J1, fin _ (by omega), a3⟩
theorem pu_m_lasts (hM : pu_M s R) (q : pu_Q (I 80) A) (wf : pu_wf A) (hF : pu_FM I ro) (hy : A.1 0 2 ≤ 1000000) (a : Int32) : ∃ I' J', fb_m_lasts 70 a (s, I, J, R) = some (pu_a_lasts ro A a, (s, I', J', R)) ∧ pu_Zf I I' J J' := by
  have h5 := wf.1
  unfold fb_m_lasts pu_a_lasts
  simp only [pu_on (pu_m70 hM), pu_m_isStandingA hM q wf, Option.bind_some, pu_b0]
  cases h1 : pu_hs A a
  · simp only [↓reduceIte]
    exact ⟨I, J, rfl, pu_Zf.rf⟩
  · obtain ⟨k, hk, rfl, -⟩ := pu_hs_n wf h1
    simp only [Bool.true_eq_false, ↓reduceIte]
    obtain ⟨I1, a1, a2, a3⟩ := pu_m_keeps (I := I) (J := J) hM
    have f1 : pu_Tf I I1 J J := pu_Tf.kp a3
    obtain ⟨I2, J2, b1, b3⟩ := pu_m_lasts_l (ro := ro) hM (show k < 10 by omega) 200 0 1048576 I1 J A (by omega) (by omega) (by rw [a3 80 (by decide)]; exact q) wf (pu_FM_tf f1 hF) (by omega)
    have hk : ∀ k, k < 64 → I2 82 k = I 80 (10 + k) := fun k hk => by rw [b3.1 82 (by decide) (by decide)]; exact a2 k hk
    obtain ⟨I3, d1, d2, -, -⟩ := pu_m_laysBack (I := I2) (I0 := I) (J := J2) (J0 := J) hM hk (f1.tr (pu_Tf.pf b3))
    rw [show nI 0 = 0 from rfl] at b1
    simp only [a1, b1, Option.bind_some, pu_on (pu_m70 hM), d1]
    refine ⟨I3, J2, ?_, d2⟩
    rw [pu_cl (by omega)]
    unfold pu_a_fall
    cases pu_srch ro (fun z => decide (z = k)) 200 A <;> rfl
end PUR
