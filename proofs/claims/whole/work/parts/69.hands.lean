/-! ===== fewest, down, byThese of the reference ===== -/
section PUg
variable {s : List (Nat × Nat)} {R : Nat → Nat → Option Nat} {I : Nat → Nat → Int32} {J : Nat → Nat → Int64} {A : pu_A}
theorem pu_m_fewestSoThat_l {I0 : Nat → Nat → Int32} {J0 : Nat → Nat → Int64} (hM : pu_M s R) (q : pu_Q (I0 80) A) (wf : pu_wf A) (g : Nat → Bool) : ∀ d x n I b, x + d = pu_vl (A.2 0) 8 + 1 → d < n → (∀ z, b = some z → z < x) → pu_Zf I0 I J0 J → (∀ z, z < 64 → I 82 z = I0 80 (10 + z)) →
    ∃ I', fl_m_fewestSoThat_9 n 70 (pu_mk g 10) (pu_oi b) (nI (pu_vl (A.2 0) 8)) (nI x) (s, I, J, R) = some (pu_oi (pu_bs A (pu_pc A g) d x b), (s, I', J, R)) ∧ pu_Zf I0 I' J0 J := by
  intro d
  have hU : pu_vl (A.2 0) 8 < 256 := pu_vl_lt (A.2 0) 8
  induction d with
  | zero =>
    intro x n I b hi hn hb f h82
    obtain ⟨n, rfl⟩ : ∃ z, n = z + 1 := ⟨n - 1, by omega⟩
    unfold fl_m_fewestSoThat_9
    simp only [pu_leI (show x < 2147483648 by omega) (show pu_vl (A.2 0) 8 < 2147483648 by omega), show ¬ x ≤ pu_vl (A.2 0) 8 by omega, ↓reduceIte]
    exact ⟨I, rfl, f⟩
  | succ d ih =>
    intro x n I b hi hn hb f h82
    obtain ⟨n, rfl⟩ : ∃ z, n = z + 1 := ⟨n - 1, by omega⟩
    have hx : x < 256 := by omega
    have eU : nI (pu_vl (A.2 0) 8) = pu_mk (A.2 0) 8 := (pu_mk_vl _ (by omega)).symm
    have enx : nI x &&& (nI (pu_vl (A.2 0) 8) ^^^ (-1)) = pu_mk (fun k => x.testBit k && !A.2 0 k) 8 := by rw [eU, pu_set_no hx]
    -- a set that is better is tried
    have tri : ∀ (hbt : (pu_sb A x && pu_bt2 x b) = true), ∃ I', fj_m_fewestSoThat_j26 (fl_m_fewestSoThat_9 n) 70 (pu_mk g 10) (pu_oi b) (nI (pu_vl (A.2 0) 8)) (nI x) (s, I, J, R) = some (pu_oi (pu_bs A (pu_pc A g) (d + 1) x b), (s, I', J, R)) ∧ pu_Zf I0 I' J0 J := by
      intro hbt
      obtain ⟨I1, b1, b2, b3⟩ := pu_m_fallBy (J := J) (J0 := J0) hM q wf f h82 (fun k => x.testBit k)
      rw [← pu_nI_tb hx] at b1
      unfold fj_m_fewestSoThat_j26
      simp only [pu_on (pu_m70 hM), b1, Option.bind_some]
      rw [pu_mk_no _ _ (by omega) (by omega), pu_mk_cong 10 (fun k hk => show (g k && !(decide (k < 10) && pu_fw A (fun l => A.2 0 l && !x.testBit l) k)) = (g k && !pu_fw A (fun l => A.2 0 l && !x.testBit l) k) by rw [decide_eq_true hk, Bool.true_and]), ← nI_succ, pu_bs_s, hbt, Bool.true_and]
      by_cases h2 : pu_mk (fun k => g k && !pu_fw A (fun l => A.2 0 l && !x.testBit l) k) 10 = 0
      · have e : pu_pc A g x = true := decide_eq_true h2
        rw [if_pos h2, if_pos e]
        exact ih (x + 1) n I1 (some x) (by omega) (by omega) (fun z hz => by cases hz; omega) b2 b3
      · have e : ¬ pu_pc A g x = true := by unfold pu_pc; rw [decide_eq_true_eq]; exact h2
        rw [if_neg h2, if_neg e]
        exact ih (x + 1) n I1 b (by omega) (by omega) (fun z hz => by have := hb z hz; omega) b2 b3
    have skp : ∀ (hbt : (pu_sb A x && pu_bt2 x b) = false), ∃ I', fl_m_fewestSoThat_9 n 70 (pu_mk g 10) (pu_oi b) (nI (pu_vl (A.2 0) 8)) (nI x + 1) (s, I, J, R) = some (pu_oi (pu_bs A (pu_pc A g) (d + 1) x b), (s, I', J, R)) ∧ pu_Zf I0 I' J0 J := by
      intro hbt
      rw [← nI_succ, pu_bs_s, hbt, Bool.false_and, if_neg (by decide)]
      exact ih (x + 1) n I b (by omega) (by omega) (fun z hz => by have := hb z hz; omega) f h82
    unfold fl_m_fewestSoThat_9
    simp only [pu_leI (show x < 2147483648 by omega) (show pu_vl (A.2 0) 8 < 2147483648 by omega), show x ≤ pu_vl (A.2 0) 8 by omega, ↓reduceIte, enx]
    by_cases hs : pu_mk (fun k => x.testBit k && !A.2 0 k) 8 = 0
    · have esb : pu_sb A x = true := decide_eq_true hs
      rw [if_pos hs]
      cases b with
      | none =>
        rw [if_pos (show pu_oi none < 0 by decide)]
        exact tri (by rw [esb]; rfl)
      | some y =>
        have hy : y < 256 := by have := hb y rfl; omega
        have h1 := pu_cn_le x
        have h2 := pu_cn_le y
        rw [if_neg (show ¬ pu_oi (some y) < 0 from pu_lt0 (by omega))]
        rw [pu_mbits_x hx, Option.bind_some]
        rw [show fb_m_bits (pu_oi (some y)) = fb_m_bits (nI y) from rfl, pu_mbits_x hy, Option.bind_some]
        simp only [pu_ltI (show pu_cn x < 2147483648 by omega) (show pu_cn y < 2147483648 by omega)]
        by_cases h3 : pu_cn x < pu_cn y
        · rw [if_pos h3]
          exact tri (by rw [esb]; show (true && decide (pu_cn x < pu_cn y)) = true; rw [decide_eq_true h3]; rfl)
        · rw [if_neg h3]
          exact skp (by rw [esb]; show (true && decide (pu_cn x < pu_cn y)) = false; rw [decide_eq_false h3]; rfl)
    · have esb : pu_sb A x = false := decide_eq_false hs
      rw [if_neg hs]
      exact skp (by rw [esb]; rfl)
theorem pu_m_byThese_l {I0 : Nat → Nat → Int32} {J0 : Nat → Nat → Int64} (hM : pu_M s R) (q : pu_Q (I0 80) A) (wf : pu_wf A) (k0 : Int32) : ∀ d x n I b, x + d = pu_vl (A.2 0) 8 + 1 → d < n → (∀ z, b = some z → z < x) → pu_Zf I0 I J0 J → (∀ z, z < 64 → I 82 z = I0 80 (10 + z)) →
    ∃ I', fl_m_byThese_20 n 70 k0 (pu_oi b) (nI (pu_vl (A.2 0) 8)) (nI x) (s, I, J, R) = some (k0, pu_oi (pu_bs A (pu_pk A) d x b), (s, I', J, R)) ∧ pu_Zf I0 I' J0 J := by
  intro d
  have hU : pu_vl (A.2 0) 8 < 256 := pu_vl_lt (A.2 0) 8
  induction d with
  | zero =>
    intro x n I b hi hn hb f h82
    obtain ⟨n, rfl⟩ : ∃ z, n = z + 1 := ⟨n - 1, by omega⟩
    unfold fl_m_byThese_20
    simp only [pu_leI (show x < 2147483648 by omega) (show pu_vl (A.2 0) 8 < 2147483648 by omega), show ¬ x ≤ pu_vl (A.2 0) 8 by omega, ↓reduceIte]
    exact ⟨I, rfl, f⟩
  | succ d ih =>
    intro x n I b hi hn hb f h82
    obtain ⟨n, rfl⟩ : ∃ z, n = z + 1 := ⟨n - 1, by omega⟩
    have hx : x < 256 := by omega
    have eU : nI (pu_vl (A.2 0) 8) = pu_mk (A.2 0) 8 := (pu_mk_vl _ (by omega)).symm
    have enx : nI x &&& (nI (pu_vl (A.2 0) 8) ^^^ (-1)) = pu_mk (fun k => x.testBit k && !A.2 0 k) 8 := by rw [eU, pu_set_no hx]
    have tri : ∀ (hbt : (pu_sb A x && pu_bt2 x b) = true), ∃ I', fj_m_byThese_j37 (fl_m_byThese_20 n) 70 k0 (pu_oi b) (nI (pu_vl (A.2 0) 8)) (nI x) (s, I, J, R) = some (k0, pu_oi (pu_bs A (pu_pk A) (d + 1) x b), (s, I', J, R)) ∧ pu_Zf I0 I' J0 J := by
      intro hbt
      obtain ⟨I1, b1, b2, b3⟩ := pu_m_fallBy (J := J) (J0 := J0) hM q wf f h82 (fun k => A.2 0 k && !x.testBit k)
      have eu : (fun l => A.2 0 l && !(A.2 0 l && !x.testBit l)) = (fun l => A.2 0 l && x.testBit l) := by
        funext l
        cases A.2 0 l <;> cases x.testBit l <;> rfl
      rw [eu] at b1
      unfold fj_m_byThese_j37
      rw [eU, pu_up_no hx]
      simp only [pu_on (pu_m70 hM), b1, Option.bind_some]
      rw [← eU, ← nI_succ, pu_bs_s, hbt, Bool.true_and]
      by_cases h2 : pu_mk (pu_fw A (fun l => A.2 0 l && x.testBit l)) 10 = 0
      · have e : pu_pk A x = true := decide_eq_true h2
        rw [if_pos h2, if_pos e]
        exact ih (x + 1) n I1 (some x) (by omega) (by omega) (fun z hz => by cases hz; omega) b2 b3
      · have e : ¬ pu_pk A x = true := by unfold pu_pk; rw [decide_eq_true_eq]; exact h2
        rw [if_neg h2, if_neg e]
        exact ih (x + 1) n I1 b (by omega) (by omega) (fun z hz => by have := hb z hz; omega) b2 b3
    have skp : ∀ (hbt : (pu_sb A x && pu_bt2 x b) = false), ∃ I', fl_m_byThese_20 n 70 k0 (pu_oi b) (nI (pu_vl (A.2 0) 8)) (nI x + 1) (s, I, J, R) = some (k0, pu_oi (pu_bs A (pu_pk A) (d + 1) x b), (s, I', J, R)) ∧ pu_Zf I0 I' J0 J := by
      intro hbt
      rw [← nI_succ, pu_bs_s, hbt, Bool.false_and, if_neg (by decide)]
      exact ih (x + 1) n I b (by omega) (by omega) (fun z hz => by have := hb z hz; omega) f h82
    unfold fl_m_byThese_20
    simp only [pu_leI (show x < 2147483648 by omega) (show pu_vl (A.2 0) 8 < 2147483648 by omega), show x ≤ pu_vl (A.2 0) 8 by omega, ↓reduceIte, enx]
    by_cases hs : pu_mk (fun k => x.testBit k && !A.2 0 k) 8 = 0
    · have esb : pu_sb A x = true := decide_eq_true hs
      rw [if_pos hs]
      cases b with
      | none =>
        rw [if_pos (show pu_oi none < 0 by decide)]
        exact tri (by rw [esb]; rfl)
      | some y =>
        have hy : y < 256 := by have := hb y rfl; omega
        have h1 := pu_cn_le x
        have h2 := pu_cn_le y
        rw [if_neg (show ¬ pu_oi (some y) < 0 from pu_lt0 (by omega))]
        rw [pu_mbits_x hx, Option.bind_some]
        rw [show fb_m_bits (pu_oi (some y)) = fb_m_bits (nI y) from rfl, pu_mbits_x hy, Option.bind_some]
        simp only [pu_ltI (show pu_cn x < 2147483648 by omega) (show pu_cn y < 2147483648 by omega)]
        by_cases h3 : pu_cn x < pu_cn y
        · rw [if_pos h3]
          exact tri (by rw [esb]; show (true && decide (pu_cn x < pu_cn y)) = true; rw [decide_eq_true h3]; rfl)
        · rw [if_neg h3]
          exact skp (by rw [esb]; show (true && decide (pu_cn x < pu_cn y)) = false; rw [decide_eq_false h3]; rfl)
    · have esb : pu_sb A x = false := decide_eq_false hs
      rw [if_neg hs]
      exact skp (by rw [esb]; rfl)
theorem pu_m_fewestSoThat (hM : pu_M s R) (q : pu_Q (I 80) A) (wf : pu_wf A) (g : Nat → Bool) : ∃ I', fb_m_fewestSoThat 70 (pu_mk g 10) (s, I, J, R) = some (pu_oi (pu_bs A (pu_pc A g) 256 0 none), (s, I', J, R)) ∧ pu_Zf I I' J J := by
  have hU : pu_vl (A.2 0) 8 < 256 := pu_vl_lt (A.2 0) 8
  obtain ⟨I1, a1, a2, a3⟩ := pu_m_keeps (I := I) (J := J) hM
  obtain ⟨I2, b1, b2⟩ := pu_m_fewestSoThat_l (J := J) (J0 := J) (I0 := I) hM q wf g (pu_vl (A.2 0) 8 + 1) 0 1048576 I1 none (by omega) (by omega) (fun z hz => by cases hz) (pu_Zf.kp a3) a2
  refine ⟨I2, ?_, b2⟩
  rw [show nI 0 = 0 from rfl, show pu_oi none = -1 from rfl, ← pu_bs_cut] at b1
  unfold fb_m_fewestSoThat
  simp only [pu_on (pu_m70 hM), pu_m_linesUp hM q wf, Option.bind_some, a1]
  rw [pu_mk_vl _ (by omega : 8 ≤ 32), b1]
  rfl
theorem pu_m_fewest (hM : pu_M s R) (q : pu_Q (I 80) A) (wf : pu_wf A) (a b : Int32) : ∃ I' J', fb_m_fewest 70 a b (s, I, J, R) = some (pu_a_fewest A a b, (s, I', J', R)) ∧ pu_Zf I I' J J' := by
  have h5 := wf.1
  unfold fb_m_fewest pu_a_fewest
  simp only [pu_on (pu_m70 hM), pu_m_isStandingA hM q wf, Option.bind_some, pu_b0, pu_m_in b 0 1 (show (0 : Int64) = (0 : Int32).toInt64 from rfl) (show (1 : Int64) = (1 : Int32).toInt64 from rfl)]
  cases h1 : pu_hs A a
  · simp only [↓reduceIte]
    exact ⟨I, J, rfl, pu_Zf.rf⟩
  · simp only [Bool.true_eq_false, ↓reduceIte]
    cases h2 : pu_wi b 0 1
    · simp only [↓reduceIte]
      exact ⟨I, J, rfl, pu_Zf.rf⟩
    · obtain ⟨k, hk, rfl, -⟩ := pu_hs_n wf h1
      obtain ⟨I1, a1, a2⟩ := pu_m_fewestSoThat (J := J) hM q wf (fun z => decide (z = k))
      rw [← pu_mk_1 (show k < 10 by omega) (by omega)] at a1
      simp only [Bool.true_eq_false, ↓reduceIte, a1, Option.bind_some, pu_m_toldOf pu_bs_256]
      rw [pu_cl (show k < 2147483648 by omega)]
      exact ⟨I1, J, rfl, a2⟩
theorem pu_m_down (hM : pu_M s R) (q : pu_Q (I 80) A) (wf : pu_wf A) (b : Int32) : ∃ I' J', fb_m_down 70 b (s, I, J, R) = some (pu_a_down A b, (s, I', J', R)) ∧ pu_Zf I I' J J' := by
  unfold fb_m_down pu_a_down
  simp only [pu_on (pu_m70 hM), pu_m_isStreet hM q, Option.bind_some, pu_b0, decide_eq_false_iff_not, pu_m_in b 0 1 (show (0 : Int64) = (0 : Int32).toInt64 from rfl) (show (1 : Int64) = (1 : Int32).toInt64 from rfl)]
  by_cases h0 : A.1 0 0 = 0
  · simp only [h0, Nat.lt_irrefl, not_false_eq_true, ↓reduceIte]
    exact ⟨I, J, rfl, pu_Zf.rf⟩
  · simp only [show 0 < A.1 0 0 by omega, not_true, ↓reduceIte, h0]
    cases h2 : pu_wi b 0 1
    · simp only [↓reduceIte]
      exact ⟨I, J, rfl, pu_Zf.rf⟩
    · obtain ⟨I1, a1, a2⟩ := pu_m_fewestSoThat (J := J) hM q wf (A.2 1)
      simp only [Bool.true_eq_false, ↓reduceIte, pu_m_standingOnes hM q wf, Option.bind_some, pu_on (pu_m70 hM), a1, pu_m_toldOf pu_bs_256]
      exact ⟨I1, J, rfl, a2⟩
theorem pu_m_byThese (hM : pu_M s R) (q : pu_Q (I 80) A) (wf : pu_wf A) (b : Int32) : ∃ I' J', fb_m_byThese 70 b (s, I, J, R) = some (pu_a_byThese A b, (s, I', J', R)) ∧ pu_Zf I I' J J' := by
  have hU : pu_vl (A.2 0) 8 < 256 := pu_vl_lt (A.2 0) 8
  unfold fb_m_byThese pu_a_byThese
  simp only [pu_on (pu_m70 hM), pu_m_isStreet hM q, Option.bind_some, pu_b0, decide_eq_false_iff_not, pu_m_in b 0 1 (show (0 : Int64) = (0 : Int32).toInt64 from rfl) (show (1 : Int64) = (1 : Int32).toInt64 from rfl)]
  by_cases h0 : A.1 0 0 = 0
  · simp only [h0, Nat.lt_irrefl, not_false_eq_true, ↓reduceIte]
    exact ⟨I, J, rfl, pu_Zf.rf⟩
  · simp only [show 0 < A.1 0 0 by omega, not_true, ↓reduceIte, h0]
    cases h2 : pu_wi b 0 1
    · simp only [↓reduceIte]
      exact ⟨I, J, rfl, pu_Zf.rf⟩
    · obtain ⟨I1, a1, a2, a3⟩ := pu_m_keeps (I := I) (J := J) hM
      obtain ⟨I2, b1, b2⟩ := pu_m_byThese_l (J := J) (J0 := J) (I0 := I) hM q wf b (pu_vl (A.2 0) 8 + 1) 0 1048576 I1 none (by omega) (by omega) (fun z hz => by cases hz) (pu_Zf.kp a3) a2
      rw [show nI 0 = 0 from rfl, show pu_oi none = -1 from rfl, ← pu_bs_cut, ← pu_mk_vl _ (by omega : 8 ≤ 32)] at b1
      simp only [Bool.true_eq_false, ↓reduceIte, pu_m_linesUp hM q wf, Option.bind_some, pu_on (pu_m70 hM), a1, b1, pu_m_toldOf pu_bs_256]
      exact ⟨I2, J, rfl, b2⟩
end PUg
