/-! ===== house, line, spare, pence ===== -/
def pu_a_house (A : pu_A) (a b : Int32) : Int32 := if pu_ih A a = false then -1 else if b = 0 then nI (A.1 1 a.toNatClampNeg) else if b = 1 then nI (A.1 2 a.toNatClampNeg) else if b = 2 then pu_b (A.2 1 a.toNatClampNeg) else if b = 3 then pu_mk (fun l => pu_at A l a.toNatClampNeg) 8 else -1
def pu_il (A : pu_A) (a : Int32) : Bool := !decide (a < 0) && decide (a.toNatClampNeg < A.1 0 3)
def pu_a_line (A : pu_A) (a b : Int32) : Int32 := if pu_il A a = false then -1 else if b = 0 then nI (A.1 3 a.toNatClampNeg) else if b = 1 then nI (A.1 4 a.toNatClampNeg) else if b = 2 then (if A.2 0 a.toNatClampNeg then nI (A.1 5 a.toNatClampNeg) else 0) else if b = 3 then pu_b (A.2 0 a.toNatClampNeg) else -1
def pu_a_spare (A : pu_A) (a : Int32) : Int32 := if pu_hs A a = false then -1000 else nI (pu_hold A a.toNatClampNeg) - nI (A.1 1 a.toNatClampNeg)
/-- pence: what is left, and how many are ahead, behind the houses from i on -/
def pu_pn (A : pu_A) (mu al ow : Int32) (h : Nat) : Nat → Nat → Int32 → Int32 → Int32 × Int32
  | 0, _, rs, bf => (rs, bf)
  | d + 1, i, rs, bf => if A.2 1 i = false then pu_pn A mu al ow h d (i + 1) rs bf else
    pu_pn A mu al ow h d (i + 1) (rs - (mu * nI (A.1 1 i)) / al) (if (ow - ow / al * al) < ((mu * nI (A.1 1 i)) - (mu * nI (A.1 1 i)) / al * al) then bf + 1 else if ((mu * nI (A.1 1 i)) - (mu * nI (A.1 1 i)) / al * al) = (ow - ow / al * al) then (if i < h then bf + 1 else bf) else bf)
def pu_a_pence (A : pu_A) (a b : Int32) : Int32 := if pu_wi a 0 9999 = false then -1 else if pu_ih A b = false then -1 else if pu_allLean A = 0 then 0 else if A.2 1 b.toNatClampNeg = false then 0 else
  if (pu_pn A a (nI (pu_allLean A)) (a * nI (A.1 1 b.toNatClampNeg)) b.toNatClampNeg (2 * A.1 0 0) 0 a 0).2 < (pu_pn A a (nI (pu_allLean A)) (a * nI (A.1 1 b.toNatClampNeg)) b.toNatClampNeg (2 * A.1 0 0) 0 a 0).1 then (a * nI (A.1 1 b.toNatClampNeg)) / nI (pu_allLean A) + 1 else (a * nI (A.1 1 b.toNatClampNeg)) / nI (pu_allLean A)
theorem pu_allLean_le {A : pu_A} (wf : pu_wf A) : pu_allLean A ≤ 10000 := by
  have h5 := wf.1
  have h := pu_sm_le (f := fun h => if A.2 1 h then A.1 1 h else 0) (c := 1000) (fun k => by
    show (if A.2 1 k then A.1 1 k else 0) ≤ 1000
    split
    · exact (wf.2.2.2.1 k).1
    · omega) (2 * A.1 0 0)
  unfold pu_allLean
  omega
section PUk
variable {s : List (Nat × Nat)} {R : Nat → Nat → Option Nat} {I : Nat → Nat → Int32} {J : Nat → Nat → Int64} {A : pu_A}
theorem pu_x_house (hX : pu_X s R) (v : pu_V I 19 A) (wf : pu_wf A) (a b : Int32) : ∃ I' J', fb_x_house 1 a b (s, I, J, R) = some (pu_a_house A a b, (s, I', J', R)) ∧ pu_Cf I I' J J' := by
  have h5 := wf.1
  refine ⟨I, J, ?_, pu_Cf.rf⟩
  unfold fb_x_house pu_a_house
  simp only [pu_gN (pu_c1 hX), pu_f1_5 hX, Option.bind_some, pu_gN (pu_c18 hX), pu_f18_0 hX, pu_on (pu_c19 hX), pu_s_isHouseA (pu_st19 hX) v wf, pu_b0]
  cases h1 : pu_ih A a
  · simp only [↓reduceIte]
  · obtain ⟨k, hk, rfl⟩ := pu_ih_n h1
    simp only [Bool.true_eq_false, ↓reduceIte, pu_s_leanOf (pu_st19 hX) v wf hk, pu_s_footOf (pu_st19 hX) v wf hk, pu_s_stands (pu_st19 hX) v wf (show k < 2147483648 by omega), pu_s_linesAt (pu_st19 hX) v wf hk, Option.bind_some, pu_b0, pu_cl (show k < 2147483648 by omega)]
    by_cases b0 : b = 0
    · simp only [b0, ↓reduceIte]
    · by_cases b1 : b = 1
      · simp only [b0, b1, ↓reduceIte]; rfl
      · by_cases b2 : b = 2
        · rw [if_neg b0, if_neg b1, if_pos b2, if_neg b0, if_neg b1, if_pos b2]
          cases A.2 1 k <;> rfl
        · by_cases b3 : b = 3
          · rw [if_neg b0, if_neg b1, if_neg b2, if_pos b3, if_neg b0, if_neg b1, if_neg b2, if_pos b3]
          · rw [if_neg b0, if_neg b1, if_neg b2, if_neg b3, if_neg b0, if_neg b1, if_neg b2, if_neg b3]
theorem pu_m_house (hM : pu_M s R) (q : pu_Q (I 80) A) (wf : pu_wf A) (a b : Int32) : ∃ I' J', fb_m_house 70 a b (s, I, J, R) = some (pu_a_house A a b, (s, I', J', R)) ∧ pu_Zf I I' J J' := by
  have h5 := wf.1
  refine ⟨I, J, ?_, pu_Zf.rf⟩
  unfold fb_m_house pu_a_house
  simp only [pu_on (pu_m70 hM), pu_m_isHouseA hM q wf, Option.bind_some, pu_b0]
  cases h1 : pu_ih A a
  · simp only [↓reduceIte]
  · obtain ⟨k, hk, rfl⟩ := pu_ih_n h1
    simp only [Bool.true_eq_false, ↓reduceIte, pu_gN (pu_m70 hM), pu_r20 hM, Option.bind_some, pu_cell' hM (pu_L12 k) (show 12 + k < 149 by omega), pu_cell' hM (pu_L22 k) (show 22 + k < 149 by omega), pu_cell' hM (pu_L32 k) (show 32 + k < 149 by omega), (q.2.1 k (by omega)).1, (q.2.1 k (by omega)).2, q.2.2.1 k hk, pu_on (pu_m70 hM), pu_m_linesAt hM q wf (show k < 2147483648 by omega), pu_cl (show k < 2147483648 by omega)]
    by_cases b0 : b = 0
    · simp only [b0, ↓reduceIte]
    · rw [if_neg b0, if_neg b0]
      by_cases b1 : b = 1
      · rw [if_pos b1, if_pos b1]
      · rw [if_neg b1, if_neg b1]
        by_cases b2 : b = 2
        · rw [if_pos b2, if_pos b2]
        · rw [if_neg b2, if_neg b2]
          by_cases b3 : b = 3
          · rw [if_pos b3, if_pos b3]
          · rw [if_neg b3, if_neg b3]
theorem pu_s_isLineA {p : Nat} (h : pu_St s R p) (v : pu_V I p A) (wf : pu_wf A) (a : Int32) : fb_s_isLine p a (s, I, J, R) = some (pu_b (pu_il A a), (s, I, J, R)) := by
  unfold pu_il
  by_cases ha : a < 0
  · rw [pu_s_isLine_neg ha, decide_eq_true ha]; rfl
  · obtain ⟨n, hn, rfl⟩ := nI_of ha
    rw [pu_s_isLine h v wf (by omega), decide_eq_false ha, pu_cl (by omega)]; rfl
theorem pu_m_isLineA (hM : pu_M s R) (q : pu_Q (I 80) A) (wf : pu_wf A) (a : Int32) : fb_m_isLine 70 a (s, I, J, R) = some (pu_b (pu_il A a), (s, I, J, R)) := by
  unfold pu_il
  by_cases ha : a < 0
  · rw [pu_m_isLine_neg ha, decide_eq_true ha]; rfl
  · obtain ⟨n, hn, rfl⟩ := nI_of ha
    rw [pu_m_isLine hM q wf (by omega), decide_eq_false ha, pu_cl (by omega)]; rfl
theorem pu_il_n {a : Int32} (h : pu_il A a = true) : ∃ k, k < A.1 0 3 ∧ a = nI k := by
  unfold pu_il at h
  rw [Bool.and_eq_true, Bool.not_eq_true', decide_eq_false_iff_not, decide_eq_true_eq] at h
  obtain ⟨n, hn, rfl⟩ := nI_of h.1
  rw [pu_cl (by omega)] at h
  exact ⟨n, h.2, rfl⟩
theorem pu_x_line (hX : pu_X s R) (v : pu_V I 19 A) (wf : pu_wf A) (a b : Int32) : ∃ I' J', fb_x_line 1 a b (s, I, J, R) = some (pu_a_line A a b, (s, I', J', R)) ∧ pu_Cf I I' J J' := by
  have h5 := wf.2.2.1
  refine ⟨I, J, ?_, pu_Cf.rf⟩
  unfold fb_x_line pu_a_line
  simp only [pu_gN (pu_c1 hX), pu_f1_5 hX, Option.bind_some, pu_gN (pu_c18 hX), pu_f18_0 hX, pu_on (pu_c19 hX), pu_s_isLineA (pu_st19 hX) v wf, pu_b0]
  cases h1 : pu_il A a
  · simp only [↓reduceIte]
  · obtain ⟨k, hk, rfl⟩ := pu_il_n h1
    simp only [Bool.true_eq_false, ↓reduceIte, pu_s_oddOf (pu_st19 hX) v wf hk, pu_s_evenOf (pu_st19 hX) v wf hk, pu_s_isUp (pu_st19 hX) v wf (show k < 2147483648 by omega), pu_s_pullOf (pu_st19 hX) v wf hk, Option.bind_some, pu_b0, pu_cl (show k < 2147483648 by omega), pu_on (pu_c19 hX)]
    by_cases b0 : b = 0
    · simp only [b0, ↓reduceIte]
    · rw [if_neg b0, if_neg b0]
      by_cases b1 : b = 1
      · rw [if_pos b1, if_pos b1]
      · rw [if_neg b1, if_neg b1]
        by_cases b2 : b = 2
        · rw [if_pos b2, if_pos b2]
          cases hu : A.2 0 k
          · rfl
          · simp only [Bool.true_eq_false, ↓reduceIte, (v.2.2 k hk).2.2 hu]
        · rw [if_neg b2, if_neg b2]
          by_cases b3 : b = 3
          · rw [if_pos b3, if_pos b3]
            cases A.2 0 k <;> rfl
          · rw [if_neg b3, if_neg b3]
theorem pu_m_line (hM : pu_M s R) (q : pu_Q (I 80) A) (wf : pu_wf A) (a b : Int32) : ∃ I' J', fb_m_line 70 a b (s, I, J, R) = some (pu_a_line A a b, (s, I', J', R)) ∧ pu_Zf I I' J J' := by
  have h5 := wf.2.2.1
  refine ⟨I, J, ?_, pu_Zf.rf⟩
  unfold fb_m_line pu_a_line
  simp only [pu_on (pu_m70 hM), pu_m_isLineA hM q wf, Option.bind_some, pu_b0, pu_m_in b 0 3 (show (0 : Int64) = (0 : Int32).toInt64 from rfl) (show (3 : Int64) = (3 : Int32).toInt64 from rfl)]
  cases h1 : pu_il A a
  · simp only [↓reduceIte]
  · obtain ⟨k, hk, rfl⟩ := pu_il_n h1
    have d := q.2.2.2 k hk
    simp only [Bool.true_eq_false, ↓reduceIte, pu_cl (show k < 2147483648 by omega)]
    cases h2 : pu_wi b 0 3
    · have hn : ∀ j, j ≤ 3 → ¬ b = nI j := by
        intro j hj e
        rw [e] at h2
        have : ∀ z, z < 4 → pu_wi (nI z) 0 3 = true := by decide +kernel
        rw [this j (by omega)] at h2
        cases h2
      simp only [↓reduceIte]
      rw [if_neg (show ¬ b = 0 from hn 0 (by omega)), if_neg (show ¬ b = 1 from hn 1 (by omega)), if_neg (show ¬ b = 2 from hn 2 (by omega)), if_neg (show ¬ b = 3 from hn 3 (by omega))]
    · obtain ⟨j, hj, rfl, -⟩ := pu_wi_n h2 (by decide) (show (3 : Int32) = nI 3 from rfl) (by omega)
      have e : (42 : Int32) + 4 * nI k + nI j = nI (42 + 4 * k + j) := by rw [pu_M4, pu_L42, nI_add]
      simp only [Bool.true_eq_false, ↓reduceIte, pu_gN (pu_m70 hM), pu_r20 hM, Option.bind_some, pu_cell' hM e (show 42 + 4 * k + j < 149 by omega)]
      have : j = 0 ∨ j = 1 ∨ j = 2 ∨ j = 3 := by omega
      rcases this with e | e | e | e
      · subst e
        rw [if_pos (show nI 0 = 0 from rfl), Nat.add_zero, d.1]
      · subst e
        rw [if_neg (by decide), if_pos (show nI 1 = 1 from rfl), d.2.1]
      · subst e
        rw [if_neg (by decide), if_neg (by decide), if_pos (show nI 2 = 2 from rfl), d.2.2.1]
      · subst e
        rw [if_neg (by decide), if_neg (by decide), if_neg (by decide), if_pos (show nI 3 = 3 from rfl), d.2.2.2]
theorem pu_x_spare (hX : pu_X s R) (v : pu_V I 19 A) (wf : pu_wf A) (a : Int32) : ∃ I' J', fb_x_spare 1 a (s, I, J, R) = some (pu_a_spare A a, (s, I', J', R)) ∧ pu_Cf I I' J J' := by
  have h5 := wf.1
  unfold fb_x_spare pu_a_spare
  simp only [pu_gN (pu_c1 hX), pu_f1_5 hX, Option.bind_some, pu_gN (pu_c18 hX), pu_f18_0 hX, pu_on (pu_c19 hX), pu_s_standsA (pu_st19 hX) v wf, pu_b0]
  cases h1 : pu_hs A a
  · simp only [↓reduceIte]
    exact ⟨I, J, rfl, pu_Cf.rf⟩
  · obtain ⟨k, hk, rfl, -⟩ := pu_hs_n wf h1
    obtain ⟨I1, a1, a2⟩ := pu_s_holdOf (J := J) (pu_st19 hX) v wf hk
    have v1 : pu_V I1 19 A := pu_V_eq (fun j hj => a2 _ (by omega)) v
    simp only [Bool.true_eq_false, ↓reduceIte, pu_on (pu_c19 hX), a1, Option.bind_some, pu_s_leanOf (pu_st19 hX) v1 wf hk]
    rw [pu_cl (show k < 2147483648 by omega)]
    exact ⟨I1, J, rfl, pu_Cf.h6 a2⟩
theorem pu_m_spare (hM : pu_M s R) (q : pu_Q (I 80) A) (wf : pu_wf A) (a : Int32) : ∃ I' J', fb_m_spare 70 a (s, I, J, R) = some (pu_a_spare A a, (s, I', J', R)) ∧ pu_Zf I I' J J' := by
  have h5 := wf.1
  refine ⟨I, J, ?_, pu_Zf.rf⟩
  unfold fb_m_spare pu_a_spare
  simp only [pu_on (pu_m70 hM), pu_m_isStandingA hM q wf, Option.bind_some, pu_b0]
  cases h1 : pu_hs A a
  · simp only [↓reduceIte]
  · obtain ⟨k, hk, rfl, -⟩ := pu_hs_n wf h1
    simp only [Bool.true_eq_false, ↓reduceIte, pu_m_spareOf hM q wf (show k < 10 by omega), Option.bind_some]
    rw [pu_cl (show k < 2147483648 by omega)]
theorem pu_x_pence_l (hX : pu_X s R) (v : pu_V I 19 A) (wf : pu_wf A) {mu al ow : Int32} {h : Nat} (hal : ¬ al = 0) (hh : h < 10) : ∀ d i n rs bf, i + d = 2 * A.1 0 0 → d < n → fl_x_penceOf_23 n 19 mu (nI h) al ow rs bf (nI i) (s, I, J, R) = some (al, ow, (pu_pn A mu al ow h d i rs bf).1, (pu_pn A mu al ow h d i rs bf).2, (s, I, J, R)) := by
  intro d
  have h5 := wf.1
  induction d with
  | zero =>
    intro i n rs bf hi hn
    obtain ⟨n, rfl⟩ : ∃ z, n = z + 1 := ⟨n - 1, by omega⟩
    unfold fl_x_penceOf_23
    simp only [pu_on (pu_c19 hX), pu_s_houses (pu_st19 hX) v, Option.bind_some, pu_ltI (show i < 2147483648 by omega) (show 2 * A.1 0 0 < 2147483648 by omega), show ¬ i < 2 * A.1 0 0 by omega, ↓reduceIte]
    rfl
  | succ d ih =>
    intro i n rs bf hi hn
    obtain ⟨n, rfl⟩ : ∃ z, n = z + 1 := ⟨n - 1, by omega⟩
    have es : pu_pn A mu al ow h (d + 1) i rs bf = if A.2 1 i = false then pu_pn A mu al ow h d (i + 1) rs bf else pu_pn A mu al ow h d (i + 1) (rs - (mu * nI (A.1 1 i)) / al) (if (ow - ow / al * al) < ((mu * nI (A.1 1 i)) - (mu * nI (A.1 1 i)) / al * al) then bf + 1 else if ((mu * nI (A.1 1 i)) - (mu * nI (A.1 1 i)) / al * al) = (ow - ow / al * al) then (if i < h then bf + 1 else bf) else bf) := rfl
    rw [es]
    rw [fl_x_penceOf_23.eq_2]
    simp only [pu_on (pu_c19 hX), pu_s_houses (pu_st19 hX) v, Option.bind_some, pu_ltI (show i < 2147483648 by omega) (show 2 * A.1 0 0 < 2147483648 by omega), show i < 2 * A.1 0 0 by omega, ↓reduceIte, pu_s_stands (pu_st19 hX) v wf (show i < 2147483648 by omega), pu_b0]
    rw [← nI_succ]
    cases h1 : A.2 1 i
    · simp only [↓reduceIte]
      exact ih (i + 1) n rs bf (by omega) (by omega)
    · simp only [Bool.true_eq_false, ↓reduceIte, pu_on (pu_c19 hX), pu_s_leanOf (pu_st19 hX) v wf (show i < 2 * A.1 0 0 by omega), Option.bind_some, hal, fj_x_penceOf_j53, ← nI_succ, show ¬ ((1 : Int32) = 0) by decide, pu_ltI (show i < 2147483648 by omega) (show h < 2147483648 by omega)]
      split
      · exact ih (i + 1) n _ _ (by omega) (by omega)
      · split
        · split
          · exact ih (i + 1) n _ _ (by omega) (by omega)
          · exact ih (i + 1) n _ _ (by omega) (by omega)
        · exact ih (i + 1) n _ _ (by omega) (by omega)
theorem pu_x_pence (hX : pu_X s R) (v : pu_V I 19 A) (wf : pu_wf A) (a b : Int32) : ∃ I' J', fb_x_pence 1 a b (s, I, J, R) = some (pu_a_pence A a b, (s, I', J', R)) ∧ pu_Cf I I' J J' := by
  have h5 := wf.1
  have hle := pu_allLean_le wf
  refine ⟨I, J, ?_, pu_Cf.rf⟩
  unfold fb_x_pence pu_a_pence
  simp only [pu_x_within, Option.bind_some, pu_b0]
  cases h1 : pu_wi a 0 9999
  · simp only [↓reduceIte]
  · simp only [Bool.true_eq_false, ↓reduceIte, pu_gN (pu_c1 hX), pu_f1_5 hX, Option.bind_some, pu_gN (pu_c18 hX), pu_f18_0 hX, pu_on (pu_c19 hX), pu_s_isHouseA (pu_st19 hX) v wf, pu_b0]
    cases h2 : pu_ih A b
    · simp only [↓reduceIte]
    · obtain ⟨k, hk, rfl⟩ := pu_ih_n h2
      rw [pu_cl (show k < 2147483648 by omega)]
      simp only [Bool.true_eq_false, ↓reduceIte, pu_gN (pu_c1 hX), pu_f1_5 hX, Option.bind_some, pu_gN (pu_c18 hX), pu_f18_0 hX, fb_x_penceOf, pu_on (pu_c19 hX), pu_s_allLean (pu_st19 hX) v wf, show (0 : Int32) < nI (pu_allLean A) ↔ 0 < pu_allLean A from by rw [show (0 : Int32) = nI 0 from rfl, pu_ltI (by omega) (by omega)], pu_s_stands (pu_st19 hX) v wf (show k < 2147483648 by omega), pu_b0]
      by_cases h3 : pu_allLean A = 0
      · simp only [h3, Nat.lt_irrefl, ↓reduceIte, Option.bind_some]
      · simp only [h3, show 0 < pu_allLean A by omega, ↓reduceIte]
        cases h4 : A.2 1 k
        · simp only [↓reduceIte, Option.bind_some]
        · have hal : ¬ nI (pu_allLean A) = 0 := by
            rw [show (0 : Int32) = nI 0 from rfl, pu_eqI (by omega) (by omega)]
            exact h3
          have e := pu_x_pence_l (J := J) hX v wf (mu := a) (ow := a * nI (A.1 1 k)) hal (show k < 10 by omega) (2 * A.1 0 0) 0 1048576 a 0 (by omega) (by omega)
          rw [show nI 0 = 0 from rfl] at e
          simp only [Bool.true_eq_false, ↓reduceIte, pu_on (pu_c19 hX), pu_s_leanOf (pu_st19 hX) v wf hk, Option.bind_some, e, hal]
          split
          · rfl
          · simp only [Int32.add_zero, Option.bind_some]
theorem pu_m_pence_l (hM : pu_M s R) (q : pu_Q (I 80) A) (wf : pu_wf A) {mu al ow : Int32} {h : Nat} (hal : ¬ al = 0) (hh : h < 10) : ∀ d i n rs bf, i + d = 2 * A.1 0 0 → d < n → fl_m_pence_38 n 70 mu (nI h) al ow rs bf (nI i) (s, I, J, R) = some (al, ow, (pu_pn A mu al ow h d i rs bf).1, (pu_pn A mu al ow h d i rs bf).2, (s, I, J, R)) := by
  intro d
  have h5 := wf.1
  induction d with
  | zero =>
    intro i n rs bf hi hn
    obtain ⟨n, rfl⟩ : ∃ z, n = z + 1 := ⟨n - 1, by omega⟩
    unfold fl_m_pence_38
    simp only [pu_on (pu_m70 hM), pu_m_houses hM q, Option.bind_some, pu_ltI (show i < 2147483648 by omega) (show 2 * A.1 0 0 < 2147483648 by omega), show ¬ i < 2 * A.1 0 0 by omega, ↓reduceIte]
    rfl
  | succ d ih =>
    intro i n rs bf hi hn
    obtain ⟨n, rfl⟩ : ∃ z, n = z + 1 := ⟨n - 1, by omega⟩
    have es : pu_pn A mu al ow h (d + 1) i rs bf = if A.2 1 i = false then pu_pn A mu al ow h d (i + 1) rs bf else pu_pn A mu al ow h d (i + 1) (rs - (mu * nI (A.1 1 i)) / al) (if (ow - ow / al * al) < ((mu * nI (A.1 1 i)) - (mu * nI (A.1 1 i)) / al * al) then bf + 1 else if ((mu * nI (A.1 1 i)) - (mu * nI (A.1 1 i)) / al * al) = (ow - ow / al * al) then (if i < h then bf + 1 else bf) else bf) := rfl
    rw [es]
    rw [fl_m_pence_38.eq_2]
    simp only [pu_on (pu_m70 hM), pu_m_houses hM q, Option.bind_some, pu_ltI (show i < 2147483648 by omega) (show 2 * A.1 0 0 < 2147483648 by omega), show i < 2 * A.1 0 0 by omega, ↓reduceIte, pu_m_isStanding hM q wf (show i < 2147483648 by omega), pu_b0]
    rw [← nI_succ]
    cases h1 : A.2 1 i
    · simp only [↓reduceIte]
      exact ih (i + 1) n rs bf (by omega) (by omega)
    · simp only [Bool.true_eq_false, ↓reduceIte, pu_gN (pu_m70 hM), pu_r20 hM, Option.bind_some, pu_cell' hM (pu_L12 i) (show 12 + i < 149 by omega), (q.2.1 i (by omega)).1, hal, Int32.add_zero, pu_ltI (show i < 2147483648 by omega) (show h < 2147483648 by omega)]
      by_cases hc : (mu * nI (A.1 1 i)) - (mu * nI (A.1 1 i)) / al * al ≤ ow - ow / al * al
      · rw [if_pos hc, if_neg (Int32.not_lt.mpr hc)]
        split
        · split
          · exact ih (i + 1) n _ _ (by omega) (by omega)
          · exact ih (i + 1) n _ _ (by omega) (by omega)
        · exact ih (i + 1) n _ _ (by omega) (by omega)
      · rw [if_neg hc, if_pos (Int32.not_le.mp hc)]
        exact ih (i + 1) n _ _ (by omega) (by omega)
theorem pu_m_pence (hM : pu_M s R) (q : pu_Q (I 80) A) (wf : pu_wf A) (a b : Int32) : ∃ I' J', fb_m_pence 70 a b (s, I, J, R) = some (pu_a_pence A a b, (s, I', J', R)) ∧ pu_Zf I I' J J' := by
  have h5 := wf.1
  have hle := pu_allLean_le wf
  refine ⟨I, J, ?_, pu_Zf.rf⟩
  unfold fb_m_pence pu_a_pence
  simp only [pu_on (pu_m70 hM), pu_m_isHouseA hM q wf, Option.bind_some, pu_b0, pu_m_in a 0 9999 (show (0 : Int64) = (0 : Int32).toInt64 from rfl) (show (9999 : Int64) = (9999 : Int32).toInt64 from rfl)]
  cases h2 : pu_ih A b
  · simp only [↓reduceIte, ite_self]
  · cases h1 : pu_wi a 0 9999
    · simp only [Bool.true_eq_false, ↓reduceIte]
    · obtain ⟨k, hk, rfl⟩ := pu_ih_n h2
      rw [pu_cl (show k < 2147483648 by omega)]
      simp only [Bool.true_eq_false, ↓reduceIte, pu_m_leanAll hM q wf, Option.bind_some, show nI (pu_allLean A) = (0 : Int32) ↔ pu_allLean A = 0 from by rw [show (0 : Int32) = nI 0 from rfl, pu_eqI (by omega) (by omega)], pu_on (pu_m70 hM), pu_m_isStanding hM q wf (show k < 2147483648 by omega), pu_b0]
      by_cases h3 : pu_allLean A = 0
      · simp only [h3, ↓reduceIte]
      · simp only [h3, ↓reduceIte]
        cases h4 : A.2 1 k
        · simp only [↓reduceIte]
        · have hal : ¬ nI (pu_allLean A) = 0 := by
            rw [show (0 : Int32) = nI 0 from rfl, pu_eqI (by omega) (by omega)]
            exact h3
          have e := pu_m_pence_l (J := J) hM q wf (mu := a) (ow := a * nI (A.1 1 k)) hal (show k < 10 by omega) (2 * A.1 0 0) 0 1048576 a 0 (by omega) (by omega)
          rw [show nI 0 = 0 from rfl] at e
          simp only [Bool.true_eq_false, ↓reduceIte, pu_gN (pu_m70 hM), pu_r20 hM, Option.bind_some, pu_cell' hM (pu_L12 k) (show 12 + k < 149 by omega), (q.2.1 k (by omega)).1, e, hal]
          split
          · rfl
          · simp only [Int32.add_zero]
end PUk
