/-! ===== newLine ===== -/
abbrev pu_N3 : Type := Nat × Int32 × Int32
/-- a line could be hung there -/
def pu_can (A : pu_A) (o e : Nat) : Bool := (decide (o < A.1 0 0) && decide (A.1 0 0 ≤ e) && A.2 1 o && A.2 1 e) && decide (pu_lnu A < 8)
def pu_nlc (ro : Option pu_Ru) (A : pu_A) (N m o e : Nat) : Nat := pu_ct ((pu_ys ro N (pu_put A (pu_lnu A) o e m)).2 1) 10
def pu_nl1 (ro : Option pu_Ru) (A : pu_A) (N m o e : Nat) (st : pu_N3) : pu_N3 := if pu_can A o e = true then (if st.1 < pu_nlc ro A N m o e then (pu_nlc ro A N m o e, nI o, nI e) else st) else st
def pu_nl2 (ro : Option pu_Ru) (A : pu_A) (N m o : Nat) : Nat → Nat → pu_N3 → pu_N3
  | 0, _, st => st
  | d + 1, e, st => pu_nl2 ro A N m o d (e + 1) (pu_nl1 ro A N m o e st)
def pu_nl3 (ro : Option pu_Ru) (A : pu_A) (N m : Nat) : Nat → Nat → pu_N3 → pu_N3
  | 0, _, st => st
  | d + 1, o, st => pu_nl3 ro A N m d (o + 1) (pu_nl2 ro A N m o (A.1 0 0) (A.1 0 0) st)
theorem pu_nl2_no {ro : Option pu_Ru} {A : pu_A} {N m o : Nat} (h : ¬ pu_lnu A < 8) (d : Nat) : ∀ e st, pu_nl2 ro A N m o d e st = st := by
  induction d with
  | zero => intro e st; rfl
  | succ d ih =>
    intro e st
    show pu_nl2 ro A N m o d (e + 1) (pu_nl1 ro A N m o e st) = st
    rw [ih]
    unfold pu_nl1 pu_can
    rw [decide_eq_false h, Bool.and_false, if_neg (by decide)]
theorem pu_nl3_no {ro : Option pu_Ru} {A : pu_A} {N m : Nat} (h : ¬ pu_lnu A < 8) (d : Nat) : ∀ o st, pu_nl3 ro A N m d o st = st := by
  induction d with
  | zero => intro o st; rfl
  | succ d ih =>
    intro o st
    show pu_nl3 ro A N m d (o + 1) (pu_nl2 ro A N m o (A.1 0 0) (A.1 0 0) st) = st
    rw [ih, pu_nl2_no h]
def pu_nl (ro : Option pu_Ru) (A : pu_A) (N m : Nat) : pu_N3 := pu_nl3 ro A N m (A.1 0 0) 0 (pu_ct ((pu_ys ro N A).2 1) 10, -1, -1)
def pu_a_newLine (ro : Option pu_Ru) (A : pu_A) (a b c : Int32) : Int32 := if A.1 0 0 = 0 then -2 else if pu_wi a 1 40 = false then -2 else if pu_wi b 1 40 = false then -2 else if pu_wi c 0 2 = false then -2 else
  if c = 0 then nI (pu_nl ro A b.toNatClampNeg a.toNatClampNeg).1 else if c = 1 then (pu_nl ro A b.toNatClampNeg a.toNatClampNeg).2.1 else (pu_nl ro A b.toNatClampNeg a.toNatClampNeg).2.2
theorem pu_ct_lnu (A : pu_A) : (pu_ct (A.2 0) 8 < 8) = (pu_lnu A < 8) := by
  apply propext
  constructor
  · intro h
    have h2 := pu_ff_le (fun l => !A.2 0 l) 8 0
    rcases Nat.lt_or_ge (pu_lnu A) 8 with h3 | h3
    · exact h3
    · exfalso
      have all : ∀ n, n ≤ 8 → pu_ct (A.2 0) n = n := by
        intro n
        induction n with
        | zero => intro _; rfl
        | succ n ih =>
          intro hn
          have h4 := pu_ff_no (fun l => !A.2 0 l) 8 0 n (by omega) (show n < pu_lnu A by omega)
          have h5 : A.2 0 n = true := by
            cases e : A.2 0 n
            · rw [e] at h4; cases h4
            · rfl
          show pu_ct (A.2 0) n + (if A.2 0 n then 1 else 0) = n + 1
          rw [ih (by omega), h5, if_pos rfl]
      have := all 8 (Nat.le_refl _)
      omega
  · intro h
    have hy := pu_ff_yes (fun l => !A.2 0 l) 8 0 h
    have hf : A.2 0 (pu_lnu A) = false := by
      cases e : A.2 0 (pu_lnu A)
      · rfl
      · have hy : (!A.2 0 (pu_lnu A)) = true := hy
        rw [e] at hy; cases hy
    have := pu_ct_lt (f := fun _ => true) (g := A.2 0) 8 (fun _ _ _ => rfl) ⟨pu_lnu A, h, rfl, hf⟩
    have e8 : pu_ct (fun _ => true) 8 = 8 := rfl
    omega
section PUb
variable {s : List (Nat × Nat)} {R : Nat → Nat → Option Nat} {I : Nat → Nat → Int32} {J : Nat → Nat → Int64} {A : pu_A} {ro : Option pu_Ru}
theorem pu_yr_nl2 (hX : pu_X s R) (wf : pu_wf A) {c : Option Nat} {N m o : Nat} (hN : N ≤ 40) (hm : m ≤ 40) (ho : o < A.1 0 0) (hl : pu_lnu A < 8) : ∀ d e n I J (st : pu_N3), e + d = 2 * A.1 0 0 → A.1 0 0 ≤ e → d < n → pu_V I 19 A → pu_FC s I c ro → I 52 2 = nI st.1 → I 52 3 = st.2.1 → I 52 4 = st.2.2 → st.1 ≤ 10 →
    ∃ I' J', fl_yr_findNewLine_35 n 52 19 c (nI m) (nI N) (nI (pu_lnu A)) (nI o) (nI e) (s, I, J, R) = some (52, 19, c, nI m, nI N, nI (pu_lnu A), nI o, (s, I', J', R)) ∧ I' 52 2 = nI (pu_nl2 ro A N m o d e st).1 ∧ I' 52 3 = (pu_nl2 ro A N m o d e st).2.1 ∧ I' 52 4 = (pu_nl2 ro A N m o d e st).2.2 ∧ (pu_nl2 ro A N m o d e st).1 ≤ 10 ∧ pu_Cf I I' J J' := by
  intro d
  have h5 := wf.1
  induction d with
  | zero =>
    intro e n I J st hi he hn v hF i2 i3 i4 h10
    obtain ⟨n, rfl⟩ : ∃ z, n = z + 1 := ⟨n - 1, by omega⟩
    unfold fl_yr_findNewLine_35
    simp only [pu_on (pu_c19 hX), pu_s_houses (pu_st19 hX) v, Option.bind_some, pu_ltI (show e < 2147483648 by omega) (show 2 * A.1 0 0 < 2147483648 by omega), show ¬ e < 2 * A.1 0 0 by omega, ↓reduceIte]
    exact ⟨I, J, rfl, i2, i3, i4, h10, pu_Cf.rf⟩
  | succ d ih =>
    intro e n I J st hi he hn v hF i2 i3 i4 h10
    obtain ⟨n, rfl⟩ : ∃ z, n = z + 1 := ⟨n - 1, by omega⟩
    rw [fl_yr_findNewLine_35.eq_2]
    simp only [pu_on (pu_c19 hX), pu_s_houses (pu_st19 hX) v, Option.bind_some, pu_ltI (show e < 2147483648 by omega) (show 2 * A.1 0 0 < 2147483648 by omega), show e < 2 * A.1 0 0 by omega, ↓reduceIte, pu_s_canJoin (pu_st19 hX) v wf (show o < 2147483648 by omega) (show e < 2147483648 by omega), pu_b0]
    rw [← nI_succ]
    have es : pu_nl2 ro A N m o (d + 1) e st = pu_nl2 ro A N m o d (e + 1) (pu_nl1 ro A N m o e st) := rfl
    rw [es]
    cases hc : (decide (o < A.1 0 0) && decide (A.1 0 0 ≤ e) && A.2 1 o && A.2 1 e)
    · have e1 : pu_nl1 ro A N m o e st = st := by
        unfold pu_nl1 pu_can
        rw [hc, Bool.false_and, if_neg (by decide)]
      rw [e1]
      simp only [↓reduceIte]
      exact ih (e + 1) n I J st (by omega) (by omega) (by omega) v hF i2 i3 i4 h10
    · obtain ⟨I1, a1, a2, a3⟩ := pu_yr_begin (J := J) hX (pu_st19 hX) (by omega) v wf
      have f1 : pu_Cf I I1 J J := pu_Cf.fr (by omega) (by omega) a3
      obtain ⟨I2, b1, b2, b3⟩ := pu_s_putUp (J := J) (o := o) (e := e) (m := m) (pu_st53 hX) a2 wf (pu_lnu_le wf hl) hl
      have f2 : pu_Cf I1 I2 J J := pu_Cf.fr (by omega) (by omega) b3
      have wf2 := pu_put_wf wf (pu_lnu_le wf hl) hl ho he (show e < 2 * A.1 0 0 by omega) (show m ≤ 100 by omega)
      obtain ⟨I3, J3, B, d1, d2, d3, d4, d5⟩ := pu_yr_goOn (J := J) hX b2 wf2 (pu_FC_cf (f1.tr f2) hF) (show N < 1000000 by omega)
      have f3 : pu_Cf I I3 J J3 := (f1.tr f2).tr (pu_Cf.yf (by omega) (by omega) d5)
      have e52 : I3 52 = I 52 := by rw [d5.1 52 (by omega) (by decide), b3 52 (by omega), a3 52 (by omega)]
      have ect : pu_ct (B.2 1) 10 = pu_nlc ro A N m o e := pu_ct_cong 10 (fun k _ => d4.2.1 k)
      have hc10 : pu_nlc ro A N m o e ≤ 10 := pu_ct_le _ 10
      have ecan : pu_can A o e = true := by unfold pu_can; rw [hc, decide_eq_true hl]; rfl
      simp only [Bool.true_eq_false, ↓reduceIte, pu_on (pu_c52 hX), a1, Option.bind_some, pu_gN (pu_c52 hX), pu_f52_0 hX, pu_on (pu_c53 hX), b1, d1, pu_gI (pu_c53 hX), d2.1.2.2.2.2.2, pu_bitCount, ect, fb_yr_takeIfMore, pu_gI (pu_c52 hX), e52, i2, pu_ltI (show st.1 < 2147483648 by omega) (show pu_nlc ro A N m o e < 2147483648 by omega)]
      by_cases hlt : st.1 < pu_nlc ro A N m o e
      · have e1 : pu_nl1 ro A N m o e st = (pu_nlc ro A N m o e, nI o, nI e) := by
          unfold pu_nl1
          rw [if_pos ecan, if_pos hlt]
        rw [e1]
        simp only [hlt, ↓reduceIte, pu_pI (pu_c52 hX), Option.bind_some]
        have f4 : pu_Cf I (tb_up2 (tb_up2 (tb_up2 I3 52 2 (nI (pu_nlc ro A N m o e))) 52 3 (nI o)) 52 4 (nI e)) J J3 := f3.tr (((pu_Cf.u2 (by omega) (by omega)).tr (pu_Cf.u2 (by omega) (by omega))).tr (pu_Cf.u2 (by omega) (by omega)))
        obtain ⟨I', J', g1, g2, g3, g4, g5, g6⟩ := ih (e + 1) n _ J3 (pu_nlc ro A N m o e, nI o, nI e) (by omega) (by omega) (by omega) (pu_V_cf f4 v) (pu_FC_cf f4 hF) (by simp (disch := omega) only [pu_u2k, pu_u2s]) (by simp (disch := omega) only [pu_u2k, pu_u2s]) (pu_u2s _ _ _ _) hc10
        exact ⟨I', J', g1, g2, g3, g4, g5, f4.tr g6⟩
      · have e1 : pu_nl1 ro A N m o e st = st := by
          unfold pu_nl1
          rw [if_pos ecan, if_neg hlt]
        rw [e1]
        simp only [hlt, ↓reduceIte, Option.bind_some]
        obtain ⟨I', J', g1, g2, g3, g4, g5, g6⟩ := ih (e + 1) n I3 J3 st (by omega) (by omega) (by omega) (pu_V_cf f3 v) (pu_FC_cf f3 hF) (by rw [e52]; exact i2) (by rw [e52]; exact i3) (by rw [e52]; exact i4) h10
        exact ⟨I', J', g1, g2, g3, g4, g5, f3.tr g6⟩
theorem pu_yr_nl3 (hX : pu_X s R) (wf : pu_wf A) {c : Option Nat} {N m : Nat} (hN : N ≤ 40) (hm : m ≤ 40) (hl : pu_lnu A < 8) : ∀ d o n I J (st : pu_N3), o + d = A.1 0 0 → d < n → pu_V I 19 A → pu_FC s I c ro → I 52 2 = nI st.1 → I 52 3 = st.2.1 → I 52 4 = st.2.2 → st.1 ≤ 10 →
    ∃ I' J', fl_yr_findNewLine_28 n 52 19 c (nI m) (nI N) (nI (pu_lnu A)) (nI o) (s, I, J, R) = some (s, I', J', R) ∧ I' 52 2 = nI (pu_nl3 ro A N m d o st).1 ∧ I' 52 3 = (pu_nl3 ro A N m d o st).2.1 ∧ I' 52 4 = (pu_nl3 ro A N m d o st).2.2 ∧ pu_Cf I I' J J' := by
  intro d
  have h5 := wf.1
  induction d with
  | zero =>
    intro o n I J st hi hn v hF i2 i3 i4 h10
    obtain ⟨n, rfl⟩ : ∃ z, n = z + 1 := ⟨n - 1, by omega⟩
    unfold fl_yr_findNewLine_28
    simp only [pu_gI (pu_c19 hX), Option.bind_some, v.1.1, pu_ltI (show o < 2147483648 by omega) (show A.1 0 0 < 2147483648 by omega), show ¬ o < A.1 0 0 by omega, ↓reduceIte]
    exact ⟨I, J, rfl, i2, i3, i4, pu_Cf.rf⟩
  | succ d ih =>
    intro o n I J st hi hn v hF i2 i3 i4 h10
    obtain ⟨n, rfl⟩ : ∃ z, n = z + 1 := ⟨n - 1, by omega⟩
    obtain ⟨I1, J1, a1, a2, a3, a4, a5, a6⟩ := pu_yr_nl2 (ro := ro) (c := c) hX wf hN hm (show o < A.1 0 0 by omega) hl (A.1 0 0) (A.1 0 0) 1048576 I J st (by omega) (by omega) (by omega) v hF i2 i3 i4 h10
    rw [fl_yr_findNewLine_28.eq_2]
    simp only [pu_gI (pu_c19 hX), Option.bind_some, v.1.1, pu_ltI (show o < 2147483648 by omega) (show A.1 0 0 < 2147483648 by omega), show o < A.1 0 0 by omega, ↓reduceIte, a1]
    rw [← nI_succ]
    have es : pu_nl3 ro A N m (d + 1) o st = pu_nl3 ro A N m d (o + 1) (pu_nl2 ro A N m o (A.1 0 0) (A.1 0 0) st) := rfl
    rw [es]
    obtain ⟨I', J', g1, g2, g3, g4, g6⟩ := ih (o + 1) n I1 J1 _ (by omega) (by omega) (pu_V_cf a6 v) (pu_FC_cf a6 hF) a2 a3 a4 a5
    exact ⟨I', J', g1, g2, g3, g4, a6.tr g6⟩
theorem pu_yr_findNewLine (hX : pu_X s R) (v : pu_V I 19 A) (wf : pu_wf A) {c : Option Nat} (hF : pu_FC s I c ro) {N m : Nat} (hN : N ≤ 40) (hm : m ≤ 40) :
    ∃ I' J', fb_yr_findNewLine 52 19 c (nI m) (nI N) (s, I, J, R) = some (s, I', J', R) ∧ I' 52 2 = nI (pu_nl ro A N m).1 ∧ I' 52 3 = (pu_nl ro A N m).2.1 ∧ I' 52 4 = (pu_nl ro A N m).2.2 ∧ pu_Cf I I' J J' := by
  have h5 := wf.1
  obtain ⟨I1, a1, a2, a3⟩ := pu_yr_begin (J := J) hX (pu_st19 hX) (by omega) v wf
  have f1 : pu_Cf I I1 J J := pu_Cf.fr (by omega) (by omega) a3
  obtain ⟨I3, J3, B, d1, d2, d3, d4, d5⟩ := pu_yr_goOn (J := J) hX a2 wf (pu_FC_cf f1 hF) (show N < 1000000 by omega)
  have f3 : pu_Cf I I3 J J3 := f1.tr (pu_Cf.yf (by omega) (by omega) d5)
  have ect : pu_ct (B.2 1) 10 = pu_ct ((pu_ys ro N A).2 1) 10 := pu_ct_cong 10 (fun k _ => d4.2.1 k)
  have hc10 : pu_ct ((pu_ys ro N A).2 1) 10 ≤ 10 := pu_ct_le _ 10
  have f4 : pu_Cf I (tb_up2 (tb_up2 (tb_up2 I3 52 2 (nI (pu_ct ((pu_ys ro N A).2 1) 10))) 52 3 (-1)) 52 4 (-1)) J J3 := f3.tr (((pu_Cf.u2 (by omega) (by omega)).tr (pu_Cf.u2 (by omega) (by omega))).tr (pu_Cf.u2 (by omega) (by omega)))
  have v4 := pu_V_cf f4 v
  unfold fb_yr_findNewLine
  simp only [pu_on (pu_c52 hX), a1, d1, Option.bind_some, pu_gN (pu_c52 hX), pu_f52_0 hX, pu_gI (pu_c53 hX), d2.1.2.2.2.2.2, pu_bitCount, ect, pu_pI (pu_c52 hX), pu_on (pu_c19 hX), pu_s_leastNotUp (pu_st19 hX) v4]
  unfold pu_nl
  by_cases hl : pu_lnu A < 8
  · simp only [hl, ↓reduceIte, pu_ne1 (show pu_lnu A < 2147483648 by omega)]
    obtain ⟨I', J', g1, g2, g3, g4, g6⟩ := pu_yr_nl3 (ro := ro) (c := c) hX wf hN hm hl (A.1 0 0) 0 1048576 _ J3 (pu_ct ((pu_ys ro N A).2 1) 10, -1, -1) (by omega) (by omega) v4 (pu_FC_cf f4 hF) (by simp (disch := omega) only [pu_u2k, pu_u2s]) (by simp (disch := omega) only [pu_u2k, pu_u2s]) (pu_u2s _ _ _ _) hc10
    rw [show nI 0 = 0 from rfl] at g1
    rw [g1]
    exact ⟨I', J', rfl, g2, g3, g4, f4.tr g6⟩
  · simp only [hl, ↓reduceIte]
    rw [pu_nl3_no hl]
    exact ⟨_, _, rfl, by simp (disch := omega) only [pu_u2k, pu_u2s], by simp (disch := omega) only [pu_u2k, pu_u2s], pu_u2s _ _ _ _, f4⟩
theorem pu_x_newLine (hX : pu_X s R) (v : pu_V I 19 A) (wf : pu_wf A) (hF : pu_FX s I R ro) (a b c : Int32) : ∃ I' J', fb_x_newLine 1 a b c (s, I, J, R) = some (pu_a_newLine ro A a b c, (s, I', J', R)) ∧ pu_Cf I I' J J' := by
  unfold fb_x_newLine pu_a_newLine
  have hz : ∀ (z : Int32), (z = 0 ∨ A.1 0 0 = 0) → fj_x_newLine_j18 1 a b c z (s, I, J, R) = some (-2, (s, I, J, R)) := by
    intro z hz
    unfold fj_x_newLine_j18
    simp only [pu_gN (pu_c1 hX), pu_f1_5 hX, Option.bind_some, pu_on (pu_c18 hX), pu_sc_isEmpty hX v wf, pu_b0, decide_eq_false_iff_not]
    by_cases h0 : A.1 0 0 = 0
    · simp only [h0, not_true, ↓reduceIte]
    · rcases hz with hz | hz
      · simp only [h0, not_false_eq_true, hz, ↓reduceIte]
      · exact absurd hz h0
  simp only [pu_x_within, Option.bind_some, pu_b0]
  by_cases h0 : A.1 0 0 = 0
  · simp only [hz _ (Or.inr h0), ite_self, h0, ↓reduceIte]
    exact ⟨I, J, rfl, pu_Cf.rf⟩
  · cases h1 : pu_wi a 1 40
    · simp only [h0, ↓reduceIte, hz 0 (Or.inl rfl)]
      exact ⟨I, J, rfl, pu_Cf.rf⟩
    · cases h2 : pu_wi b 1 40
      · simp only [h0, Bool.true_eq_false, ↓reduceIte, hz 0 (Or.inl rfl)]
        exact ⟨I, J, rfl, pu_Cf.rf⟩
      · cases h3 : pu_wi c 0 2
        · simp only [h0, Bool.true_eq_false, ↓reduceIte, hz 0 (Or.inl rfl)]
          exact ⟨I, J, rfl, pu_Cf.rf⟩
        · simp only [h0, Bool.true_eq_false, ↓reduceIte]
          obtain ⟨m, hm, rfl, -⟩ := pu_wi_n h1 (by decide) (show (40 : Int32) = nI 40 from rfl) (by omega)
          obtain ⟨N, hN, rfl, -⟩ := pu_wi_n h2 (by decide) (show (40 : Int32) = nI 40 from rfl) (by omega)
          obtain ⟨cc, c1, c2⟩ := pu_x_ruleInForce (I := I) (J := J) (ro := ro) hX hF
          obtain ⟨I1, J1, a1, a2, a3, a4, a5⟩ := pu_yr_findNewLine (J := J) hX v wf c2 hN hm
          unfold fj_x_newLine_j18
          simp only [pu_gN (pu_c1 hX), pu_f1_5 hX, pu_f1_10 hX, Option.bind_some, pu_on (pu_c18 hX), pu_sc_isEmpty hX v wf, pu_b0, decide_eq_false_iff_not, h0, not_false_eq_true, ↓reduceIte, show ¬ ((1 : Int32) = 0) by decide, pu_gN (pu_c18 hX), pu_f18_0 hX, pu_on (pu_c1 hX), c1, pu_on (pu_c52 hX), a1, pu_gI (pu_c52 hX), a2, a3, a4]
          rw [pu_cl (show m < 2147483648 by omega), pu_cl (show N < 2147483648 by omega)]
          refine ⟨I1, J1, ?_, a5⟩
          split
          · rfl
          · split <;> rfl
end PUb
