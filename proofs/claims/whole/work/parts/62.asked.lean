/-! ===== ahead, falls, lasts ===== -/
def pu_a_ahead (ro : Option pu_Ru) (A : pu_A) (a b : Int32) : Int32 :=
  if A.1 0 0 = 0 then -1 else if pu_wi a 0 100 = false then -1 else if pu_wi b 0 2 = false then -1 else
  if b = 0 then pu_mk ((pu_ys ro a.toNatClampNeg A).2 1) 10 else if b = 1 then pu_mk ((pu_ys ro a.toNatClampNeg A).2 0) 8 else nI (pu_allPull (pu_ys ro a.toNatClampNeg A))
theorem pu_FX_eq {s : List (Nat × Nat)} {R : Nat → Nat → Option Nat} {I I' : Nat → Nat → Int32} {ro : Option pu_Ru} (e18 : I' 18 = I 18) (e : ∀ q, 92 ≤ q → I' q = I q) (h : pu_FX s I R ro) : pu_FX s I' R ro := by
  cases ro with
  | none =>
    show I' 18 3 = -1
    rw [e18]; exact h
  | some ru =>
    obtain ⟨r, c0, h1, h2, h3, h4⟩ := h
    exact ⟨r, c0, h1, by rw [e18]; exact h2, h3, pu_FC_eq e h4⟩
section PUP
variable {s : List (Nat × Nat)} {R : Nat → Nat → Option Nat} {I : Nat → Nat → Int32} {J : Nat → Nat → Int64} {A : pu_A} {ro : Option pu_Ru}
theorem pu_sc_isEmpty (hX : pu_X s R) (v : pu_V I 19 A) (wf : pu_wf A) : fb_sc_isEmpty 18 (s, I, J, R) = some (pu_b (decide (A.1 0 0 = 0)), (s, I, J, R)) := by
  have h5 := wf.1
  unfold fb_sc_isEmpty
  simp only [pu_gN (pu_c18 hX), pu_f18_0 hX, Option.bind_some, pu_gI (pu_c19 hX), v.1.1, show (0 : Int32) = nI 0 from rfl, pu_eqI (show A.1 0 0 < 2147483648 by omega) (show 0 < 2147483648 by omega)]
  by_cases h : A.1 0 0 = 0
  · simp only [h, ↓reduceIte, decide_true, pu_bt]
  · simp only [h, ↓reduceIte, decide_false, pu_bf]
    rfl
theorem pu_x_ahead (hX : pu_X s R) (v : pu_V I 19 A) (wf : pu_wf A) (hF : pu_FX s I R ro) (a b : Int32) : ∃ I' J', fb_x_ahead 1 a b (s, I, J, R) = some (pu_a_ahead ro A a b, (s, I', J', R)) ∧ pu_Cf I I' J J' := by
  unfold fb_x_ahead pu_a_ahead
  simp only [pu_gN (pu_c1 hX), pu_f1_5 hX, pu_f1_10 hX, Option.bind_some, pu_on (pu_c18 hX), pu_sc_isEmpty hX v wf, pu_x_within, pu_b0, decide_eq_false_iff_not]
  by_cases h0 : A.1 0 0 = 0
  · simp only [h0, not_true, ↓reduceIte]
    exact ⟨I, J, rfl, pu_Cf.rf⟩
  · simp only [h0, not_false_eq_true, ↓reduceIte]
    cases h1 : pu_wi a 0 100
    · simp only [↓reduceIte]
      exact ⟨I, J, rfl, pu_Cf.rf⟩
    · simp only [Bool.true_eq_false, ↓reduceIte]
      cases h2 : pu_wi b 0 2
      · simp only [↓reduceIte]
        exact ⟨I, J, rfl, pu_Cf.rf⟩
      · simp only [Bool.true_eq_false, ↓reduceIte, pu_gN (pu_c18 hX), pu_f18_0 hX, Option.bind_some, pu_on (pu_c52 hX)]
        obtain ⟨n, hn, rfl, -⟩ := pu_wi_n h1 (by decide) (show (100 : Int32) = nI 100 from rfl) (by omega)
        rw [pu_cl (show n < 2147483648 by omega)]
        obtain ⟨I1, a1, a2, a3⟩ := pu_yr_begin (J := J) hX (pu_st19 hX) (by omega) v wf
        obtain ⟨c, c1, c2⟩ := pu_x_ruleInForce (I := I1) (J := J) (ro := ro) hX (pu_FX_eq (a3 18 (by omega)) (fun q hq => a3 q (by omega)) hF)
        obtain ⟨I2, J2, B, d1, d2, d3, d4, d5⟩ := pu_yr_goOn (J := J) hX a2 wf c2 (show n < 1000000 by omega)
        have f : pu_Cf I I2 J J2 := (pu_Cf.fr (by omega) (by omega) a3).tr (pu_Cf.yf (by omega) (by omega) d5)
        simp only [a1, Option.bind_some, pu_gN (pu_c1 hX), pu_f1_10 hX, pu_on (pu_c1 hX), c1, pu_on (pu_c52 hX), d1, pu_gN (pu_c52 hX), pu_f52_0 hX, pu_gI (pu_c53 hX), d2.1.2.2.2.2.1, d2.1.2.2.2.2.2, pu_on (pu_c53 hX), pu_s_allPull (pu_st53 hX) d2 d3, d4.2.2]
        rw [pu_mk_cong 10 (fun k _ => d4.2.1 k), pu_mk_cong 8 (fun k _ => d4.1 k)]
        refine ⟨I2, J2, ?_, f⟩
        split
        · rfl
        · split <;> rfl
theorem pu_m_ahead (hM : pu_M s R) (q : pu_Q (I 80) A) (wf : pu_wf A) (hF : pu_FM I ro) (a b : Int32) : ∃ I' J', fb_m_ahead 70 a b (s, I, J, R) = some (pu_a_ahead ro A a b, (s, I', J', R)) ∧ pu_Zf I I' J J' := by
  unfold fb_m_ahead pu_a_ahead
  simp only [pu_on (pu_m70 hM), pu_m_isStreet hM q, Option.bind_some, pu_m_in a 0 100 (show (0 : Int64) = (0 : Int32).toInt64 from rfl) (show (100 : Int64) = (100 : Int32).toInt64 from rfl), pu_m_in b 0 2 (show (0 : Int64) = (0 : Int32).toInt64 from rfl) (show (2 : Int64) = (2 : Int32).toInt64 from rfl), pu_b0, decide_eq_false_iff_not]
  by_cases h0 : A.1 0 0 = 0
  · simp only [h0, Nat.lt_irrefl, not_false_eq_true, ↓reduceIte]
    exact ⟨I, J, rfl, pu_Zf.rf⟩
  · simp only [show 0 < A.1 0 0 by omega, not_true, ↓reduceIte, h0]
    cases h1 : pu_wi a 0 100
    · simp only [↓reduceIte]
      exact ⟨I, J, rfl, pu_Zf.rf⟩
    · simp only [Bool.true_eq_false, ↓reduceIte]
      cases h2 : pu_wi b 0 2
      · simp only [↓reduceIte]
        exact ⟨I, J, rfl, pu_Zf.rf⟩
      · simp only [Bool.true_eq_false, ↓reduceIte]
        obtain ⟨n, hn, rfl, -⟩ := pu_wi_n h1 (by decide) (show (100 : Int32) = nI 100 from rfl) (by omega)
        rw [pu_cl (show n < 2147483648 by omega)]
        obtain ⟨I1, a1, a2, a3⟩ := pu_m_keeps (I := I) (J := J) hM
        have f1 : pu_Tf I I1 J J := ⟨fun z _ _ h3 => a3 z (by omega), fun k _ => congrFun (a3 70 (by decide)) k, fun k _ => congrFun (a3 80 (by decide)) k, fun _ _ _ _ => rfl⟩
        obtain ⟨I2, J2, b1, b2, b3⟩ := pu_m_passesAll (I := I1) (J := J) (ro := ro) (A := A) hM (by rw [a3 80 (by decide)]; exact q) wf (pu_FM_tf f1 hF) (show n < 1000000 by omega)
        have wf2 := pu_ys_wf (ro := ro) n wf
        have hk : ∀ k, k < 64 → I2 82 k = I 80 (10 + k) := fun k hk => by rw [b3.1 82 (by decide) (by decide)]; exact a2 k hk
        obtain ⟨I3, d1, d2, -, -⟩ := pu_m_laysBack (I := I2) (I0 := I) (J := J2) (J0 := J) hM hk (f1.tr (pu_Tf.pf b3))
        simp only [a1, b1, Option.bind_some, pu_on (pu_m70 hM), pu_m_standingOnes hM b2 wf2, pu_m_linesUp hM b2 wf2, pu_m_pullAll hM b2 wf2, d1]
        refine ⟨I3, J2, ?_, d2⟩
        split
        · rfl
        · split <;> rfl
end PUP
/-! the first year in which any of these falls -/
def pu_srch (ro : Option pu_Ru) (g : Nat → Bool) : Nat → pu_A → Option pu_A
  | 0, _ => none
  | n + 1, A => if pu_mk (fun k => pu_fallen A (pu_year ro A) k && g k) 10 = 0 then pu_srch ro g n (pu_year ro A) else some A
theorem pu_srch_dead {ro : Option pu_Ru} {g : Nat → Bool} (n : Nat) : ∀ {A : pu_A}, pu_dead A → pu_srch ro g n A = none := by
  induction n with
  | zero => intro A _; rfl
  | succ n ih =>
    intro A d
    obtain ⟨a, b, c⟩ := pu_dead_y (ro := ro) d
    unfold pu_srch
    rw [if_pos]
    · exact ih a
    · rw [pu_mk0 (by omega)]
      intro k _
      unfold pu_fallen
      rw [c k]
      cases A.2 1 k <;> rfl
theorem pu_year_sub {ro : Option pu_Ru} {A : pu_A} {k : Nat} (h : (pu_year ro A).2 1 k = true) : A.2 1 k = true := pu_gw_sub 11 (pu_fade (pu_go ro A)) k h
theorem pu_srch_all {ro : Option pu_Ru} {g : Nat → Bool} (n : Nat) : ∀ {A : pu_A}, (∀ k, A.2 1 k = true → g k = true) → pu_srch ro g n A = pu_srch ro (fun _ => true) n A := by
  induction n with
  | zero => intro A _; rfl
  | succ n ih =>
    intro A h
    unfold pu_srch
    have e : pu_mk (fun k => pu_fallen A (pu_year ro A) k && g k) 10 = pu_mk (fun k => pu_fallen A (pu_year ro A) k && true) 10 := pu_mk_cong 10 (fun k _ => by
      unfold pu_fallen
      cases h1 : A.2 1 k
      · rfl
      · rw [h k h1])
    rw [e, ih (fun k hk => h k (pu_year_sub hk))]
theorem pu_srch_y {ro : Option pu_Ru} {g : Nat → Bool} (n : Nat) : ∀ {A B : pu_A}, pu_srch ro g n A = some B → A.1 0 2 ≤ B.1 0 2 ∧ B.1 0 2 < A.1 0 2 + n ∧ pu_mk (fun k => pu_fallen B (pu_year ro B) k && g k) 10 ≠ 0 := by
  induction n with
  | zero => intro A B h; cases h
  | succ n ih =>
    intro A B h
    unfold pu_srch at h
    split at h
    · obtain ⟨h1, h2, h3⟩ := ih h
      rw [pu_year_y] at h1 h2
      exact ⟨by omega, by omega, h3⟩
    · rename_i hne
      cases h
      exact ⟨by omega, by omega, hne⟩
def pu_a_fall (ro : Option pu_Ru) (A : pu_A) (g : Nat → Bool) (b : Int32) : Int32 := match pu_srch ro g 200 A with
  | none => -2
  | some B => if b = 0 then nI (B.1 0 2) else nI (pu_ff (pu_fallen B (pu_year ro B)) 10 0)
section PUQ
variable {s : List (Nat × Nat)} {R : Nat → Nat → Option Nat} {I : Nat → Nat → Int32} {J : Nat → Nat → Int64} {A : pu_A} {ro : Option pu_Ru}
theorem pu_yr_firstFall_l (hX : pu_X s R) {c : Option Nat} (g : Nat → Bool) : ∀ d i n I J A, i + d = 200 → d < n → pu_V I 53 A → pu_wf A → pu_FC s I c ro →
    ∃ I' J', fl_yr_firstFall_5 n 52 c (pu_mk g 10) (nI i) (s, I, J, R) = some ((match pu_srch ro g d A with | none => -1 | some B => nI (B.1 0 2)), (s, I', J', R)) ∧ (∀ B, pu_srch ro g d A = some B → I' 52 1 = pu_mk (pu_fallen B (pu_year ro B)) 10) ∧ pu_Cf I I' J J' := by
  intro d
  induction d with
  | zero =>
    intro i n I J A hi hn v wf hF
    obtain ⟨n, rfl⟩ : ∃ z, n = z + 1 := ⟨n - 1, by omega⟩
    unfold fl_yr_firstFall_5
    simp only [show (200 : Int32) = nI 200 from rfl, pu_ltI (show i < 2147483648 by omega) (show 200 < 2147483648 by omega), show ¬ i < 200 by omega, ↓reduceIte, fj_yr_firstFall_j35]
    exact ⟨I, J, rfl, fun B hB => (by cases hB), pu_Cf.rf⟩
  | succ d ih =>
    intro i n I J A hi hn v wf hF
    obtain ⟨n, rfl⟩ : ∃ z, n = z + 1 := ⟨n - 1, by omega⟩
    obtain ⟨I1, J1, a1, a2, a3⟩ := pu_jg_passYear (J := J) (pu_jg hX) (pu_st53 hX) (by omega) v wf hF
    have wf1 := pu_year_wf (ro := ro) wf
    unfold fl_yr_firstFall_5
    have v2 : pu_V (tb_up2 I1 52 1 (pu_mk (pu_fallen A (pu_year ro A)) 10)) 53 (pu_year ro A) := pu_V_eq (fun j hj => pu_u2p _ _ _ _ (by omega)) a2
    have f : pu_Cf I (tb_up2 I1 52 1 (pu_mk (pu_fallen A (pu_year ro A)) 10)) J J1 := (pu_Cf.yf (by omega) (by omega) a3).tr (pu_Cf.u2 (by omega) (by omega))
    simp only [show (200 : Int32) = nI 200 from rfl, pu_ltI (show i < 2147483648 by omega) (show 200 < 2147483648 by omega), show i < 200 by omega, ↓reduceIte, pu_gN (pu_c52 hX), pu_f52_5 hX, pu_f52_0 hX, Option.bind_some, pu_gI (pu_c53 hX), v.1.2.2.1, pu_on (pu_c40 hX), a1, pu_pI (pu_c52 hX), pu_gI (pu_c52 hX), pu_u2s, pu_mk_and _ _ (show 10 ≤ 32 by omega), v2.1.2.2.2.2.1]
    rw [← nI_succ]
    have es : pu_srch ro g (d + 1) A = if pu_mk (fun k => pu_fallen A (pu_year ro A) k && g k) 10 = 0 then pu_srch ro g d (pu_year ro A) else some A := rfl
    rw [es]
    by_cases h0 : pu_mk (fun k => pu_fallen A (pu_year ro A) k && g k) 10 = 0
    · rw [if_pos h0, if_pos h0]
      by_cases h1 : pu_mk ((pu_year ro A).2 0) 8 = 0
      · rw [if_pos h1]
        have hd : pu_dead (pu_year ro A) := ⟨pu_no_up wf1 h1, pu_year_fix wf⟩
        rw [pu_srch_dead d hd]
        simp only [fj_yr_firstFall_j31]
        exact ⟨_, J1, rfl, fun B hB => (by cases hB), f⟩
      · rw [if_neg h1]
        obtain ⟨I', J', b1, b2, b3⟩ := ih (i + 1) n (tb_up2 I1 52 1 (pu_mk (pu_fallen A (pu_year ro A)) 10)) J1 (pu_year ro A) (by omega) (by omega) v2 wf1 (pu_FC_eq (fun q hq => f.1 q (by omega) (by omega) (by omega)) hF)
        exact ⟨I', J', b1, b2, f.tr b3⟩
    · rw [if_neg h0, if_neg h0]
      simp only [fj_yr_firstFall_j25]
      refine ⟨_, J1, rfl, ?_, f⟩
      intro B hB
      cases hB
      exact pu_u2s _ _ _ _
theorem pu_yr_firstFall (hX : pu_X s R) (v : pu_V I 19 A) (wf : pu_wf A) {c : Option Nat} (hF : pu_FC s I c ro) (g : Nat → Bool) : ∃ I' J', fb_yr_firstFall 52 19 c (pu_mk g 10) (s, I, J, R) = some ((match pu_srch ro g 200 A with | none => -1 | some B => nI (B.1 0 2)), (s, I', J', R)) ∧ (∀ B, pu_srch ro g 200 A = some B → I' 52 1 = pu_mk (pu_fallen B (pu_year ro B)) 10) ∧ pu_Cf I I' J J' := by
  obtain ⟨I1, a1, a2, a3⟩ := pu_yr_begin (J := J) hX (pu_st19 hX) (by omega) v wf
  obtain ⟨I', J', b1, b2, b3⟩ := pu_yr_firstFall_l (ro := ro) (c := c) hX g 200 0 1048576 I1 J A (by omega) (by omega) a2 wf (pu_FC_eq (fun q hq => a3 q (by omega)) hF)
  refine ⟨I', J', ?_, b2, (pu_Cf.fr (by omega) (by omega) a3).tr b3⟩
  unfold fb_yr_firstFall
  rw [show nI 0 = 0 from rfl] at b1
  simp only [pu_on (pu_c52 hX), a1, Option.bind_some]
  rw [b1]
  rfl
theorem pu_x_leastOf_l (f : Nat → Bool) (w : tb_Hp) : ∀ d i n, i + d = 10 → d < n → fl_x_leastOf_2 n (pu_mk f 10) (nI i) w = some (if pu_ff f d i < 10 then nI (pu_ff f d i) else -1, w) := by
  intro d
  induction d with
  | zero =>
    intro i n hi hn
    obtain ⟨n, rfl⟩ : ∃ z, n = z + 1 := ⟨n - 1, by omega⟩
    unfold fl_x_leastOf_2 pu_ff
    simp only [show (10 : Int32) = nI 10 from rfl, pu_ltI (show i < 2147483648 by omega) (show 10 < 2147483648 by omega), show ¬ i < 10 by omega, ↓reduceIte, fj_x_leastOf_j16]
  | succ d ih =>
    intro i n hi hn
    obtain ⟨n, rfl⟩ : ∃ z, n = z + 1 := ⟨n - 1, by omega⟩
    have hih := ih (i + 1) n (by omega) (by omega)
    rw [nI_succ] at hih
    unfold fl_x_leastOf_2 pu_ff
    simp only [show (10 : Int32) = nI 10 from rfl, pu_ltI (show i < 2147483648 by omega) (show 10 < 2147483648 by omega), show i < 10 by omega, ↓reduceIte, pu_sh (pu_mk f 10) (show i < 32 by omega), pu_mk_bt f 10 (by omega) i (by omega), decide_true, Bool.true_and, pu_b1, fj_x_leastOf_j12]
    cases hf : f i
    · simp only [Bool.false_eq_true, ↓reduceIte]
      exact hih
    · simp only [↓reduceIte, show i < 10 by omega]
theorem pu_ff_lt {f : Nat → Bool} (h : pu_mk f 10 ≠ 0) : pu_ff f 10 0 < 10 := by
  have h2 := pu_ff_le f 10 0
  rcases Nat.lt_or_ge (pu_ff f 10 0) 10 with h3 | h3
  · exact h3
  · exfalso
    apply h
    rw [pu_mk0 (by omega)]
    intro k hk
    exact pu_ff_no f 10 0 k (by omega) (by omega)
theorem pu_x_leastOf {f : Nat → Bool} (h : pu_mk f 10 ≠ 0) (w : tb_Hp) : fb_x_leastOf (pu_mk f 10) w = some (nI (pu_ff f 10 0), w) := by
  unfold fb_x_leastOf
  have e := pu_x_leastOf_l f w 10 0 1048576 (by omega) (by omega)
  rw [show nI 0 = 0 from rfl] at e
  rw [e, if_pos (pu_ff_lt h)]
  rfl
theorem pu_m_leastOf_l (f : Nat → Bool) (w : tb_Hp) : ∀ d i n, i + d = 10 → d < n → pu_ff f d i < 10 → fl_m_leastOf_2 n (pu_mk f 10) (nI i) w = some (nI (pu_ff f d i), w) := by
  intro d
  induction d with
  | zero => intro i n hi hn h; unfold pu_ff at h; omega
  | succ d ih =>
    intro i n hi hn h
    obtain ⟨n, rfl⟩ : ∃ z, n = z + 1 := ⟨n - 1, by omega⟩
    unfold fl_m_leastOf_2
    unfold pu_ff at h ⊢
    simp only [fb_m_isOf, pu_sh (pu_mk f 10) (show i < 32 by omega), pu_mk_bt f 10 (by omega) i (by omega), show i < 10 by omega, decide_true, Bool.true_and, pu_b1]
    cases hf : f i
    · simp only [hf, Bool.false_eq_true, ↓reduceIte, Option.bind_some] at h ⊢
      have hih := ih (i + 1) n (by omega) (by omega) h
      rw [nI_succ] at hih
      exact hih
    · simp only [↓reduceIte, Option.bind_some, show ¬ ((1 : Int32) = 0) by decide]
theorem pu_m_leastOf {f : Nat → Bool} (h : pu_mk f 10 ≠ 0) (w : tb_Hp) : fb_m_leastOf (pu_mk f 10) w = some (nI (pu_ff f 10 0), w) := by
  unfold fb_m_leastOf
  have e := pu_m_leastOf_l f w 10 0 1048576 (by omega) (by omega) (pu_ff_lt h)
  rw [show nI 0 = 0 from rfl] at e
  rw [e]
  rfl
end PUQ
