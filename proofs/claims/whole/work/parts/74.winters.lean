/-! ===== winters ===== -/
/-- a drawing: D goes on as the class and the reference do (kept open, so that nothing reckons it out) -/
def pu_DR (D : Nat → Nat) : Prop := (∀ z, D z < 2147483648) ∧ (∀ z, z < 2147483648 → (lN z * 1103515245 + 12345) - (lN z * 1103515245 + 12345) / 2147483648 * 2147483648 = lN (D z))
theorem pu_DR_ex : ∃ D, pu_DR D := by
  refine ⟨fun z => (z * 1103515245 + 12345) % 2147483648, fun z => Nat.mod_lt _ (by decide), fun z h => ?_⟩
  have e : lN z * 1103515245 + 12345 = lN (z * 1103515245 + 12345) := by
    rw [show (1103515245 : Int64) = lN 1103515245 from rfl, show (12345 : Int64) = lN 12345 from rfl, lN_mul, lN_add]
  rw [e, show (2147483648 : Int64) = lN 2147483648 from rfl, pk_lRem (by omega) (by decide) (by decide)]
/-- snow falls, perhaps -/
def pu_sn (D : Nat → Nat) (p : Nat) (z : Nat) (B : pu_A) : Nat × pu_A := if D z / 65536 % 100 < p then (D (D z), pu_n B 1 (D (D z) / 65536 % (2 * B.1 0 0)) (B.1 1 (D (D z) / 65536 % (2 * B.1 0 0)) + 1)) else (D z, B)
def pu_wa (D : Nat → Nat) (ro : Option pu_Ru) (p : Nat) : Nat → Nat → pu_A → Nat × pu_A
  | 0, z, B => (z, B)
  | n + 1, z, B => pu_wa D ro p n (pu_sn D p z B).1 (pu_year ro (pu_sn D p z B).2)
def pu_wb (D : Nat → Nat) (ro : Option pu_Ru) (p n : Nat) (A : pu_A) : Nat → Nat → Nat → Nat → Nat × Nat
  | 0, _, a, b => (a, b)
  | m + 1, z, a, b => pu_wb D ro p n A m (pu_wa D ro p n z A).1 (a + pu_ct ((pu_wa D ro p n z A).2.2 1) 10) (b + pu_ct ((pu_wa D ro p n z A).2.2 0) 8)
def pu_a_winters (D : Nat → Nat) (ro : Option pu_Ru) (A : pu_A) (z : Nat) (a b c d : Int32) : Int32 := if A.1 0 0 = 0 then -1 else if pu_wi a 1 10 = false then -1 else if pu_wi b 1 60 = false then -1 else if pu_wi c 0 100 = false then -1 else if pu_wi d 0 1 = false then -1 else
  if d = 0 then nI (pu_wb D ro c.toNatClampNeg b.toNatClampNeg A a.toNatClampNeg z 0 0).1 else nI (pu_wb D ro c.toNatClampNeg b.toNatClampNeg A a.toNatClampNeg z 0 0).2
section PUl
variable {s : List (Nat × Nat)} {R : Nat → Nat → Option Nat} {I : Nat → Nat → Int32} {J : Nat → Nat → Int64} {A : pu_A} {ro : Option pu_Ru} {D : Nat → Nat}
theorem pu_yr_draw (hD : pu_DR D) (hX : pu_X s R) {z : Nat} (hz : z < 2147483648) (e : I 52 7 = nI z) : fb_yr_draw 52 (s, I, J, R) = some (nI (D z / 65536), (s, tb_up2 I 52 7 (nI (D z)), J, R)) := by
  have h := hD.1 z
  unfold fb_yr_draw
  simp only [pu_gI (pu_c52 hX), Option.bind_some, e, nI_l (show z < 2 ^ 31 from hz), hD.2 z hz, lN_i, pu_pI (pu_c52 hX), pu_u2s]
  rw [show (65536 : Int32) = nI 65536 from rfl, pk_div (show D z < 2 ^ 31 from h) (by decide) (by decide)]
theorem pu_m_draw (hD : pu_DR D) (hM : pu_M s R) {z o : Nat} (hz : z < 2147483648) (ho : 0 < o) (ho2 : o < 2147483648) (e : J 70 31 = lN z) : fb_m_draw 70 (nI o) (s, I, J, R) = some (nI (D z / 65536 % o), (s, I, tb_up2 J 70 31 (lN (D z)), R)) := by
  have h := hD.1 z
  have hne : ¬ lN o = 0 := by
    rw [show (0 : Int64) = lN 0 from rfl, lN_eq (by omega) (by omega)]
    omega
  unfold fb_m_draw
  simp only [pu_gJ (pu_m70 hM), Option.bind_some, e, hD.2 z hz, pu_pJ (pu_m70 hM), pu_u2s, nI_l (show o < 2 ^ 31 from ho2), hne, ↓reduceIte]
  rw [show (65536 : Int64) = lN 65536 from rfl, pk_lDiv (show D z < 2 ^ 63 by omega) (by decide) (by decide), pk_lRem (show D z / 65536 < 2 ^ 63 by omega) ho (by omega), lN_i]
theorem pu_sn_b {p z : Nat} {B : pu_A} {c : Nat} (h : ∀ k, B.1 1 k ≤ c) : ∀ k, (pu_sn D p z B).2.1 1 k ≤ c + 1 := by
  intro k
  unfold pu_sn
  split
  · show tb_up2 B.1 1 _ _ 1 k ≤ c + 1
    rw [pu_u2i]
    split
    · have := h (D (D z) / 65536 % (2 * B.1 0 0)); omega
    · have := h k; omega
  · have := h k; show B.1 1 k ≤ c + 1; omega
theorem pu_sn_wf {p z : Nat} {B : pu_A} (wf : pu_wf B) (h : ∀ k, B.1 1 k ≤ 900) : pu_wf (pu_sn D p z B).2 := by
  unfold pu_sn
  split
  · refine pu_n1_wf wf ?_
    have := h (D (D z) / 65536 % (2 * B.1 0 0))
    omega
  · exact wf
theorem pu_sn_lt (hD : pu_DR D) {p z : Nat} {B : pu_A} : (pu_sn D p z B).1 < 2147483648 := by
  unfold pu_sn
  split
  · exact hD.1 _
  · exact hD.1 _
theorem pu_sn_0 {p z : Nat} {B : pu_A} : (pu_sn D p z B).2.1 0 0 = B.1 0 0 := by
  unfold pu_sn
  split <;> rfl
theorem pu_yr_snowOnce (hD : pu_DR D) (hX : pu_X s R) (v : pu_V I 53 A) (wf : pu_wf A) {p z : Nat} (hz : z < 2147483648) (hp : p ≤ 100) (h0 : 0 < A.1 0 0) (e : I 52 7 = nI z) :
    ∃ I', fb_yr_snowOnce 52 (nI p) (s, I, J, R) = some (s, I', J, R) ∧ pu_V I' 53 (pu_sn D p z A).2 ∧ I' 52 7 = nI (pu_sn D p z A).1 ∧ (∀ k, k ≠ 7 → I' 52 k = I 52 k) ∧ pu_Cf I I' J J := by
  have h5 := wf.1
  have hd := hD.1 z
  have hd2 := hD.1 (D z)
  have v1 : pu_V (tb_up2 I 52 7 (nI (D z))) 53 A := pu_V_eq (fun j hj => pu_u2p _ _ _ _ (by omega)) v
  have v2 : pu_V (tb_up2 (tb_up2 I 52 7 (nI (D z))) 52 7 (nI (D (D z)))) 53 A := pu_V_eq (fun j hj => pu_u2p _ _ _ _ (by omega)) v1
  have hr : D z / 65536 < 2147483648 := by omega
  have hr2 : D (D z) / 65536 < 2147483648 := by omega
  have hm : D z / 65536 % 100 < 100 := Nat.mod_lt _ (by decide)
  have hm2 : D (D z) / 65536 % (2 * A.1 0 0) < 2 * A.1 0 0 := Nat.mod_lt _ (by omega)
  have e100 : nI (D z / 65536) - nI (D z / 65536) / 100 * 100 = nI (D z / 65536 % 100) := pk_rem (d := 100) hr (by decide) (by decide)
  have eho : nI (D (D z) / 65536) - nI (D (D z) / 65536) / nI (2 * A.1 0 0) * nI (2 * A.1 0 0) = nI (D (D z) / 65536 % (2 * A.1 0 0)) := pk_rem hr2 (by omega) (by omega)
  have hne : ¬ nI (2 * A.1 0 0) = 0 := by
    rw [show (0 : Int32) = nI 0 from rfl, pu_eqI (by omega) (by omega)]
    omega
  have hpos : (0 : Int32) < nI (2 * A.1 0 0) := by
    rw [show (0 : Int32) = nI 0 from rfl, pu_ltI (by omega) (by omega)]
    omega
  unfold fb_yr_snowOnce
  simp only [pu_on (pu_c52 hX), pu_yr_draw hD hX hz e, Option.bind_some, e100, pu_ltI (show D z / 65536 % 100 < 2147483648 by omega) (show p < 2147483648 by omega)]
  unfold pu_sn
  by_cases hc : D z / 65536 % 100 < p
  · simp only [hc, ↓reduceIte, pu_gN (pu_c52 hX), pu_f52_0 hX, Option.bind_some, pu_on (pu_c53 hX), pu_s_houses (pu_st53 hX) v1, hpos, pu_on (pu_c52 hX), pu_yr_draw hD (I := tb_up2 I 52 7 (nI (D z))) hX hd (pu_u2s _ _ _ _), pu_s_houses (pu_st53 hX) v2, hne, eho, pu_s_leanOf (pu_st53 hX) v2 wf hm2, pu_R1, pu_s_setLean (pu_st53 hX) v2 wf hm2]
    refine ⟨_, rfl, pu_V_n1 v2, ?_, ?_, ((pu_Cf.u2 (by omega) (by omega)).tr (pu_Cf.u2 (by omega) (by omega))).tr (pu_Cf.u2 (by omega) (by omega))⟩
    · rw [pu_u2p _ _ _ _ (by omega), pu_u2s]
    · intro k hk
      rw [pu_u2p _ _ _ _ (by omega), pu_u2k _ _ _ _ hk, pu_u2k _ _ _ _ hk]
  · simp only [hc, ↓reduceIte]
    exact ⟨_, rfl, v1, pu_u2s _ _ _ _, fun k hk => pu_u2k _ _ _ _ hk, pu_Cf.u2 (by omega) (by omega)⟩
theorem pu_yr_wa (hD : pu_DR D) (hX : pu_X s R) {c : Option Nat} {p N : Nat} {m j : Int32} (hp : p ≤ 100) (hN : N ≤ 60) : ∀ d i n I J z B, i + d = N → d < n → pu_V I 53 B → pu_wf B → pu_FC s I c ro → z < 2147483648 → I 52 7 = nI z → 0 < B.1 0 0 → (∀ k, B.1 1 k ≤ 100 + i) →
    ∃ I' J', fl_yr_snow_21 n 52 18 c m (nI N) (nI p) j (nI i) (s, I, J, R) = some (52, 18, c, m, nI N, nI p, j, (s, I', J', R)) ∧ pu_V I' 53 (pu_wa D ro p d z B).2 ∧ pu_wf (pu_wa D ro p d z B).2 ∧ I' 52 7 = nI (pu_wa D ro p d z B).1 ∧ (pu_wa D ro p d z B).1 < 2147483648 ∧ (∀ k, k ≠ 7 → I' 52 k = I 52 k) ∧ pu_Cf I I' J J' := by
  intro d
  induction d with
  | zero =>
    intro i n I J z B hi hn v wf hF hz e h0 hb
    obtain ⟨n, rfl⟩ : ∃ z, n = z + 1 := ⟨n - 1, by omega⟩
    unfold fl_yr_snow_21
    simp only [pu_ltI (show i < 2147483648 by omega) (show N < 2147483648 by omega), show ¬ i < N by omega, ↓reduceIte]
    exact ⟨I, J, rfl, v, wf, e, hz, fun _ _ => rfl, pu_Cf.rf⟩
  | succ d ih =>
    intro i n I J z B hi hn v wf hF hz e h0 hb
    obtain ⟨n, rfl⟩ : ∃ z, n = z + 1 := ⟨n - 1, by omega⟩
    obtain ⟨I1, a1, a2, a3, a4, a5⟩ := pu_yr_snowOnce (J := J) hD hX v wf hz hp h0 e
    have wf1 : pu_wf (pu_sn D p z B).2 := pu_sn_wf wf (fun k => by have := hb k; omega)
    obtain ⟨I2, J2, b1, b2, b3⟩ := pu_jg_passYear (J := J) (ro := ro) (pu_jg hX) (pu_st53 hX) (by omega) a2 wf1 (pu_FC_cf a5 hF)
    have f2 : pu_Cf I I2 J J2 := a5.tr (pu_Cf.yf (by omega) (by omega) b3)
    have e52 : I2 52 = I1 52 := b3.1 52 (by omega) (by decide)
    rw [fl_yr_snow_21.eq_2]
    simp only [pu_ltI (show i < 2147483648 by omega) (show N < 2147483648 by omega), show i < N by omega, ↓reduceIte, pu_on (pu_c52 hX), a1, Option.bind_some, pu_gN (pu_c52 hX), pu_f52_5 hX, pu_f52_0 hX, pu_on (pu_c40 hX), b1]
    rw [← nI_succ]
    obtain ⟨I', J', c1, c2, c3, c4, c5, c6, c7⟩ := ih (i + 1) n I2 J2 (pu_sn D p z B).1 (pu_year ro (pu_sn D p z B).2) (by omega) (by omega) b2 (pu_year_wf wf1) (pu_FC_cf f2 hF) (pu_sn_lt hD) (by rw [e52]; exact a3) (by rw [pu_year_r 0 0 (by omega) (fun _ => by omega), pu_sn_0]; exact h0) (fun k => by
      rw [pu_year_r 1 k (by omega) (fun h => by omega)]
      have := pu_sn_b (D := D) (p := p) (z := z) hb k
      omega)
    exact ⟨I', J', c1, c2, c3, c4, c5, fun k hk => by rw [c6 k hk, e52, a4 k hk], f2.tr c7⟩
theorem pu_yr_wb (hD : pu_DR D) (hX : pu_X s R) (wf : pu_wf A) {c : Option Nat} {p N M : Nat} (hp : p ≤ 100) (hN : N ≤ 60) (hM1 : M ≤ 10) (h0 : 0 < A.1 0 0) (hb : ∀ k, A.1 1 k ≤ 100) : ∀ d i n I J z a b, i + d = M → d < n → pu_V I 19 A → pu_FC s I c ro → z < 2147483648 → I 52 7 = nI z → I 52 3 = nI a → I 52 4 = nI b →
    ∃ I' J', fl_yr_snow_12 n 52 18 c (nI M) (nI N) (nI p) (nI i) (s, I, J, R) = some (s, I', J', R) ∧ I' 52 3 = nI (pu_wb D ro p N A d z a b).1 ∧ I' 52 4 = nI (pu_wb D ro p N A d z a b).2 ∧ pu_Cf I I' J J' := by
  intro d
  induction d with
  | zero =>
    intro i n I J z a b hi hn v hF hz e e3 e4
    obtain ⟨n, rfl⟩ : ∃ z, n = z + 1 := ⟨n - 1, by omega⟩
    unfold fl_yr_snow_12
    simp only [pu_ltI (show i < 2147483648 by omega) (show M < 2147483648 by omega), show ¬ i < M by omega, ↓reduceIte]
    exact ⟨I, J, rfl, e3, e4, pu_Cf.rf⟩
  | succ d ih =>
    intro i n I J z a b hi hn v hF hz e e3 e4
    obtain ⟨n, rfl⟩ : ∃ z, n = z + 1 := ⟨n - 1, by omega⟩
    obtain ⟨I1, a1, a2, a3⟩ := pu_yr_begin (J := J) hX (pu_st19 hX) (by omega) v wf
    have f1 : pu_Cf I I1 J J := pu_Cf.fr (by omega) (by omega) a3
    have e52 : I1 52 = I 52 := a3 52 (by omega)
    obtain ⟨I2, J2, b1, b2, b3, b4, b5, b6, b7⟩ := pu_yr_wa (ro := ro) (c := c) (m := nI M) (j := nI i) hD hX hp hN N 0 1048576 I1 J z A (by omega) (by omega) a2 wf (pu_FC_cf f1 hF) hz (by rw [e52]; exact e) h0 (fun k => by have := hb k; omega)
    rw [show nI 0 = 0 from rfl] at b1
    have x3 : I2 52 3 = nI a := by rw [b6 3 (by decide), e52]; exact e3
    have x4 : tb_up2 I2 52 3 (nI (a + pu_ct ((pu_wa D ro p N z A).2.2 1) 10)) 52 4 = nI b := by rw [pu_u2k _ _ _ _ (by decide), b6 4 (by decide), e52]; exact e4
    have y5 : I2 53 5 = pu_mk ((pu_wa D ro p N z A).2.2 1) 10 := b2.1.2.2.2.2.2
    have y4 : tb_up2 I2 52 3 (nI (a + pu_ct ((pu_wa D ro p N z A).2.2 1) 10)) 53 4 = pu_mk ((pu_wa D ro p N z A).2.2 0) 8 := by rw [pu_u2p _ _ _ _ (by decide)]; exact b2.1.2.2.2.2.1
    rw [fl_yr_snow_12.eq_2]
    simp only [pu_ltI (show i < 2147483648 by omega) (show M < 2147483648 by omega), show i < M by omega, ↓reduceIte, pu_gN (pu_c18 hX), pu_f18_0 hX, Option.bind_some, pu_on (pu_c52 hX), a1, b1, pu_gI (pu_c52 hX), x3, pu_gN (pu_c52 hX), pu_f52_0 hX, pu_gI (pu_c53 hX), y5, pu_bitCount, nI_add, pu_pI (pu_c52 hX), x4, y4, pu_bitCount8]
    rw [← nI_succ]
    have f3 : pu_Cf I (tb_up2 (tb_up2 I2 52 3 (nI (a + pu_ct ((pu_wa D ro p N z A).2.2 1) 10))) 52 4 (nI (b + pu_ct ((pu_wa D ro p N z A).2.2 0) 8))) J J2 := (f1.tr b7).tr ((pu_Cf.u2 (by omega) (by omega)).tr (pu_Cf.u2 (by omega) (by omega)))
    obtain ⟨I', J', c1, c2, c3, c4⟩ := ih (i + 1) n _ J2 (pu_wa D ro p N z A).1 (a + pu_ct ((pu_wa D ro p N z A).2.2 1) 10) (b + pu_ct ((pu_wa D ro p N z A).2.2 0) 8) (by omega) (by omega) (pu_V_cf f3 v) (pu_FC_cf f3 hF) b5 (by simp (disch := omega) only [pu_u2k]; exact b4) (by simp (disch := omega) only [pu_u2k, pu_u2s]) (pu_u2s _ _ _ _)
    exact ⟨I', J', c1, c2, c3, f3.tr c4⟩
theorem pu_x_winters (hD : pu_DR D) (hX : pu_X s R) (v : pu_V I 19 A) (wf : pu_wf A) (hF : pu_FX s I R ro) (hb : ∀ k, A.1 1 k ≤ 100) {z : Nat} (hz : z < 2147483648) (ez : I 18 4 = nI z) (a b c d : Int32) : ∃ I' J', fb_x_winters 1 a b c d (s, I, J, R) = some (pu_a_winters D ro A z a b c d, (s, I', J', R)) ∧ pu_Cf I I' J J' := by
  unfold fb_x_winters pu_a_winters
  have hzz : ∀ (y : Int32), (y = 0 ∨ A.1 0 0 = 0) → fj_x_winters_j18 1 a b c d y (s, I, J, R) = some (-1, (s, I, J, R)) := by
    intro y hy
    unfold fj_x_winters_j18
    simp only [pu_gN (pu_c1 hX), pu_f1_5 hX, Option.bind_some, pu_on (pu_c18 hX), pu_sc_isEmpty hX v wf, pu_b0, decide_eq_false_iff_not]
    by_cases h0 : A.1 0 0 = 0
    · simp only [h0, not_true, ↓reduceIte]
    · rcases hy with hy | hy
      · simp only [h0, not_false_eq_true, hy, ↓reduceIte]
      · exact absurd hy h0
  simp only [pu_x_within, Option.bind_some, pu_b0]
  by_cases h0 : A.1 0 0 = 0
  · simp only [hzz _ (Or.inr h0), ite_self, h0, ↓reduceIte]
    exact ⟨I, J, rfl, pu_Cf.rf⟩
  · cases h1 : pu_wi a 1 10
    · simp only [h0, ↓reduceIte, hzz 0 (Or.inl rfl)]
      exact ⟨I, J, rfl, pu_Cf.rf⟩
    · cases h2 : pu_wi b 1 60
      · simp only [h0, Bool.true_eq_false, ↓reduceIte, hzz 0 (Or.inl rfl)]
        exact ⟨I, J, rfl, pu_Cf.rf⟩
      · cases h3 : pu_wi c 0 100
        · simp only [h0, Bool.true_eq_false, ↓reduceIte, hzz 0 (Or.inl rfl)]
          exact ⟨I, J, rfl, pu_Cf.rf⟩
        · simp only [h0, Bool.true_eq_false, ↓reduceIte]
          unfold fj_x_winters_j18
          simp only [pu_gN (pu_c1 hX), pu_f1_5 hX, pu_f1_10 hX, Option.bind_some, pu_on (pu_c18 hX), pu_sc_isEmpty hX v wf, pu_b0, decide_eq_false_iff_not, h0, not_false_eq_true, ↓reduceIte, show ¬ ((1 : Int32) = 0) by decide, pu_x_within]
          cases h4 : pu_wi d 0 1
          · simp only [↓reduceIte]
            exact ⟨I, J, rfl, pu_Cf.rf⟩
          · obtain ⟨M, hM, rfl, -⟩ := pu_wi_n h1 (by decide) (show (10 : Int32) = nI 10 from rfl) (by omega)
            obtain ⟨N, hN, rfl, -⟩ := pu_wi_n h2 (by decide) (show (60 : Int32) = nI 60 from rfl) (by omega)
            obtain ⟨p, hp, rfl, -⟩ := pu_wi_n h3 (by decide) (show (100 : Int32) = nI 100 from rfl) (by omega)
            obtain ⟨cc, c1, c2⟩ := pu_x_ruleInForce (I := I) (J := J) (ro := ro) hX hF
            have f0 : pu_Cf I (tb_up2 (tb_up2 (tb_up2 I 52 7 (nI z)) 52 3 0) 52 4 0) J J := ((pu_Cf.u2 (by omega) (by omega)).tr (pu_Cf.u2 (by omega) (by omega))).tr (pu_Cf.u2 (by omega) (by omega))
            obtain ⟨I1, J1, a1, a2, a3, a4⟩ := pu_yr_wb (ro := ro) (c := cc) hD hX wf hp hN hM (by omega) hb M 0 1048576 (tb_up2 (tb_up2 (tb_up2 I 52 7 (nI z)) 52 3 0) 52 4 0) J z 0 0 (by omega) (by omega) (pu_V_cf f0 v) (pu_FC_cf f0 c2) hz (by simp (disch := omega) only [pu_u2k, pu_u2s]) (by simp (disch := omega) only [pu_u2k, pu_u2s]; rfl) (pu_u2s _ _ _ _)
            rw [show nI 0 = 0 from rfl] at a1
            simp only [Bool.true_eq_false, ↓reduceIte, pu_gN (pu_c1 hX), pu_f1_5 hX, pu_f1_10 hX, Option.bind_some, pu_on (pu_c1 hX), c1, pu_on (pu_c52 hX), fb_yr_snow, pu_gI (pu_c18 hX), ez, pu_pI (pu_c52 hX), a1, pu_gI (pu_c52 hX), a2, a3]
            rw [pu_cl (show M < 2147483648 by omega), pu_cl (show N < 2147483648 by omega), pu_cl (show p < 2147483648 by omega)]
            refine ⟨I1, J1, ?_, f0.tr a4⟩
            split <;> rfl
end PUl
