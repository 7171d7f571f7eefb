/-! ===== propped; lines hung by the reference ===== -/
def pu_pr (ro : Option pu_Ru) (A : pu_A) (k n m : Nat) : Bool := (pu_ys ro n (pu_n A 2 k (A.1 2 k + m))).2 1 k
def pu_a_propped (ro : Option pu_Ru) (A : pu_A) (a b : Int32) : Int32 := if pu_hs A a = false then -1 else if pu_wi b 1 40 = false then -1 else
  if pu_ff (pu_pr ro A a.toNatClampNeg b.toNatClampNeg) 61 0 < 61 then nI (pu_ff (pu_pr ro A a.toNatClampNeg b.toNatClampNeg) 61 0) else -2
theorem pu_n2_wf {A : pu_A} (wf : pu_wf A) {k m : Nat} (hm : m ≤ 1000) : pu_wf (pu_n A 2 k m) := by
  obtain ⟨a, b, c, d, e, g, u, t⟩ := wf
  refine ⟨a, b, c, ?_, e, g, u, t⟩
  intro h
  show A.1 1 h ≤ 1000 ∧ tb_up2 A.1 2 k m 2 h ≤ 1000
  rw [pu_u2i]
  refine ⟨(d h).1, ?_⟩
  split
  · exact hm
  · exact (d h).2
theorem pu_n1_wf {A : pu_A} (wf : pu_wf A) {k m : Nat} (hm : m ≤ 1000) : pu_wf (pu_n A 1 k m) := by
  obtain ⟨a, b, c, d, e, g, u, t⟩ := wf
  refine ⟨a, b, c, ?_, e, g, u, t⟩
  intro h
  show tb_up2 A.1 1 k m 1 h ≤ 1000 ∧ A.1 2 h ≤ 1000
  rw [pu_u2i]
  refine ⟨?_, (d h).2⟩
  split
  · exact hm
  · exact (d h).1
theorem pu_Q_n2 {I : Nat → Nat → Int32} {A : pu_A} (q : pu_Q (I 80) A) (wf : pu_wf A) {k : Nat} (hk : k < 10) (m : Nat) : pu_Q ((tb_up2 I 80 (22 + k) (nI m)) 80) (pu_n A 2 k m) := by
  have h5 := wf.1
  have h8 := wf.2.2.1
  obtain ⟨⟨a0, a1, a2, a3, a4⟩, b, c, d⟩ := q
  refine ⟨⟨?_, ?_, ?_, ?_, ?_⟩, ?_, ?_, ?_⟩
  · simp (disch := omega) only [pu_u2k]; exact a0
  · simp (disch := omega) only [pu_u2k]; exact a1
  · simp (disch := omega) only [pu_u2k]; exact a2
  · simp (disch := omega) only [pu_u2k]; exact a3
  · simp (disch := omega) only [pu_u2k]; exact a4
  · intro h hh
    refine ⟨?_, ?_⟩
    · simp (disch := omega) only [pu_u2k]; exact (b h hh).1
    · show _ = nI (tb_up2 A.1 2 k m 2 h)
      rw [pu_u2i, pu_u2i]
      by_cases e : h = k
      · rw [if_pos (by omega), if_pos e]
      · rw [if_neg (by omega), if_neg e]; exact (b h hh).2
  · intro h hh
    have hh : h < 2 * A.1 0 0 := hh
    simp (disch := omega) only [pu_u2k]; exact c h hh
  · intro z hz
    simp (disch := omega) only [pu_u2k]; exact d z hz
theorem pu_Q_n1 {I : Nat → Nat → Int32} {A : pu_A} (q : pu_Q (I 80) A) (wf : pu_wf A) {k : Nat} (hk : k < 10) (m : Nat) : pu_Q ((tb_up2 I 80 (12 + k) (nI m)) 80) (pu_n A 1 k m) := by
  have h5 := wf.1
  have h8 := wf.2.2.1
  obtain ⟨⟨a0, a1, a2, a3, a4⟩, b, c, d⟩ := q
  refine ⟨⟨?_, ?_, ?_, ?_, ?_⟩, ?_, ?_, ?_⟩
  · simp (disch := omega) only [pu_u2k]; exact a0
  · simp (disch := omega) only [pu_u2k]; exact a1
  · simp (disch := omega) only [pu_u2k]; exact a2
  · simp (disch := omega) only [pu_u2k]; exact a3
  · simp (disch := omega) only [pu_u2k]; exact a4
  · intro h hh
    refine ⟨?_, ?_⟩
    · show _ = nI (tb_up2 A.1 1 k m 1 h)
      rw [pu_u2i, pu_u2i]
      by_cases e : h = k
      · rw [if_pos (by omega), if_pos e]
      · rw [if_neg (by omega), if_neg e]; exact (b h hh).1
    · simp (disch := omega) only [pu_u2k]; exact (b h hh).2
  · intro h hh
    have hh : h < 2 * A.1 0 0 := hh
    simp (disch := omega) only [pu_u2k]; exact c h hh
  · intro z hz
    simp (disch := omega) only [pu_u2k]; exact d z hz
section PUa
variable {s : List (Nat × Nat)} {R : Nat → Nat → Option Nat} {I : Nat → Nat → Int32} {J : Nat → Nat → Int64} {A : pu_A} {ro : Option pu_Ru}
theorem pu_V_cf {I' : Nat → Nat → Int32} {J' : Nat → Nat → Int64} (f : pu_Cf I I' J J') (v : pu_V I 19 A) : pu_V I' 19 A := pu_V_eq (fun j hj => f.1 _ (by omega) (by omega) (by omega)) v
theorem pu_FC_cf {I' : Nat → Nat → Int32} {J' : Nat → Nat → Int64} {c : Option Nat} (f : pu_Cf I I' J J') (h : pu_FC s I c ro) : pu_FC s I' c ro := pu_FC_eq (fun q hq => f.1 q (by omega) (by omega) (by omega)) h
theorem pu_yr_leastProp_l (hX : pu_X s R) (wf : pu_wf A) {c : Option Nat} {k N : Nat} (hk : k < 2 * A.1 0 0) (hf : A.1 2 k ≤ 100) (hN : N ≤ 40) : ∀ d i n I J, i + d = 61 → d < n → pu_V I 19 A → pu_FC s I c ro →
    ∃ I' J', fl_yr_leastProp_2 n 52 19 c (nI k) (nI N) (nI i) (s, I, J, R) = some (if pu_ff (pu_pr ro A k N) d i < 61 then nI (pu_ff (pu_pr ro A k N) d i) else -1, (s, I', J', R)) ∧ pu_Cf I I' J J' := by
  intro d
  have h5 := wf.1
  induction d with
  | zero =>
    intro i n I J hi hn v hF
    obtain ⟨n, rfl⟩ : ∃ z, n = z + 1 := ⟨n - 1, by omega⟩
    unfold fl_yr_leastProp_2 pu_ff
    simp only [show (60 : Int32) = nI 60 from rfl, pu_leI (show i < 2147483648 by omega) (show 60 < 2147483648 by omega), show ¬ i ≤ 60 by omega, ↓reduceIte, fj_yr_leastProp_j30, show ¬ i < 61 by omega]
    exact ⟨I, J, rfl, pu_Cf.rf⟩
  | succ d ih =>
    intro i n I J hi hn v hF
    obtain ⟨n, rfl⟩ : ∃ z, n = z + 1 := ⟨n - 1, by omega⟩
    obtain ⟨I1, a1, a2, a3⟩ := pu_yr_begin (J := J) hX (pu_st19 hX) (by omega) v wf
    have f1 : pu_Cf I I1 J J := pu_Cf.fr (by omega) (by omega) a3
    have v1 := pu_V_cf f1 v
    have v2 := pu_V_n2 a2 (k := k) (m := A.1 2 k + i)
    have wf2 : pu_wf (pu_n A 2 k (A.1 2 k + i)) := pu_n2_wf wf (by omega)
    have f2 : pu_Cf I1 (tb_up2 I1 (53 + 2) k (nI (A.1 2 k + i))) J J := pu_Cf.u2 (by omega) (by omega)
    obtain ⟨I3, J3, B, b1, b2, b3, b4, b5⟩ := pu_yr_goOn (J := J) hX v2 wf2 (pu_FC_cf (f1.tr f2) hF) (show N < 1000000 by omega)
    have f3 : pu_Cf I I3 J J3 := (f1.tr f2).tr (pu_Cf.yf (by omega) (by omega) b5)
    rw [fl_yr_leastProp_2.eq_2]
    simp only [show (60 : Int32) = nI 60 from rfl, pu_leI (show i < 2147483648 by omega) (show 60 < 2147483648 by omega), show i ≤ 60 by omega, ↓reduceIte, pu_on (pu_c52 hX), a1, Option.bind_some, pu_gN (pu_c52 hX), pu_f52_0 hX, pu_on (pu_c19 hX), pu_s_footOf (pu_st19 hX) v1 wf hk, nI_add, pu_on (pu_c53 hX), pu_s_setFoot (pu_st53 hX) a2 wf hk, b1, pu_s_stands (pu_st53 hX) b2 b3 (show k < 2147483648 by omega), b4.2.1 k, pu_b0]
    rw [← nI_succ]
    have e : pu_ff (pu_pr ro A k N) (d + 1) i = if pu_pr ro A k N i then i else pu_ff (pu_pr ro A k N) d (i + 1) := rfl
    rw [e]
    have ep : (pu_ys ro N (pu_n A 2 k (A.1 2 k + i))).2 1 k = pu_pr ro A k N i := rfl
    rw [ep]
    cases hp : pu_pr ro A k N i
    · simp only [↓reduceIte, Bool.false_eq_true]
      obtain ⟨I', J', c1, c2⟩ := ih (i + 1) n I3 J3 (by omega) (by omega) (pu_V_cf f3 v) (pu_FC_cf f3 hF)
      exact ⟨I', J', c1, f3.tr c2⟩
    · simp only [↓reduceIte, Bool.true_eq_false, fj_yr_leastProp_j26, show i < 61 by omega]
      exact ⟨I3, J3, rfl, f3⟩
theorem pu_x_propped (hX : pu_X s R) (v : pu_V I 19 A) (wf : pu_wf A) (hF : pu_FX s I R ro) (hf : ∀ k, A.1 2 k ≤ 100) (a b : Int32) : ∃ I' J', fb_x_propped 1 a b (s, I, J, R) = some (pu_a_propped ro A a b, (s, I', J', R)) ∧ pu_Cf I I' J J' := by
  have h5 := wf.1
  unfold fb_x_propped pu_a_propped
  simp only [pu_gN (pu_c1 hX), pu_f1_5 hX, pu_f1_10 hX, Option.bind_some, pu_gN (pu_c18 hX), pu_f18_0 hX, pu_on (pu_c19 hX), pu_s_standsA (pu_st19 hX) v wf, pu_b0, pu_x_within]
  cases h1 : pu_hs A a
  · simp only [↓reduceIte]
    exact ⟨I, J, rfl, pu_Cf.rf⟩
  · simp only [Bool.true_eq_false, ↓reduceIte]
    cases h2 : pu_wi b 1 40
    · simp only [↓reduceIte]
      exact ⟨I, J, rfl, pu_Cf.rf⟩
    · obtain ⟨k, hk, rfl, -⟩ := pu_hs_n wf h1
      obtain ⟨N, hN, rfl, -⟩ := pu_wi_n h2 (by decide) (show (40 : Int32) = nI 40 from rfl) (by omega)
      obtain ⟨c, c1, c2⟩ := pu_x_ruleInForce (I := I) (J := J) (ro := ro) hX hF
      obtain ⟨I1, J1, a1, a2⟩ := pu_yr_leastProp_l (ro := ro) (c := c) hX wf hk (hf k) hN 61 0 1048576 I J (by omega) (by omega) v c2
      rw [show nI 0 = 0 from rfl] at a1
      simp only [Bool.true_eq_false, ↓reduceIte, pu_gN (pu_c1 hX), pu_f1_5 hX, pu_f1_10 hX, pu_gN (pu_c18 hX), pu_f18_0 hX, Option.bind_some, pu_on (pu_c1 hX), c1, pu_on (pu_c52 hX), fb_yr_leastProp, a1]
      rw [pu_cl (show k < 2147483648 by omega), pu_cl (show N < 2147483648 by omega)]
      refine ⟨I1, J1, ?_, a2⟩
      by_cases hz : pu_ff (pu_pr ro A k N) 61 0 < 61
      · simp only [hz, ↓reduceIte, pu_ne1 (show pu_ff (pu_pr ro A k N) 61 0 < 2147483648 by omega)]
      · simp only [hz, ↓reduceIte]
theorem pu_m_propped_l {I0 : Nat → Nat → Int32} {J0 : Nat → Nat → Int64} (hM : pu_M s R) (q : pu_Q (I0 80) A) (wf : pu_wf A) (hF : pu_FM I0 ro) {k N : Nat} (hk : k < 2 * A.1 0 0) (hf : A.1 2 k ≤ 100) (hN : N ≤ 40) : ∀ d i n I J, i + d = 61 → d + 1 < n → pu_Zf I0 I J0 J → (∀ z, z < 64 → I 82 z = I0 80 (10 + z)) →
    ∃ I' J', fl_m_propped_18 n 70 (nI k) (nI N) (-2) (nI i) (s, I, J, R) = some (if pu_ff (pu_pr ro A k N) d i < 61 then nI (pu_ff (pu_pr ro A k N) d i) else -2, (s, I', J', R)) ∧ pu_Zf I0 I' J0 J' := by
  intro d
  have h5 := wf.1
  induction d with
  | zero =>
    intro i n I J hi hn f h82
    obtain ⟨n, rfl⟩ : ∃ z, n = z + 1 := ⟨n - 1, by omega⟩
    unfold fl_m_propped_18 pu_ff
    simp only [show (60 : Int32) = nI 60 from rfl, pu_leI (show i < 2147483648 by omega) (show 60 < 2147483648 by omega), show ¬ i ≤ 60 by omega, ↓reduceIte, show ¬ i < 61 by omega]
    exact ⟨I, J, rfl, f⟩
  | succ d ih =>
    intro i n I J hi hn f h82
    obtain ⟨n, rfl⟩ : ∃ z, n = z + 1 + 1 := ⟨n - 2, by omega⟩
    have q1 : pu_Q (I 80) A := by rw [f.1 80 (by decide) (by omega)]; exact q
    have e22 : I 80 (22 + k) = nI (A.1 2 k) := (q1.2.1 k (by omega)).2
    have q2 := pu_Q_n2 q1 wf (show k < 10 by omega) (A.1 2 k + i)
    have wf2 : pu_wf (pu_n A 2 k (A.1 2 k + i)) := pu_n2_wf wf (by omega)
    have f2 : pu_Tf I0 (tb_up2 I 80 (22 + k) (nI (A.1 2 k + i))) J0 J := (pu_Tf.zf f).tr (pu_Tf.mf (pu_Mf.u2 (by omega) (by omega)))
    obtain ⟨I3, J3, b1, b2, b3⟩ := pu_m_passesAll (J := J) hM q2 wf2 (pu_FM_tf f2 hF) (show N < 1000000 by omega)
    have wf3 := pu_ys_wf (ro := ro) N wf2
    have f3 : pu_Tf I0 I3 J0 J3 := f2.tr (pu_Tf.pf b3)
    have h823 : ∀ z, z < 64 → I3 82 z = I0 80 (10 + z) := fun z hz => by rw [b3.1 82 (by decide) (by decide), pu_u2p _ _ _ _ (by decide)]; exact h82 z hz
    obtain ⟨I4, d1, d2, d3, -⟩ := pu_m_laysBack (I := I3) (I0 := I0) (J := J3) (J0 := J0) hM h823 f3
    rw [fl_m_propped_18.eq_2]
    simp only [show (60 : Int32) = nI 60 from rfl, pu_leI (show i < 2147483648 by omega) (show 60 < 2147483648 by omega), show i ≤ 60 by omega, ↓reduceIte, show ((-2 : Int32) < 0) by decide, pu_gN (pu_m70 hM), pu_r20 hM, Option.bind_some, pu_cell' hM (pu_L22 k) (show 22 + k < 149 by omega), e22, nI_add, pu_put' hM (pu_L22 k) (show 22 + k < 149 by omega), pu_on (pu_m70 hM), b1, pu_m_isStanding hM b2 wf3 (show k < 2147483648 by omega), pu_b0, d1]
    rw [← nI_succ]
    have e : pu_ff (pu_pr ro A k N) (d + 1) i = if pu_pr ro A k N i then i else pu_ff (pu_pr ro A k N) d (i + 1) := rfl
    rw [e]
    have ep : (pu_ys ro N (pu_n A 2 k (A.1 2 k + i))).2 1 k = pu_pr ro A k N i := rfl
    rw [ep]
    cases hp : pu_pr ro A k N i
    · simp only [↓reduceIte, Bool.false_eq_true]
      exact ih (i + 1) (n + 1) I4 J3 (by omega) (by omega) d2 (fun z hz => by rw [d3]; exact h823 z hz)
    · simp only [↓reduceIte, Bool.true_eq_false, show i < 61 by omega]
      refine ⟨I4, J3, ?_, d2⟩
      unfold fl_m_propped_18
      simp only [pu_lt0 (show i < 2147483648 by omega), ↓reduceIte, ite_self]
theorem pu_m_propped (hM : pu_M s R) (q : pu_Q (I 80) A) (wf : pu_wf A) (hF : pu_FM I ro) (hf : ∀ k, A.1 2 k ≤ 100) (a b : Int32) : ∃ I' J', fb_m_propped 70 a b (s, I, J, R) = some (pu_a_propped ro A a b, (s, I', J', R)) ∧ pu_Zf I I' J J' := by
  have h5 := wf.1
  unfold fb_m_propped pu_a_propped
  simp only [pu_on (pu_m70 hM), pu_m_isStandingA hM q wf, Option.bind_some, pu_b0, pu_m_in b 1 40 (show (1 : Int64) = (1 : Int32).toInt64 from rfl) (show (40 : Int64) = (40 : Int32).toInt64 from rfl)]
  cases h1 : pu_hs A a
  · simp only [↓reduceIte]
    exact ⟨I, J, rfl, pu_Zf.rf⟩
  · simp only [Bool.true_eq_false, ↓reduceIte]
    cases h2 : pu_wi b 1 40
    · simp only [↓reduceIte]
      exact ⟨I, J, rfl, pu_Zf.rf⟩
    · obtain ⟨k, hk, rfl, -⟩ := pu_hs_n wf h1
      obtain ⟨N, hN, rfl, -⟩ := pu_wi_n h2 (by decide) (show (40 : Int32) = nI 40 from rfl) (by omega)
      obtain ⟨I1, a1, a2, a3⟩ := pu_m_keeps (I := I) (J := J) hM
      have f1 : pu_Zf I I1 J J := ⟨fun z _ h3 => a3 z (by omega), fun k _ => congrFun (a3 70 (by decide)) k, fun _ _ _ _ => rfl⟩
      obtain ⟨I2, J2, b1, b2⟩ := pu_m_propped_l (I0 := I) (J0 := J) (ro := ro) hM q wf hF hk (hf k) hN 61 0 1048576 I1 J (by omega) (by omega) f1 a2
      rw [show nI 0 = 0 from rfl] at b1
      simp only [Bool.true_eq_false, ↓reduceIte, a1, Option.bind_some, b1]
      rw [pu_cl (show k < 2147483648 by omega), pu_cl (show N < 2147483648 by omega)]
      exact ⟨I2, J2, rfl, b2⟩
/-! the reference hangs a line -/
theorem pu_m_hangs_l (hM : pu_M s R) (q : pu_Q (I 80) A) (wf : pu_wf A) (o e m : Int32) : ∀ d i n, i + d = 8 → d < n → pu_ff (fun l => !A.2 0 l) d i < 8 → fl_m_hangs_2 n 70 o e m (nI i) (s, I, J, R) = some (70, o, e, m, nI (pu_ff (fun l => !A.2 0 l) d i), (s, I, J, R)) := by
  intro d
  induction d with
  | zero => intro i n hi hn h; unfold pu_ff at h; omega
  | succ d ih =>
    intro i n hi hn h
    obtain ⟨n, rfl⟩ : ∃ z, n = z + 1 := ⟨n - 1, by omega⟩
    unfold fl_m_hangs_2
    unfold pu_ff at h ⊢
    simp only [pu_on (pu_m70 hM), pu_m_isUp hM q wf (show i < 2147483648 by omega), Option.bind_some, pu_b0]
    cases hu : A.2 0 i
    · simp only [↓reduceIte, Bool.not_false]
    · simp only [hu, Bool.not_true, Bool.false_eq_true, Bool.true_eq_false, ↓reduceIte] at h ⊢
      rw [← nI_succ]
      exact ih (i + 1) n (by omega) (by omega) h
theorem pu_lnu_le (wf : pu_wf A) (h : pu_lnu A < 8) : pu_lnu A ≤ A.1 0 3 := by
  rcases Nat.lt_or_ge (A.1 0 3) (pu_lnu A) with h2 | h2
  · have h3 := pu_ff_no (fun l => !A.2 0 l) 8 0 (A.1 0 3) (by omega) h2
    have h4 : A.2 0 (A.1 0 3) = false := pu_noup wf (by omega)
    rw [h4] at h3
    cases h3
  · exact h2
theorem pu_m_hangs (hM : pu_M s R) (q : pu_Q (I 80) A) (wf : pu_wf A) (hl : pu_lnu A < 8) (o e m : Nat) : ∃ I', fb_m_hangs 70 (nI o) (nI e) (nI m) (s, I, J, R) = some (nI (pu_lnu A), (s, I', J, R)) ∧ pu_Q (I' 80) (pu_put A (pu_lnu A) o e m) ∧ pu_Mf I I' := by
  have h5 := wf.1
  have h8 := wf.2.2.1
  have hle := pu_lnu_le wf hl
  have e1 := pu_m_hangs_l (J := J) hM q wf (nI o) (nI e) (nI m) 8 0 1048576 (by omega) (by omega) hl
  rw [show pu_ff (fun l => !A.2 0 l) 8 0 = pu_lnu A from rfl] at e1
  generalize hL : pu_lnu A = l at *
  have hups : ∀ (I2 : Nat → Nat → Int32), fj_m_hangs_j22 70 (nI o) (nI e) (nI m) (nI l) (s, I2, J, R) = some (nI l, (s, tb_up2 (tb_up2 (tb_up2 (tb_up2 I2 80 (42 + 4 * l) (nI o)) 80 (42 + 4 * l + 1) (nI e)) 80 (42 + 4 * l + 2) (nI m)) 80 (42 + 4 * l + 3) 1, J, R)) := by
    intro I2
    unfold fj_m_hangs_j22 fb_m_ups
    simp only [pu_on (pu_m70 hM), pu_gN (pu_m70 hM), pu_r20 hM, Option.bind_some, pu_put' hM (pu_x0 l) (show 42 + 4 * l < 149 by omega), pu_put' hM (pu_x1 l) (show 42 + 4 * l + 1 < 149 by omega), pu_put' hM (pu_x2 l) (show 42 + 4 * l + 2 < 149 by omega), pu_put' hM (pu_x3 l) (show 42 + 4 * l + 3 < 149 by omega)]
  unfold fb_m_hangs
  rw [show nI 0 = 0 from rfl] at e1
  simp only [e1, Option.bind_some, pu_gN (pu_m70 hM), pu_r20 hM, pu_cell' hM (show (11 : Int32) = nI 11 from rfl) (show 11 < 149 by omega), q.1.2.2.2.2, pu_eqI (show l < 2147483648 by omega) (show A.1 0 3 < 2147483648 by omega), pu_R1, pu_put' hM (show (11 : Int32) = nI 11 from rfl) (show 11 < 149 by omega), hups]
  obtain ⟨⟨a0, a1, a2, a3, a4⟩, b, c, d⟩ := q
  have key : ∀ (I2 : Nat → Nat → Int32), (∀ k, k ≠ 11 → I2 80 k = I 80 k) → I2 80 11 = nI (if l = A.1 0 3 then l + 1 else A.1 0 3) → pu_Q ((tb_up2 (tb_up2 (tb_up2 (tb_up2 I2 80 (42 + 4 * l) (nI o)) 80 (42 + 4 * l + 1) (nI e)) 80 (42 + 4 * l + 2) (nI m)) 80 (42 + 4 * l + 3) 1) 80) (pu_put A l o e m) := by
    intro I2 h1 h2
    refine ⟨⟨?_, ?_, ?_, ?_, ?_⟩, ?_, ?_, ?_⟩
    · simp (disch := omega) only [pu_u2k]; rw [h1 0 (by omega)]; exact a0
    · simp (disch := omega) only [pu_u2k]; rw [h1 1 (by omega)]; exact a1
    · simp (disch := omega) only [pu_u2k]; rw [h1 2 (by omega)]; exact a2
    · simp (disch := omega) only [pu_u2k]; rw [h1 10 (by omega)]; exact a3
    · simp (disch := omega) only [pu_u2k]; exact h2
    · intro h hh
      simp (disch := omega) only [pu_u2k]
      rw [h1 _ (by omega), h1 _ (by omega)]
      show I 80 (12 + h) = nI (if h = l then A.1 1 h else A.1 1 h) ∧ I 80 (22 + h) = nI (if h = l then A.1 2 h else A.1 2 h)
      rw [ite_self, ite_self]
      exact b h hh
    · intro h hh
      have hh : h < 2 * A.1 0 0 := hh
      simp (disch := omega) only [pu_u2k]
      rw [h1 _ (by omega)]
      exact c h hh
    · intro k hk
      have hk : k < (if l = A.1 0 3 then l + 1 else A.1 0 3) := hk
      show _ = nI (if k = l then o else A.1 3 k) ∧ _ = nI (if k = l then e else A.1 4 k) ∧ _ = (if (A.2 0 k || decide (k = l)) = true then nI (if k = l then m else A.1 5 k) else 0) ∧ _ = pu_b (A.2 0 k || decide (k = l))
      by_cases ek : k = l
      · subst ek
        simp (disch := omega) only [pu_u2k, pu_u2s, ↓reduceIte, decide_true, Bool.or_true, pu_bt, and_self]
      · have hk2 : k < A.1 0 3 := by split at hk <;> omega
        simp (disch := omega) only [pu_u2k, ek, ↓reduceIte, decide_false, Bool.or_false]
        rw [h1 _ (by omega), h1 _ (by omega), h1 _ (by omega), h1 _ (by omega)]
        exact d k hk2
  have mf : ∀ (I2 : Nat → Nat → Int32), pu_Mf I2 (tb_up2 (tb_up2 (tb_up2 (tb_up2 I2 80 (42 + 4 * l) (nI o)) 80 (42 + 4 * l + 1) (nI e)) 80 (42 + 4 * l + 2) (nI m)) 80 (42 + 4 * l + 3) 1) := fun I2 => (((pu_Mf.u2 (by omega) (by omega)).tr (pu_Mf.u2 (by omega) (by omega))).tr (pu_Mf.u2 (by omega) (by omega))).tr (pu_Mf.u2 (by omega) (by omega))
  by_cases hll : l = A.1 0 3
  · rw [if_pos hll]
    refine ⟨_, rfl, key (tb_up2 I 80 11 (nI (A.1 0 3 + 1))) (fun k hk => pu_u2k _ _ _ _ hk) ?_, (pu_Mf.u2 (by omega) (by omega)).tr (mf _)⟩
    rw [pu_u2s, if_pos hll, hll]
  · rw [if_neg hll]
    refine ⟨_, rfl, key I (fun k _ => rfl) ?_, mf I⟩
    rw [if_neg hll]
    exact a4
end PUa
