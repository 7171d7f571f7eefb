/-! ===== The reference begins as the text told it ===== -/
/-- what the text told: T stands as at the begin -/
def pu_TM (f : Nat → Int32) (T : pu_A) : Prop :=
  (f 0 = pu_b (decide (0 < T.1 0 0)) ∧ f 1 = nI (T.1 0 0) ∧ f 2 = nI (T.1 0 1) ∧ f 3 = nI (T.1 0 3) ∧ T.1 0 2 = 0) ∧
  (∀ h, h < 10 → f (74 + h) = nI (T.1 1 h) ∧ f (84 + h) = nI (T.1 2 h)) ∧
  (∀ l, l < T.1 0 3 → f (94 + 3 * l) = nI (T.1 3 l) ∧ f (94 + 3 * l + 1) = nI (T.1 4 l) ∧ f (94 + 3 * l + 2) = nI (T.1 5 l)) ∧
  (∀ l, T.2 0 l = decide (l < T.1 0 3)) ∧ (∀ h, T.2 1 h = decide (h < 2 * T.1 0 0))
section PUy
variable {s : List (Nat × Nat)} {J : Nat → Nat → Int64} {R : Nat → Nat → Option Nat}
theorem pu_m_b15 (hM : pu_M s R) : ∀ d i n I, i + d = 10 → d < n → ∃ I', fl_m_begins_15 n 70 (nI i) (s, I, J, R) = some (70, (s, I', J, R)) ∧ (∀ h, h < 10 → I' 80 (12 + h) = (if i ≤ h then I 80 (74 + h) else I 80 (12 + h)) ∧ I' 80 (22 + h) = (if i ≤ h then I 80 (84 + h) else I 80 (22 + h)) ∧ I' 80 (32 + h) = (if i ≤ h then 1 else I 80 (32 + h))) ∧ (∀ k, k < 12 ∨ 42 ≤ k → I' 80 k = I 80 k) ∧ (∀ q, q ≠ 80 → I' q = I q) := by
  intro d
  induction d with
  | zero =>
    intro i n I hi hn
    obtain ⟨n, rfl⟩ : ∃ z, n = z + 1 := ⟨n - 1, by omega⟩
    unfold fl_m_begins_15
    simp only [show (10 : Int32) = nI 10 from rfl, pu_ltI (show i < 2147483648 by omega) (show 10 < 2147483648 by omega), show ¬ i < 10 by omega, ↓reduceIte]
    exact ⟨I, rfl, fun h hh => by rw [if_neg (by omega), if_neg (by omega), if_neg (by omega)]; exact ⟨rfl, rfl, rfl⟩, fun _ _ => rfl, fun _ _ => rfl⟩
  | succ d ih =>
    intro i n I hi hn
    obtain ⟨n, rfl⟩ : ∃ z, n = z + 1 := ⟨n - 1, by omega⟩
    have e84 : ∀ x, tb_up2 I 80 (12 + i) x 80 (84 + i) = I 80 (84 + i) := fun x => pu_u2k _ _ _ _ (by omega)
    rw [fl_m_begins_15.eq_2]
    simp only [show (10 : Int32) = nI 10 from rfl, pu_ltI (show i < 2147483648 by omega) (show 10 < 2147483648 by omega), show i < 10 by omega, ↓reduceIte, pu_gN (pu_m70 hM), pu_r20 hM, Option.bind_some, pu_cell' hM (pu_L74 i) (show 74 + i < 149 by omega), pu_put' hM (pu_L12 i) (show 12 + i < 149 by omega), pu_cell' hM (pu_L84 i) (show 84 + i < 149 by omega), e84, pu_put' hM (pu_L22 i) (show 22 + i < 149 by omega), pu_put' hM (pu_L32 i) (show 32 + i < 149 by omega)]
    rw [← nI_succ]
    obtain ⟨I', a1, a2, a3, a4⟩ := ih (i + 1) n (tb_up2 (tb_up2 (tb_up2 I 80 (12 + i) (I 80 (74 + i))) 80 (22 + i) (I 80 (84 + i))) 80 (32 + i) 1) (by omega) (by omega)
    refine ⟨I', a1, ?_, ?_, fun q hq => by rw [a4 q hq, pu_u2p _ _ _ _ hq, pu_u2p _ _ _ _ hq, pu_u2p _ _ _ _ hq]⟩
    · intro h hh
      obtain ⟨b1, b2, b3⟩ := a2 h hh
      rw [b1, b2, b3]
      by_cases h1 : i + 1 ≤ h
      · rw [if_pos h1, if_pos h1, if_pos h1, if_pos (show i ≤ h by omega), if_pos (show i ≤ h by omega), if_pos (show i ≤ h by omega)]
        simp (disch := omega) only [pu_u2k, and_self]
      · rw [if_neg h1, if_neg h1, if_neg h1]
        by_cases h2 : h = i
        · subst h2
          rw [if_pos (Nat.le_refl _), if_pos (Nat.le_refl _), if_pos (Nat.le_refl _)]
          simp (disch := omega) only [pu_u2k, pu_u2s, and_self]
        · rw [if_neg (show ¬ i ≤ h by omega), if_neg (show ¬ i ≤ h by omega), if_neg (show ¬ i ≤ h by omega)]
          simp (disch := omega) only [pu_u2k, and_self]
    · intro k hk
      rw [a3 k hk]
      simp (disch := omega) only [pu_u2k]
theorem pu_m_b53 (hM : pu_M s R) : ∀ d i n I, i + d = 74 → d < n → ∃ I', fl_m_begins_53 n 70 (nI i) (s, I, J, R) = some (70, (s, I', J, R)) ∧ (∀ k, I' 80 k = if i ≤ k ∧ k < 74 then 0 else I 80 k) ∧ (∀ q, q ≠ 80 → I' q = I q) := by
  intro d
  induction d with
  | zero =>
    intro i n I hi hn
    obtain ⟨n, rfl⟩ : ∃ z, n = z + 1 := ⟨n - 1, by omega⟩
    have hc : ¬ nI i < (74 : Int32) := by rw [show (74 : Int32) = nI 74 from rfl, pu_ltI (by omega) (by omega)]; omega
    unfold fl_m_begins_53
    simp only [hc, ↓reduceIte]
    exact ⟨I, rfl, fun k => by rw [if_neg (by omega)], fun _ _ => rfl⟩
  | succ d ih =>
    intro i n I hi hn
    obtain ⟨n, rfl⟩ : ∃ z, n = z + 1 := ⟨n - 1, by omega⟩
    have hc : nI i < (74 : Int32) := by rw [show (74 : Int32) = nI 74 from rfl, pu_ltI (by omega) (by omega)]; omega
    rw [fl_m_begins_53.eq_2]
    simp only [hc, ↓reduceIte, pu_gN (pu_m70 hM), pu_r20 hM, Option.bind_some, pu_tI (pu_m80 hM) (show i < 149 by omega) (show 149 ≤ 100000 by omega)]
    rw [← nI_succ]
    obtain ⟨I', a1, a2, a3⟩ := ih (i + 1) n (tb_up2 I 80 i 0) (by omega) (by omega)
    refine ⟨I', a1, ?_, fun q hq => by rw [a3 q hq, pu_u2p _ _ _ _ hq]⟩
    intro k
    rw [a2 k, pu_u2i]
    by_cases h1 : i + 1 ≤ k ∧ k < 74
    · rw [if_pos h1, if_pos (by omega)]
    · rw [if_neg h1]
      by_cases h2 : k = i
      · rw [if_pos h2, if_pos (by omega)]
      · rw [if_neg h2, if_neg (by omega)]
theorem pu_m_b65 (hM : pu_M s R) {N : Nat} (hN : N ≤ 8) : ∀ d i n I, i + d = N → d < n → I 80 3 = nI N → ∃ I', fl_m_begins_65 n 70 (nI i) (s, I, J, R) = some (s, I', J, R) ∧ (∀ l, i ≤ l → l < N → I' 80 (42 + 4 * l) = I 80 (94 + 3 * l) ∧ I' 80 (42 + 4 * l + 1) = I 80 (94 + 3 * l + 1) ∧ I' 80 (42 + 4 * l + 2) = I 80 (94 + 3 * l + 2) ∧ I' 80 (42 + 4 * l + 3) = 1) ∧ (∀ k, k < 42 + 4 * i ∨ 42 + 4 * N ≤ k → I' 80 k = I 80 k) ∧ (∀ q, q ≠ 80 → I' q = I q) := by
  intro d
  induction d with
  | zero =>
    intro i n I hi hn e
    obtain ⟨n, rfl⟩ : ∃ z, n = z + 1 := ⟨n - 1, by omega⟩
    unfold fl_m_begins_65
    simp only [pu_gN (pu_m70 hM), pu_r20 hM, Option.bind_some, pu_cell' hM (show (3 : Int32) = nI 3 from rfl) (show 3 < 149 by omega), e, pu_ltI (show i < 2147483648 by omega) (show N < 2147483648 by omega), show ¬ i < N by omega, ↓reduceIte]
    exact ⟨I, rfl, fun l h1 h2 => by omega, fun _ _ => rfl, fun _ _ => rfl⟩
  | succ d ih =>
    intro i n I hi hn e
    obtain ⟨n, rfl⟩ : ∃ z, n = z + 1 := ⟨n - 1, by omega⟩
    have i0 : (94 : Int32) + 3 * nI i = nI (94 + 3 * i) := by rw [pu_M3, pu_L94]
    have i1 : (94 : Int32) + 3 * nI i + 1 = nI (94 + 3 * i + 1) := by rw [pu_M3, pu_L94, pu_R1]
    have i2 : (94 : Int32) + 3 * nI i + 2 = nI (94 + 3 * i + 2) := by rw [pu_M3, pu_L94, pu_R2]
    rw [fl_m_begins_65.eq_2]
    simp only [pu_gN (pu_m70 hM), pu_r20 hM, Option.bind_some, pu_cell' hM (show (3 : Int32) = nI 3 from rfl) (show 3 < 149 by omega), e, pu_ltI (show i < 2147483648 by omega) (show N < 2147483648 by omega), show i < N by omega, ↓reduceIte, pu_cell' hM i0 (show 94 + 3 * i < 149 by omega), pu_cell' hM i1 (show 94 + 3 * i + 1 < 149 by omega), pu_cell' hM i2 (show 94 + 3 * i + 2 < 149 by omega), pu_on (pu_m70 hM), fb_m_ups, pu_put' hM (pu_x0 i) (show 42 + 4 * i < 149 by omega), pu_put' hM (pu_x1 i) (show 42 + 4 * i + 1 < 149 by omega), pu_put' hM (pu_x2 i) (show 42 + 4 * i + 2 < 149 by omega), pu_put' hM (pu_x3 i) (show 42 + 4 * i + 3 < 149 by omega)]
    rw [← nI_succ]
    obtain ⟨I', a1, a2, a3, a4⟩ := ih (i + 1) n (tb_up2 (tb_up2 (tb_up2 (tb_up2 I 80 (42 + 4 * i) (I 80 (94 + 3 * i))) 80 (42 + 4 * i + 1) (I 80 (94 + 3 * i + 1))) 80 (42 + 4 * i + 2) (I 80 (94 + 3 * i + 2))) 80 (42 + 4 * i + 3) 1) (by omega) (by omega) (by simp (disch := omega) only [pu_u2k]; exact e)
    refine ⟨I', a1, ?_, ?_, fun q hq => by rw [a4 q hq, pu_u2p _ _ _ _ hq, pu_u2p _ _ _ _ hq, pu_u2p _ _ _ _ hq, pu_u2p _ _ _ _ hq]⟩
    · intro l h1 h2
      by_cases h3 : l = i
      · subst h3
        rw [a3 _ (by omega), a3 _ (by omega), a3 _ (by omega), a3 _ (by omega)]
        simp (disch := omega) only [pu_u2k, pu_u2s, and_self]
      · obtain ⟨b1, b2, b3, b4⟩ := a2 l (by omega) h2
        rw [b1, b2, b3, b4]
        simp (disch := omega) only [pu_u2k, and_self]
    · intro k hk
      rw [a3 k (by omega)]
      simp (disch := omega) only [pu_u2k]
theorem pu_m_begins {I : Nat → Nat → Int32} {T : pu_A} (hM : pu_M s R) (t : pu_TM (I 80) T) (wf : pu_wf T) : ∃ I', fb_m_begins 70 (s, I, J, R) = some (s, I', J, R) ∧ pu_Q (I' 80) T ∧ pu_Mf I I' := by
  have h5 := wf.1
  have h8 := wf.2.2.1
  obtain ⟨⟨t0, t1, t2, t3, ty⟩, tb, tl, tu, ts⟩ := t
  have e3 : tb_up2 I 80 10 0 80 3 = nI (T.1 0 3) := by rw [pu_u2k _ _ _ _ (by decide)]; exact t3
  obtain ⟨I1, a1, a2, a3, a4⟩ := pu_m_b15 (J := J) hM 10 0 1048576 (tb_up2 (tb_up2 I 80 10 0) 80 11 (nI (T.1 0 3))) (by omega) (by omega)
  obtain ⟨I2, b1, b2, b3⟩ := pu_m_b53 (J := J) hM 32 42 1048576 I1 (by omega) (by omega)
  have k3 : I2 80 3 = nI (T.1 0 3) := by
    rw [b2 3, if_neg (by omega), a3 3 (by omega)]
    simp (disch := omega) only [pu_u2k]; exact t3
  obtain ⟨I3, c1, c2, c3, c4⟩ := pu_m_b65 (J := J) hM h8 (T.1 0 3) 0 1048576 I2 (by omega) (by omega) k3
  rw [show nI 0 = 0 from rfl] at a1 c1
  rw [show nI 42 = 42 from rfl] at b1
  -- a cell that nothing wrote
  have old : ∀ k, (k < 10 ∨ 74 ≤ k) → I2 80 k = I 80 k := fun k hk => by
    rw [b2 k, if_neg (by omega), a3 k (by omega)]
    simp (disch := omega) only [pu_u2k]
  have old3 : ∀ k, (k < 10 ∨ 74 ≤ k) → I3 80 k = I 80 k := fun k hk => by rw [c3 k (by omega), old k hk]
  refine ⟨I3, ?_, ?_, ⟨fun q hq => by rw [c4 q hq, b3 q hq, a4 q hq, pu_u2p _ _ _ _ hq, pu_u2p _ _ _ _ hq], old3⟩⟩
  · unfold fb_m_begins
    simp only [pu_gN (pu_m70 hM), pu_r20 hM, Option.bind_some, pu_put' hM (show (10 : Int32) = nI 10 from rfl) (show 10 < 149 by omega), pu_cell' hM (show (3 : Int32) = nI 3 from rfl) (show 3 < 149 by omega), e3, pu_put' hM (show (11 : Int32) = nI 11 from rfl) (show 11 < 149 by omega), a1, b1, c1]
  · refine ⟨⟨?_, ?_, ?_, ?_, ?_⟩, ?_, ?_, ?_⟩
    · rw [old3 0 (by omega)]; exact t0
    · rw [old3 1 (by omega)]; exact t1
    · rw [old3 2 (by omega)]; exact t2
    · rw [c3 10 (by omega), b2 10, if_neg (by omega), a3 10 (by omega), pu_u2k _ _ _ _ (by decide), pu_u2s, ty]; rfl
    · rw [c3 11 (by omega), b2 11, if_neg (by omega), a3 11 (by omega), pu_u2s]
    · intro h hh
      obtain ⟨d1, d2, d3⟩ := a2 h hh
      rw [if_pos (Nat.zero_le _)] at d1 d2
      have x1 : I3 80 (12 + h) = I 80 (74 + h) := by
        rw [c3 (12 + h) (by omega), b2 (12 + h), if_neg (by omega), d1]
        simp (disch := omega) only [pu_u2k]
      have x2 : I3 80 (22 + h) = I 80 (84 + h) := by
        rw [c3 (22 + h) (by omega), b2 (22 + h), if_neg (by omega), d2]
        simp (disch := omega) only [pu_u2k]
      rw [x1, x2]
      exact tb h hh
    · intro h hh
      obtain ⟨d1, d2, d3⟩ := a2 h (by omega)
      rw [c3 (32 + h) (by omega), b2 (32 + h), if_neg (by omega), d3, if_pos (Nat.zero_le _), ts h, decide_eq_true hh]; rfl
    · intro l hl
      obtain ⟨d1, d2, d3, d4⟩ := c2 l (Nat.zero_le _) hl
      obtain ⟨g1, g2, g3⟩ := tl l hl
      rw [d1, d2, d3, d4, old _ (by omega), old _ (by omega), old _ (by omega), g1, g2, g3, tu l, decide_eq_true hl]
      exact ⟨rfl, rfl, rfl, rfl⟩
end PUy
