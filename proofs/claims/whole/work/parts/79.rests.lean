/-! ===== rests: the class's answer; the reference's gains ===== -/
section PUq
variable {s : List (Nat × Nat)} {R : Nat → Nat → Option Nat} {I : Nat → Nat → Int32} {J : Nat → Nat → Int64} {A : pu_A} {ro : Option pu_Ru}
theorem pu_x_rests (hX : pu_X s R) (v : pu_V I 19 A) (wf : pu_wf A) (hF : pu_FX s I R ro) (a b c d : Int32) : ∃ I' J', fb_x_rests 1 a b c d (s, I, J, R) = some (pu_a_rests ro A a b c d, (s, I', J', R)) ∧ pu_Cf I I' J J' := by
  have h5 := wf.1
  have hz : fj_x_rests_j18 1 a b c d 0 (s, I, J, R) = some (-1, (s, I, J, R)) := by
    unfold fj_x_rests_j18
    rw [if_pos rfl]
  unfold fb_x_rests pu_a_rests
  by_cases hab : a = b
  · rw [if_pos hab, if_pos hab, hz]
    exact ⟨I, J, rfl, pu_Cf.rf⟩
  · rw [if_neg hab, if_neg hab]
    simp only [pu_gN (pu_c1 hX), pu_f1_5 hX, Option.bind_some, pu_gN (pu_c18 hX), pu_f18_0 hX, pu_on (pu_c19 hX), pu_s_standsA (pu_st19 hX) v wf, pu_b0]
    cases h1 : pu_hs A a
    · simp only [↓reduceIte, hz]
      exact ⟨I, J, rfl, pu_Cf.rf⟩
    · cases h2 : pu_hs A b
      · simp only [Bool.true_eq_false, ↓reduceIte, pu_gN (pu_c1 hX), pu_f1_5 hX, Option.bind_some, pu_gN (pu_c18 hX), pu_f18_0 hX, pu_on (pu_c19 hX), pu_s_standsA (pu_st19 hX) v wf, pu_b0, h2, hz]
        exact ⟨I, J, rfl, pu_Cf.rf⟩
      · simp only [Bool.true_eq_false, ↓reduceIte, pu_gN (pu_c1 hX), pu_f1_5 hX, Option.bind_some, pu_gN (pu_c18 hX), pu_f18_0 hX, pu_on (pu_c19 hX), pu_s_standsA (pu_st19 hX) v wf, pu_b0, h2]
        unfold fj_x_rests_j18
        simp only [show ¬ ((1 : Int32) = 0) by decide, ↓reduceIte, pu_x_within, Option.bind_some, pu_b0]
        cases h3 : pu_wi c 1 20
        · simp only [↓reduceIte]
          exact ⟨I, J, rfl, pu_Cf.rf⟩
        · cases h4 : pu_wi d 0 2
          · simp only [Bool.true_eq_false, ↓reduceIte]
            exact ⟨I, J, rfl, pu_Cf.rf⟩
          · obtain ⟨o, ho, rfl, -⟩ := pu_hs_n wf h1
            obtain ⟨e, he, rfl, -⟩ := pu_hs_n wf h2
            obtain ⟨N, hN, rfl, -⟩ := pu_wi_n h3 (by decide) (show (20 : Int32) = nI 20 from rfl) (by omega)
            obtain ⟨cc, c1, c2⟩ := pu_x_ruleInForce (I := I) (J := J) (ro := ro) hX hF
            obtain ⟨I1, J1, a1, a2, a3⟩ := pu_yr_gains (ro := ro) (c := cc) hX wf ho he hN 4 0 1048576 I J (by omega) (by omega) v c2 (fun z hz => by omega)
            rw [show nI 0 = 0 from rfl] at a1
            obtain ⟨I2, b1, b2, b3, b4, b5⟩ := pu_yr_rests_l (J := J1) hX (G := pu_g0 ro A o e N) (H := pu_g1 ro A o e N) (fun w => ⟨by have := pu_g0_le (ro := ro) (A := A) (o := o) (e := e) (n := N) (w := w); omega, by have := pu_g1_le (ro := ro) (A := A) (o := o) (e := e) (n := N) (w := w); omega⟩) 4 0 1048576 (tb_up2 (tb_up2 (tb_up2 I1 52 2 0) 52 3 (-2)) 52 4 (-2)) (0, -2, -2) (by omega) (by omega) (fun z hz => by rw [pu_u2p _ _ _ _ (by decide), pu_u2p _ _ _ _ (by decide), pu_u2p _ _ _ _ (by decide)]; exact a2 z hz) (by simp (disch := omega) only [pu_u2k, pu_u2s]; rfl) (by simp (disch := omega) only [pu_u2k, pu_u2s]) (pu_u2s _ _ _ _) (by show 0 ≤ 0; omega)
            rw [show nI 0 = 0 from rfl] at b1
            simp only [Bool.true_eq_false, ↓reduceIte, pu_gN (pu_c1 hX), pu_f1_5 hX, pu_f1_10 hX, Option.bind_some, pu_gN (pu_c18 hX), pu_f18_0 hX, pu_on (pu_c1 hX), c1, pu_on (pu_c52 hX), fb_yr_findRests, a1, pu_pI (pu_c52 hX), b1, pu_gI (pu_c52 hX), b2, b3, b4]
            rw [pu_cl (show o < 2147483648 by omega), pu_cl (show e < 2147483648 by omega), pu_cl (show N < 2147483648 by omega)]
            refine ⟨I2, J1, ?_, (a3.tr (((pu_Cf.u2 (by omega) (by omega)).tr (pu_Cf.u2 (by omega) (by omega))).tr (pu_Cf.u2 (by omega) (by omega)))).tr b5⟩
            split
            · rfl
            · split <;> rfl
/-- laid back, and nothing but the row changed -/
theorem pu_m_laysBack2 {I0 : Nat → Nat → Int32} {J0 : Nat → Nat → Int64} (hM : pu_M s R) (hk : ∀ k, k < 64 → I 82 k = I0 80 (10 + k)) (f : pu_Tf I0 I J0 J) : ∃ I', fb_m_laysBack 70 (s, I, J, R) = some (s, I', J, R) ∧ pu_Zf I0 I' J0 J ∧ pu_Mf I I' := by
  obtain ⟨I', a1, a2, a3⟩ := pu_m_laysBack_l (J := J) hM 64 0 1048576 I (by omega) (by omega)
  refine ⟨I', ?_, (f.tr (pu_Tf.mf a3)).back ?_, a3⟩
  · unfold fb_m_laysBack
    rw [show nI 0 = 0 from rfl] at a1
    rw [a1]
    rfl
  · intro k h1 h2
    have := a2 (k - 10) (by omega)
    rw [show 10 + (k - 10) = k by omega, if_pos (by omega), hk (k - 10) (by omega), show 10 + (k - 10) = k by omega] at this
    exact this
theorem pu_Tf.s5 {k : Nat} {x : Int32} : pu_Tf I (tb_up2 I 85 k x) J J := ⟨fun q _ _ h => pu_u2p _ _ _ _ (by omega), fun k _ => congrFun (pu_u2p _ _ _ _ (by decide)) k, fun k _ => congrFun (pu_u2p _ _ _ _ (by decide)) k, fun _ _ _ _ => rfl⟩
theorem pu_m_rg (hM : pu_M s R) {o e w N : Nat} (hw : w < 4) (hN : N ≤ 20) : ∀ d i n I J B a b, i + d = N → d < n → pu_Q (I 80) B → pu_wf B → pu_FM I ro → o < 2 * B.1 0 0 → e < 2 * B.1 0 0 → I 85 (2 * w) = nI a → I 85 (2 * w + 1) = nI b →
    ∃ I' J', fl_m_fillsRest_46 n 70 (nI o) (nI e) (nI N) (nI (2 * w)) (nI i) (s, I, J, R) = some (70, nI o, nI e, nI (2 * w), (s, I', J', R)) ∧ pu_Q (I' 80) (pu_rg ro o e d B a b).2.2 ∧ I' 85 (2 * w) = nI (pu_rg ro o e d B a b).1 ∧ I' 85 (2 * w + 1) = nI (pu_rg ro o e d B a b).2.1 ∧ (∀ k, k ≠ 2 * w → k ≠ 2 * w + 1 → I' 85 k = I 85 k) ∧ I' 82 = I 82 ∧ pu_Tf I I' J J' := by
  intro d
  induction d with
  | zero =>
    intro i n I J B a b hi hn q wf hF ho he ea eb
    obtain ⟨n, rfl⟩ : ∃ z, n = z + 1 := ⟨n - 1, by omega⟩
    unfold fl_m_fillsRest_46
    simp only [pu_ltI (show i < 2147483648 by omega) (show N < 2147483648 by omega), show ¬ i < N by omega, ↓reduceIte]
    exact ⟨I, J, rfl, q, ea, eb, fun _ _ _ => rfl, rfl, pu_Tf.rf⟩
  | succ d ih =>
    intro i n I J B a b hi hn q wf hF ho he ea eb
    obtain ⟨n, rfl⟩ : ∃ z, n = z + 1 := ⟨n - 1, by omega⟩
    have h5 := wf.1
    obtain ⟨I1, J1, a1, a2, a3⟩ := pu_m_passes (J := J) (ro := ro) hM q wf hF
    have wf1 := pu_year_wf (ro := ro) wf
    have sz1 : (pu_year ro B).1 0 0 = B.1 0 0 := pu_year_r 0 0 (by omega) (fun _ => by omega)
    have e85 : I1 85 = I 85 := a3.1 85 (by decide) (by decide)
    have ex : ∀ (x : Nat) (t : Bool), nI x + pu_b t = nI (x + (if t then 1 else 0)) := by
      intro x t
      cases t
      · rw [pu_bf, if_neg (by decide), Int32.add_zero, Nat.add_zero]
      · rw [pu_bt, if_pos rfl, pu_R1]
    have ea1 : I1 85 (2 * w) = nI a := by rw [e85]; exact ea
    have eb1 : ∀ x, tb_up2 I1 85 (2 * w) x 85 (2 * w + 1) = nI b := fun x => by rw [pu_u2k _ _ _ _ (by omega), e85]; exact eb
    have so : I1 80 (32 + o) = pu_b ((pu_year ro B).2 1 o) := a2.2.2.1 o (by rw [sz1]; exact ho)
    have se : ∀ x, tb_up2 I1 85 (2 * w) x 80 (32 + e) = pu_b ((pu_year ro B).2 1 e) := fun x => by rw [pu_u2p _ _ _ _ (by decide)]; exact a2.2.2.1 e (by rw [sz1]; exact he)
    rw [fl_m_fillsRest_46.eq_2]
    simp only [pu_ltI (show i < 2147483648 by omega) (show N < 2147483648 by omega), show i < N by omega, ↓reduceIte, pu_on (pu_m70 hM), a1, Option.bind_some, pu_gN (pu_m70 hM), pu_r28 hM, pu_r20 hM, pu_lI (pu_m85 hM) (show 2 * w < 8 by omega) (show 8 ≤ 100000 by omega), ea1, pu_cell' hM (pu_L32 o) (show 32 + o < 149 by omega), so, ex, pu_tI (pu_m85 hM) (show 2 * w < 8 by omega) (show 8 ≤ 100000 by omega), pu_R1, pu_lI (pu_m85 hM) (show 2 * w + 1 < 8 by omega) (show 8 ≤ 100000 by omega), eb1, pu_cell' hM (pu_L32 e) (show 32 + e < 149 by omega), se, pu_tI (pu_m85 hM) (show 2 * w + 1 < 8 by omega) (show 8 ≤ 100000 by omega)]
    have f2 : pu_Tf I (tb_up2 (tb_up2 I1 85 (2 * w) (nI (a + (if (pu_year ro B).2 1 o then 1 else 0)))) 85 (2 * w + 1) (nI (b + (if (pu_year ro B).2 1 e then 1 else 0)))) J J1 := (pu_Tf.pf a3).tr (pu_Tf.s5.tr pu_Tf.s5)
    obtain ⟨I', J', c1, c2, c3, c4, c5, c6, c7⟩ := ih (i + 1) n _ J1 (pu_year ro B) (a + (if (pu_year ro B).2 1 o then 1 else 0)) (b + (if (pu_year ro B).2 1 e then 1 else 0)) (by omega) (by omega) (by rw [pu_u2p _ _ _ _ (by decide), pu_u2p _ _ _ _ (by decide)]; exact a2) wf1 (pu_FM_tf f2 hF) (by rw [sz1]; exact ho) (by rw [sz1]; exact he) (by rw [pu_u2k _ _ _ _ (by omega), pu_u2s]) (pu_u2s _ _ _ _)
    refine ⟨I', J', c1, c2, c3, c4, ?_, by rw [c6, pu_u2p _ _ _ _ (by decide), pu_u2p _ _ _ _ (by decide), a3.1 82 (by decide) (by decide)], f2.tr c7⟩
    intro k h1 h2
    rw [c5 k h1 h2, pu_u2k _ _ _ _ h2, pu_u2k _ _ _ _ h1, e85]
end PUq
