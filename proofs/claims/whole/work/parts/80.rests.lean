/-! ===== rests of the reference ===== -/
section PUr
variable {s : List (Nat × Nat)} {R : Nat → Nat → Option Nat} {I : Nat → Nat → Int32} {J : Nat → Nat → Int64} {A : pu_A} {ro : Option pu_Ru}
theorem pu_m_fills_e {I0 : Nat → Nat → Int32} {J0 : Nat → Nat → Int64} (hM : pu_M s R) (q : pu_Q (I0 80) A) (wf : pu_wf A) (hF : pu_FM I0 ro) {o e w N : Nat} (ho : o < 2 * A.1 0 0) (he : e < 2 * A.1 0 0) (hw : w < 4) (hN : N ≤ 20) (f : pu_Zf I0 I J0 J) (h82 : ∀ k, k < 64 → I 82 k = I0 80 (10 + k)) (z0 : I 85 (2 * w) = nI 0) (z1 : I 85 (2 * w + 1) = nI 0) {x y : Int32} (hxy : x ||| y = pu_mk (fun l => (decide (2 ≤ w) && pu_at A l o) || (decide (w % 2 = 1) && pu_at A l e)) 8) :
    ∃ I' J', fj_m_fillsRest_j36 70 (nI o) (nI e) (nI N) (nI (2 * w)) y x (s, I, J, R) = some (s, I', J', R) ∧ pu_Zf I0 I' J0 J' ∧ (∀ k, k < 64 → I' 82 k = I0 80 (10 + k)) ∧ I' 85 (2 * w) = nI (pu_g0 ro A o e N w) ∧ I' 85 (2 * w + 1) = nI (pu_g1 ro A o e N w) ∧ (∀ k, k ≠ 2 * w → k ≠ 2 * w + 1 → I' 85 k = I 85 k) := by
  have h5 := wf.1
  have q1 : pu_Q (I 80) A := by rw [f.1 80 (by decide) (by omega)]; exact q
  obtain ⟨I1, a1, a2, a3⟩ := pu_m_downsAll (J := J) hM q1 wf (fun l => (decide (2 ≤ w) && pu_at A l o) || (decide (w % 2 = 1) && pu_at A l e))
  have a2 : pu_Q (I1 80) (pu_lg A o e w) := a2
  obtain ⟨I2, b1, b2, b3⟩ := pu_m_givesWay (J := J) hM a2 (pu_lg_wf wf o e w)
  have wfb : pu_wf (pu_rb A o e w) := pu_gw_wf 11 (pu_lg_wf wf o e w)
  have szb : (pu_rb A o e w).1 0 0 = A.1 0 0 := by
    show (pu_gw 11 (pu_lg A o e w)).1 0 0 = _
    rw [pu_gw_1]; rfl
  have f2 : pu_Tf I0 I2 J0 J := ((pu_Tf.zf f).tr (pu_Tf.mf a3)).tr (pu_Tf.mf b3)
  have e85 : I2 85 = I 85 := by rw [b3.1 85 (by decide), a3.1 85 (by decide)]
  have e82 : I2 82 = I 82 := by rw [b3.1 82 (by decide), a3.1 82 (by decide)]
  obtain ⟨I3, J3, c1, c2, c3, c4, c5, c6, c7⟩ := pu_m_rg (ro := ro) hM hw hN N 0 1048576 I2 J (pu_rb A o e w) 0 0 (by omega) (by omega) b2 wfb (pu_FM_tf f2 hF) (by rw [szb]; exact ho) (by rw [szb]; exact he) (by rw [e85]; exact z0) (by rw [e85]; exact z1)
  rw [show nI 0 = 0 from rfl] at c1
  have wf3 : pu_wf (pu_rg ro o e N (pu_rb A o e w) 0 0).2.2 := pu_rg_wf N wfb
  have g0 : (pu_rg ro o e N (pu_rb A o e w) 0 0).1 + pu_ct (fun l => pu_at (pu_rg ro o e N (pu_rb A o e w) 0 0).2.2 l o) 8 = pu_g0 ro A o e N w := rfl
  have g1 : (pu_rg ro o e N (pu_rb A o e w) 0 0).2.1 + pu_ct (fun l => pu_at (pu_rg ro o e N (pu_rb A o e w) 0 0).2.2 l e) 8 = pu_g1 ro A o e N w := rfl
  have q4 : pu_Q ((tb_up2 I3 85 (2 * w) (nI (pu_g0 ro A o e N w))) 80) (pu_rg ro o e N (pu_rb A o e w) 0 0).2.2 := by rw [pu_u2p _ _ _ _ (by decide)]; exact c2
  have x1 : tb_up2 I3 85 (2 * w) (nI (pu_g0 ro A o e N w)) 85 (2 * w + 1) = nI (pu_rg ro o e N (pu_rb A o e w) 0 0).2.1 := by rw [pu_u2k _ _ _ _ (by omega)]; exact c4
  have f4 : pu_Tf I0 (tb_up2 (tb_up2 I3 85 (2 * w) (nI (pu_g0 ro A o e N w))) 85 (2 * w + 1) (nI (pu_g1 ro A o e N w))) J0 J3 := (f2.tr c7).tr (pu_Tf.s5.tr pu_Tf.s5)
  have h824 : ∀ k, k < 64 → tb_up2 (tb_up2 I3 85 (2 * w) (nI (pu_g0 ro A o e N w))) 85 (2 * w + 1) (nI (pu_g1 ro A o e N w)) 82 k = I0 80 (10 + k) := fun k hk => by rw [pu_u2p _ _ _ _ (by decide), pu_u2p _ _ _ _ (by decide), c6, e82]; exact h82 k hk
  obtain ⟨I5, d1, d2, d3⟩ := pu_m_laysBack2 (J := J3) (I0 := I0) (J0 := J0) hM h824 f4
  refine ⟨I5, J3, ?_, d2, fun k hk => by rw [d3.1 82 (by decide)]; exact h824 k hk, ?_, ?_, ?_⟩
  · unfold fj_m_fillsRest_j36
    rw [hxy]
    simp only [pu_on (pu_m70 hM), a1, b1, c1, Option.bind_some, pu_gN (pu_m70 hM), pu_r28 hM, pu_lI (pu_m85 hM) (show 2 * w < 8 by omega) (show 8 ≤ 100000 by omega), c3, pu_m_linesAt hM c2 wf3 (show o < 2147483648 by omega), pu_m_bits8, nI_add, g0, pu_tI (pu_m85 hM) (show 2 * w < 8 by omega) (show 8 ≤ 100000 by omega), pu_R1, pu_lI (pu_m85 hM) (show 2 * w + 1 < 8 by omega) (show 8 ≤ 100000 by omega), x1, pu_m_linesAt hM q4 wf3 (show e < 2147483648 by omega), g1, pu_tI (pu_m85 hM) (show 2 * w + 1 < 8 by omega) (show 8 ≤ 100000 by omega), d1]
  · rw [d3.1 85 (by decide), pu_u2k _ _ _ _ (by omega), pu_u2s]
  · rw [d3.1 85 (by decide), pu_u2s]
  · intro k h1 h2
    rw [d3.1 85 (by decide), pu_u2k _ _ _ _ h2, pu_u2k _ _ _ _ h1, c5 k h1 h2, e85]
theorem pu_m_fillsRest {I0 : Nat → Nat → Int32} {J0 : Nat → Nat → Int64} (hM : pu_M s R) (q : pu_Q (I0 80) A) (wf : pu_wf A) (hF : pu_FM I0 ro) {o e w N : Nat} (ho : o < 2 * A.1 0 0) (he : e < 2 * A.1 0 0) (hw : w < 4) (hN : N ≤ 20) (f : pu_Zf I0 I J0 J) (h82 : ∀ k, k < 64 → I 82 k = I0 80 (10 + k)) :
    ∃ I' J', fb_m_fillsRest 70 (nI o) (nI e) (nI w) (nI N) (s, I, J, R) = some (s, I', J', R) ∧ pu_Zf I0 I' J0 J' ∧ (∀ k, k < 64 → I' 82 k = I0 80 (10 + k)) ∧ I' 85 (2 * w) = nI (pu_g0 ro A o e N w) ∧ I' 85 (2 * w + 1) = nI (pu_g1 ro A o e N w) ∧ (∀ k, k ≠ 2 * w → k ≠ 2 * w + 1 → I' 85 k = I 85 k) := by
  have h5 := wf.1
  have hd : ∀ z, z < 4 → ((nI z / 2 = 1) ↔ 2 ≤ z) ∧ ((nI z - nI z / 2 * 2 = 1) ↔ z % 2 = 1) := by decide +kernel
  have hdw := hd w hw
  have f1 : pu_Zf I0 (tb_up2 (tb_up2 I 85 (2 * w) 0) 85 (2 * w + 1) 0) J0 J := f.tr ⟨fun z h1 h2 => by rw [pu_u2p _ _ _ _ (by omega), pu_u2p _ _ _ _ (by omega)], fun k _ => by rw [pu_u2p _ _ _ _ (by decide), pu_u2p _ _ _ _ (by decide)], fun _ _ _ _ => rfl⟩
  have h821 : ∀ k, k < 64 → tb_up2 (tb_up2 I 85 (2 * w) 0) 85 (2 * w + 1) 0 82 k = I0 80 (10 + k) := fun k hk => by rw [pu_u2p _ _ _ _ (by decide), pu_u2p _ _ _ _ (by decide)]; exact h82 k hk
  have q1 : pu_Q ((tb_up2 (tb_up2 I 85 (2 * w) 0) 85 (2 * w + 1) 0) 80) A := by rw [f1.1 80 (by decide) (by omega)]; exact q
  have go : ∀ (x y : Int32), x ||| y = pu_mk (fun l => (decide (2 ≤ w) && pu_at A l o) || (decide (w % 2 = 1) && pu_at A l e)) 8 → ∃ I' J', fj_m_fillsRest_j36 70 (nI o) (nI e) (nI N) (nI (2 * w)) y x (s, tb_up2 (tb_up2 I 85 (2 * w) 0) 85 (2 * w + 1) 0, J, R) = some (s, I', J', R) ∧ pu_Zf I0 I' J0 J' ∧ (∀ k, k < 64 → I' 82 k = I0 80 (10 + k)) ∧ I' 85 (2 * w) = nI (pu_g0 ro A o e N w) ∧ I' 85 (2 * w + 1) = nI (pu_g1 ro A o e N w) ∧ (∀ k, k ≠ 2 * w → k ≠ 2 * w + 1 → I' 85 k = I 85 k) := by
    intro x y hxy
    obtain ⟨I', J', c1, c2, c3, c4, c5, c6⟩ := pu_m_fills_e (I := tb_up2 (tb_up2 I 85 (2 * w) 0) 85 (2 * w + 1) 0) (J := J) (ro := ro) (J0 := J0) hM q wf hF ho he hw hN f1 h821 (by rw [pu_u2k _ _ _ _ (by omega), pu_u2s]; rfl) (pu_u2s _ _ _ _) hxy
    exact ⟨I', J', c1, c2, c3, c4, c5, fun k h1 h2 => by rw [c6 k h1 h2, pu_u2k _ _ _ _ h2, pu_u2k _ _ _ _ h1]⟩
  have l1 := pu_m_linesAt (J := J) hM q1 wf (show o < 2147483648 by omega)
  have l2 := pu_m_linesAt (J := J) hM q1 wf (show e < 2147483648 by omega)
  have zer : (0 : Int32) = pu_mk (fun _ => false) 8 := by
    have : pu_mk (fun _ => false) 8 = 0 := by rw [pu_mk0 (by omega)]; intro _ _; rfl
    exact this.symm
  unfold fb_m_fillsRest
  simp only [pu_gN (pu_m70 hM), pu_r28 hM, Option.bind_some, pu_M2, pu_tI (pu_m85 hM) (show 2 * w < 8 by omega) (show 8 ≤ 100000 by omega), pu_R1, pu_tI (pu_m85 hM) (show 2 * w + 1 < 8 by omega) (show 8 ≤ 100000 by omega), hdw.1, pu_on (pu_m70 hM), l1, fj_m_fillsRest_j26, hdw.2, l2]
  by_cases h2 : 2 ≤ w
  · by_cases h1 : w % 2 = 1
    · simp only [h1, h2, ↓reduceIte]
      refine go _ _ ?_
      rw [pu_mk_or _ _ (by omega)]
      exact pu_mk_cong 8 (fun l _ => by simp [h1, h2])
    · simp only [h1, h2, ↓reduceIte]
      refine go _ _ ?_
      rw [Int32.or_zero]
      exact pu_mk_cong 8 (fun l _ => by simp [h1, h2])
  · by_cases h1 : w % 2 = 1
    · simp only [h1, h2, ↓reduceIte]
      refine go _ _ ?_
      rw [Int32.or_comm, Int32.or_zero]
      exact pu_mk_cong 8 (fun l _ => by simp [h1, h2])
    · simp only [h1, h2, ↓reduceIte]
      refine go _ _ ?_
      rw [Int32.or_zero, zer]
      exact pu_mk_cong 8 (fun l _ => by simp [h1, h2])
theorem pu_m_gains {I0 : Nat → Nat → Int32} {J0 : Nat → Nat → Int64} (hM : pu_M s R) (q : pu_Q (I0 80) A) (wf : pu_wf A) (hF : pu_FM I0 ro) {o e N : Nat} {y : Int32} (ho : o < 2 * A.1 0 0) (he : e < 2 * A.1 0 0) (hN : N ≤ 20) : ∀ d w n I J, w + d = 4 → d < n → pu_Zf I0 I J0 J → (∀ k, k < 64 → I 82 k = I0 80 (10 + k)) → (∀ z, z < w → I 85 (2 * z) = nI (pu_g0 ro A o e N z) ∧ I 85 (2 * z + 1) = nI (pu_g1 ro A o e N z)) →
    ∃ I' J', fl_m_rests_29 n 70 (nI o) (nI e) (nI N) y (nI w) (s, I, J, R) = some (70, y, (s, I', J', R)) ∧ pu_Zf I0 I' J0 J' ∧ (∀ z, z < 4 → I' 85 (2 * z) = nI (pu_g0 ro A o e N z) ∧ I' 85 (2 * z + 1) = nI (pu_g1 ro A o e N z)) := by
  intro d
  induction d with
  | zero =>
    intro w n I J hi hn f h82 hz
    obtain ⟨n, rfl⟩ : ∃ z, n = z + 1 := ⟨n - 1, by omega⟩
    have hc : ¬ nI w < (4 : Int32) := by rw [show (4 : Int32) = nI 4 from rfl, pu_ltI (by omega) (by omega)]; omega
    unfold fl_m_rests_29
    simp only [hc, ↓reduceIte]
    rw [show w = 4 by omega] at hz
    exact ⟨I, J, rfl, f, hz⟩
  | succ d ih =>
    intro w n I J hi hn f h82 hz
    obtain ⟨n, rfl⟩ : ∃ z, n = z + 1 := ⟨n - 1, by omega⟩
    have hc : nI w < (4 : Int32) := by rw [show (4 : Int32) = nI 4 from rfl, pu_ltI (by omega) (by omega)]; omega
    obtain ⟨I1, J1, a1, a2, a3, a4, a5, a6⟩ := pu_m_fillsRest (J := J) (J0 := J0) hM q wf hF ho he (show w < 4 by omega) hN f h82
    rw [fl_m_rests_29.eq_2]
    simp only [hc, ↓reduceIte, pu_on (pu_m70 hM), a1, Option.bind_some]
    rw [← nI_succ]
    refine ih (w + 1) n I1 J1 (by omega) (by omega) a2 a3 ?_
    intro z hz1
    by_cases ez : z = w
    · subst ez; exact ⟨a4, a5⟩
    · rw [a6 _ (by omega) (by omega), a6 _ (by omega) (by omega)]
      exact hz z (by omega)
end PUr
