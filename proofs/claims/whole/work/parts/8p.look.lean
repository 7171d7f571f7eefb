/-! ===== ruled and look: the reference, and both as steps ===== -/
theorem pu_stn_past {ro : Option pu_Ru} {th : Nat} (hth : th ≤ 60) : ∀ d y B old, th < y → y + d ≤ 61 → pu_stn ro (nI th) y B old d = old
  | 0, _, _, _, _, _ => rfl
  | d + 1, y, B, old, h, h2 => by
    show pu_stn ro (nI th) (y + 1) (pu_year ro B) (if nI y = nI th then _ else old) d = old
    rw [if_neg (by rw [pu_eqI (by omega) (by omega)]; omega)]
    exact pu_stn_past hth d (y + 1) _ _ (by omega) (by omega)
theorem pu_stn_at {ro : Option pu_Ru} {th : Nat} (hth : th ≤ 60) : ∀ d y B old, y ≤ th → y + d = 61 → pu_stn ro (nI th) y B old d = pu_mk ((pu_ys ro (th + 1 - y) B).2 1) 10
  | 0, y, B, old, h, h2 => by omega
  | d + 1, y, B, old, h, h2 => by
    show pu_stn ro (nI th) (y + 1) (pu_year ro B) (if nI y = nI th then pu_mk ((pu_year ro B).2 1) 10 else old) d = _
    by_cases e : y = th
    · rw [if_pos (by rw [e]), pu_stn_past hth d (y + 1) _ _ (by omega) (by omega), show th + 1 - y = 0 + 1 by omega]
      rfl
    · rw [if_neg (by rw [pu_eqI (by omega) (by omega)]; exact e), pu_stn_at hth d (y + 1) _ _ (by omega) (by omega), show th + 1 - y = (th + 1 - (y + 1)) + 1 by omega]
      rfl
def pu_Ag (I I' : Nat → Nat → Int32) (J J' : Nat → Nat → Int64) : Prop := (∀ q, q ≠ 70 → q ≠ 80 → q ≠ 86 → q ≠ 87 → I' q = I q) ∧ (∀ k, k ≠ 18 → k ≠ 21 → I' 70 k = I 70 k) ∧ (∀ k, k < 10 ∨ 74 ≤ k → I' 80 k = I 80 k) ∧ (∀ q, q ≠ 78 → q ≠ 79 → J' q = J q)
theorem pu_Ag.rf {I : Nat → Nat → Int32} {J : Nat → Nat → Int64} : pu_Ag I I J J := ⟨fun _ _ _ _ _ => rfl, fun _ _ _ => rfl, fun _ _ => rfl, fun _ _ _ => rfl⟩
theorem pu_Ag.tr {I I' I2 : Nat → Nat → Int32} {J J' J2 : Nat → Nat → Int64} (a : pu_Ag I I' J J') (b : pu_Ag I' I2 J' J2) : pu_Ag I I2 J J2 := ⟨fun q h1 h2 h3 h4 => (b.1 q h1 h2 h3 h4).trans (a.1 q h1 h2 h3 h4), fun k h h2 => (b.2.1 k h h2).trans (a.2.1 k h h2), fun k h => (b.2.2.1 k h).trans (a.2.2.1 k h), fun q h1 h2 => (b.2.2.2 q h1 h2).trans (a.2.2.2 q h1 h2)⟩
theorem pu_tB3b {s : List (Nat × Nat)} {I : Nat → Nat → Int32} {J : Nat → Nat → Int64} {R : Nat → Nat → Option Nat} {p n j : Nat} (h : s[p]? = some (3, n)) (hj : j < n) (hn : n ≤ 100000) (b : Bool) : tb_tB p (nI j) (pu_b b) (s, I, J, R) = some (s, tb_up2 I p j (pu_b b), J, R) := by
  have e : pu_b b &&& 1 = pu_b b := by cases b <;> rfl
  unfold tb_tB
  simp only [h, pu_in hj hn, nI_clamp (show j < 2 ^ 31 by omega), e]
  rfl
section PUP1
variable {s : List (Nat × Nat)} {R : Nat → Nat → Option Nat} {nn : Nat} {z : Nat → Nat × Nat × Nat} {ros : Nat → Option pu_Ru} {T : pu_A}
theorem pu_m_fits_l {I0 : Nat → Nat → Int32} {J0 : Nat → Nat → Int64} (hM : pu_M s R) (wfT : pu_wf T) (hz : pu_Nz nn z (2 * T.1 0 0)) (tm : pu_TM (I0 80) T) (hc : pu_Nm (I0 80) nn z) {rc th : Nat} (hrc : rc ≤ 6) (e2 : I0 70 2 = nI rc) (hth : th ≤ 60) (v2 : Int32) (hfm : ∀ r, r ≤ rc → ∀ I' : Nat → Nat → Int32, I' 70 21 = nI r - 1 → I' 72 = I0 72 → I' 74 = I0 74 → I' 75 = I0 75 → pu_FM I' (ros r)) : ∀ d k n I J, k + d = rc + 1 → d < n → pu_Ag I0 I J0 J → (∀ r, r < k → I 86 r = pu_b (pu_fi nn z ros T r) ∧ I 87 r = pu_mk ((pu_ys (ros r) (th + 1) T).2 1) 10) →
    ∃ I' J', fl_m_fillsFits_7 n 70 (nI th) v2 (nI k) (s, I, J, R) = some (70, v2, (s, I', J', R)) ∧ (∀ r, r < rc + 1 → I' 86 r = pu_b (pu_fi nn z ros T r) ∧ I' 87 r = pu_mk ((pu_ys (ros r) (th + 1) T).2 1) 10) ∧ pu_Ag I0 I' J0 J' := by
  intro d
  induction d with
  | zero =>
    intro k n I J hk hn a hr
    obtain ⟨n, rfl⟩ : ∃ z, n = z + 1 := ⟨n - 1, by omega⟩
    rw [fl_m_fillsFits_7.eq_2]
    simp only [pu_gI (pu_m70 hM), a.2.1 2 (by decide) (by decide), e2, Option.bind_some, pu_leI (show k < 2147483648 by omega) (show rc < 2147483648 by omega), show ¬ k ≤ rc by omega, ↓reduceIte]
    exact ⟨I, J, rfl, fun r hr2 => hr r (by omega), a⟩
  | succ d ih =>
    intro k n I J hk hn a hr
    obtain ⟨n, rfl⟩ : ∃ z, n = z + 1 := ⟨n - 1, by omega⟩
    have a1 : pu_Ag I (tb_up2 I 70 21 (nI k - 1)) J J := ⟨fun q h1 _ _ _ => pu_u2p _ _ _ _ h1, fun k _ h2 => pu_u2k _ _ _ _ h2, fun k _ => by rw [pu_u2p _ _ _ _ (by decide)], fun _ _ _ => rfl⟩
    have b := a.tr a1
    obtain ⟨I1, c1, c2, c3⟩ := pu_m_begins (I := tb_up2 I 70 21 (nI k - 1)) (J := J) hM (pu_TM_eq wfT (fun q hq => b.2.2.1 q (by omega)) tm) wfT
    have a2 : pu_Ag (tb_up2 I 70 21 (nI k - 1)) I1 J J := ⟨fun q _ h2 _ _ => c3.1 q h2, fun k _ _ => by rw [c3.1 70 (by decide)], c3.2, fun _ _ _ => rfl⟩
    have c := b.tr a2
    have e21 : I1 70 21 = nI k - 1 := by rw [c3.1 70 (by decide), pu_u2s]
    have hF := hfm k (by omega) I1 e21 (c.1 72 (by decide) (by decide) (by decide) (by decide)) (c.1 74 (by decide) (by decide) (by decide) (by decide)) (c.1 75 (by decide) (by decide) (by decide) (by decide))
    obtain ⟨I2, J2, d1, d2, d3⟩ := pu_m_areAllSo (nn := nn) (z := z) (ro := ros k) (J := J) hM (r := k) (by omega) (nI th) c2 wfT hz (pu_Nm_eq hz.1 (fun q hq => c.2.2.1 q (by omega)) hc) hF
    rw [pu_stn_at hth 61 0 T _ (by omega) (by omega), Nat.sub_zero] at d2
    have a3 : pu_Ag I1 I2 J J2 := ⟨fun q h1 h2 _ h4 => d3.1 q h1 h2 h4, fun k h1 _ => d3.2.1 k h1, d3.2.2.1, d3.2.2.2.1⟩
    have a4 : pu_Ag I2 (tb_up2 I2 86 k (pu_b (pu_fi nn z ros T k))) J2 J2 := ⟨fun q _ _ h3 _ => pu_u2p _ _ _ _ h3, fun k _ _ => by rw [pu_u2p _ _ _ _ (by decide)], fun k _ => by rw [pu_u2p _ _ _ _ (by decide)], fun _ _ _ => rfl⟩
    have e := (c.tr a3).tr a4
    rw [fl_m_fillsFits_7.eq_2]
    simp only [pu_gI (pu_m70 hM), a.2.1 2 (by decide) (by decide), e2, Option.bind_some, pu_leI (show k < 2147483648 by omega) (show rc < 2147483648 by omega), show k ≤ rc by omega, ↓reduceIte, pu_pI (pu_m70 hM), pu_on (pu_m70 hM), c1, pu_gN (pu_m70 hM), pu_r29 hM, d1, show pu_sr nn z (ros k) 61 0 T = pu_fi nn z ros T k from rfl, pu_tB3b (pu_m86 hM) (show k < 7 by omega) (show 7 ≤ 100000 by omega)]
    rw [← nI_succ]
    obtain ⟨I', J', g1, g2, g3⟩ := ih (k + 1) n (tb_up2 I2 86 k (pu_b (pu_fi nn z ros T k))) J2 (by omega) (by omega) e (fun r hr2 => by
      rw [pu_u2i, pu_u2p _ _ _ _ (show (87 : Nat) ≠ 86 by decide)]
      by_cases h : r = k
      · subst h; rw [if_pos rfl]; exact ⟨rfl, d2⟩
      · rw [if_neg h, d3.1 86 (by decide) (by decide) (by decide), d3.2.2.2.2 r h, c3.1 86 (by decide), c3.1 87 (by decide), pu_u2p _ _ _ _ (by decide), pu_u2p _ _ _ _ (by decide)]
        exact hr r (by omega))
    exact ⟨I', J', g1, g2, g3⟩
theorem pu_m_fillsFits {I : Nat → Nat → Int32} {J : Nat → Nat → Int64} (hM : pu_M s R) (wfT : pu_wf T) (hz : pu_Nz nn z (2 * T.1 0 0)) (tm : pu_TM (I 80) T) (hc : pu_Nm (I 80) nn z) {rc th : Nat} (hrc : rc ≤ 6) (e2 : I 70 2 = nI rc) (hth : th ≤ 60) (hfm : ∀ r, r ≤ rc → ∀ I' : Nat → Nat → Int32, I' 70 21 = nI r - 1 → I' 72 = I 72 → I' 74 = I 74 → I' 75 = I 75 → pu_FM I' (ros r)) :
    ∃ I' J', fb_m_fillsFits 70 (nI th) (s, I, J, R) = some (s, I', J', R) ∧ (∀ r, r < rc + 1 → I' 86 r = pu_b (pu_fi nn z ros T r) ∧ I' 87 r = pu_mk ((pu_ys (ros r) (th + 1) T).2 1) 10) ∧ pu_Zf I I' J J' := by
  obtain ⟨I1, a1, a2, a3⟩ := pu_m_keeps (I := I) (J := J) hM
  obtain ⟨I2, J2, b1, b2, b3⟩ := pu_m_fits_l (ros := ros) (I0 := I1) (J0 := J) hM wfT hz (by rw [a3 80 (by decide)]; exact tm) (by rw [a3 80 (by decide)]; exact hc) hrc (by rw [a3 70 (by decide)]; exact e2) hth (I 70 21) (fun r hr I' h1 h2 h3 h4 => hfm r hr I' h1 (by rw [h2, a3 72 (by decide)]) (by rw [h3, a3 74 (by decide)]) (by rw [h4, a3 75 (by decide)])) (rc + 1) 0 1048576 I1 J (by omega) (by omega) pu_Ag.rf (fun r hr => absurd hr (Nat.not_lt_zero _))
  rw [show nI 0 = 0 from rfl] at b1
  have f : pu_Tf I (tb_up2 I2 70 21 (I 70 21)) J J2 := by
    refine ⟨fun q h1 h2 h3 => ?_, fun k hk => ?_, fun k hk => ?_, fun q _ h2 h3 => b3.2.2.2 q h2 h3⟩
    · rw [pu_u2p _ _ _ _ h1, b3.1 q h1 h2 (by omega) (by omega), a3 q (by omega)]
    · rw [pu_u2i]
      by_cases h : k = 21
      · rw [if_pos h, h]
      · rw [if_neg h, b3.2.1 k hk h, a3 70 (by decide)]
    · rw [pu_u2p _ _ _ _ (by decide), b3.2.2.1 k hk, a3 80 (by decide)]
  obtain ⟨I3, c1, c2, c3⟩ := pu_m_laysBack2 (J := J2) (I := tb_up2 I2 70 21 (I 70 21)) hM (fun k hk => by rw [pu_u2p _ _ _ _ (by decide), b3.1 82 (by decide) (by decide) (by decide) (by decide), a2 k hk]) f
  refine ⟨I3, J2, ?_, fun r hr => ?_, c2⟩
  · unfold fb_m_fillsFits
    simp only [pu_gI (pu_m70 hM), Option.bind_some, pu_on (pu_m70 hM), a1, b1, pu_pI (pu_m70 hM), c1]
  · rw [c3.1 86 (by decide), c3.1 87 (by decide), pu_u2p _ _ _ _ (by decide), pu_u2p _ _ _ _ (by decide)]
    exact b2 r hr
def pu_a_ruled (nn : Nat) (z : Nat → Nat × Nat × Nat) (ros : Nat → Option pu_Ru) (T : pu_A) (rc : Nat) (a : Int32) : Int32 := if T.1 0 0 = 0 then -3 else if pu_wi a 0 1 = false then -3 else if a = 0 then nI (pu_ct (pu_fi nn z ros T) (rc + 1)) else pu_fst (pu_fi nn z ros T) (-1) (rc + 1)
theorem pu_m_ruled_l {I : Nat → Nat → Int32} {J : Nat → Nat → Int64} (hM : pu_M s R) {f : Nat → Bool} {M : Nat} (hM7 : M ≤ 7) (he : ∀ r, r < M → I 86 r = pu_b (f r)) (v1 : Int32) : ∀ k n, k ≤ M → k < n → fl_m_ruled_21 n 70 v1 (nI (pu_cr f (M - k) k)) (if pu_ff f (M - k) k < M then nI (pu_ff f (M - k) k) + (-1) else -2) (nI k - 1) (s, I, J, R) = some (v1, nI (pu_ct f M), pu_fst f (-1) M, (s, I, J, R)) := by
  intro k
  induction k with
  | zero =>
    intro n hk hn
    obtain ⟨n, rfl⟩ : ∃ z, n = z + 1 := ⟨n - 1, by omega⟩
    have e := pu_cr_ct f M 0
    rw [show pu_ct f 0 = 0 from rfl, Nat.add_zero, Nat.zero_add] at e
    rw [fl_m_ruled_21.eq_2, if_pos (by decide), Nat.sub_zero, e]
    rfl
  | succ k ih =>
    intro n hk hn
    obtain ⟨n, rfl⟩ : ∃ z, n = z + 1 := ⟨n - 1, by omega⟩
    have hs : pu_cr f (M - k) k = pu_cr f (M - (k + 1)) (k + 1) + (if f k = true then 1 else 0) := by rw [show M - k = (M - (k + 1)) + 1 by omega]; rfl
    have hf : pu_ff f (M - k) k = if f k then k else pu_ff f (M - (k + 1)) (k + 1) := by rw [show M - k = (M - (k + 1)) + 1 by omega]; rfl
    have g1 := ih n (by omega) (by omega)
    rw [hs, hf] at g1
    rw [fl_m_ruled_21.eq_2, nI_pred]
    simp only [pu_lt0 (show k < 2147483648 by omega), ↓reduceIte, pu_gN (pu_m70 hM), pu_r29 hM, Option.bind_some, pu_lB3 (pu_m86 hM) (show k < 7 by omega) (show 7 ≤ 100000 by omega), he k (by omega), pu_b0]
    rw [show nI k + (-1) = nI k - 1 by rw [Int32.sub_eq_add_neg]]
    cases hp : f k
    · simp only [hp, Bool.false_eq_true, ↓reduceIte, Nat.add_zero] at g1
      simp only [↓reduceIte]
      exact g1
    · simp only [hp, ↓reduceIte, show k < M by omega] at g1
      simp only [Bool.true_eq_false, ↓reduceIte, pu_R1]
      rw [show nI k + (-1) = nI k - 1 by rw [Int32.sub_eq_add_neg]] at g1
      exact g1
theorem pu_m_ruled {I : Nat → Nat → Int32} {J : Nat → Nat → Int64} {A : pu_A} (hM : pu_M s R) (q : pu_Q (I 80) A) (hA : A.1 0 0 = T.1 0 0) (wfT : pu_wf T) (hz : pu_Nz nn z (2 * T.1 0 0)) (tm : pu_TM (I 80) T) (hc : pu_Nm (I 80) nn z) {rc : Nat} (hrc : rc ≤ 6) (e2 : I 70 2 = nI rc) (hfm : ∀ r, r ≤ rc → ∀ I' : Nat → Nat → Int32, I' 70 21 = nI r - 1 → I' 72 = I 72 → I' 74 = I 74 → I' 75 = I 75 → pu_FM I' (ros r)) (a : Int32) : ∃ I' J', fb_m_ruled 70 a (s, I, J, R) = some (pu_a_ruled nn z ros T rc a, (s, I', J', R)) ∧ pu_Zf I I' J J' := by
  unfold fb_m_ruled pu_a_ruled
  simp only [pu_on (pu_m70 hM), pu_m_isStreet hM q, hA, Option.bind_some, pu_b0, decide_eq_false_iff_not]
  by_cases h0 : T.1 0 0 = 0
  · simp only [h0, Nat.lt_irrefl, not_false_eq_true, ↓reduceIte]
    exact ⟨I, J, rfl, pu_Zf.rf⟩
  · simp only [show 0 < T.1 0 0 by omega, not_true, ↓reduceIte, h0, pu_m_in a 0 1 (show (0 : Int64) = (0 : Int32).toInt64 from rfl) (show (1 : Int64) = (1 : Int32).toInt64 from rfl), Option.bind_some, pu_b0]
    cases hw : pu_wi a 0 1
    · simp only [↓reduceIte]
      exact ⟨I, J, rfl, pu_Zf.rf⟩
    · obtain ⟨I1, J1, a1, a2, a3⟩ := pu_m_fillsFits (ros := ros) (J := J) (th := 0) hM wfT hz tm hc hrc e2 (by omega) hfm
      rw [show nI 0 = 0 from rfl] at a1
      have b := pu_m_ruled_l (I := I1) (J := J1) hM (f := pu_fi nn z ros T) (M := rc + 1) (by omega) (fun r hr => (a2 r hr).1) a (rc + 1) 1048576 (Nat.le_refl _) (by omega)
      rw [Nat.sub_self, show nI (pu_cr (pu_fi nn z ros T) 0 (rc + 1)) = 0 from rfl, show pu_ff (pu_fi nn z ros T) 0 (rc + 1) = rc + 1 from rfl, if_neg (by omega), nI_pred] at b
      refine ⟨I1, J1, ?_, a3⟩
      simp only [Bool.true_eq_false, ↓reduceIte, pu_on (pu_m70 hM), a1, Option.bind_some, pu_gI (pu_m70 hM), a3.2.1 2 (by decide), e2, b, pu_its]
theorem pu_x_ruled {I : Nat → Nat → Int32} {J : Nat → Nat → Int64} {A : pu_A} (hX : pu_X s R) (v : pu_V I 19 A) (wf : pu_wf A) (hA : A.1 0 0 = T.1 0 0) (vt : pu_V I 26 T) (wfT : pu_wf T) (hz : pu_Nz nn z (2 * T.1 0 0)) (hc : pu_Nc I nn z) {rc : Nat} (hrc : rc ≤ 6) (e2 : I 1 4 = nI rc) (hco : ∀ r, r ≤ rc → ∃ c, (∀ I J, fb_x_codeOf 17 (nI r - 1) (s, I, J, R) = some (c, (s, I, J, R))) ∧ pu_FC s I c (ros r)) (a : Int32) : ∃ I' J', fb_x_ruled 1 a (s, I, J, R) = some (pu_a_ruled nn z ros T rc a, (s, I', J', R)) ∧ pu_Cf I I' J J' := by
  unfold fb_x_ruled pu_a_ruled
  simp only [pu_gN (pu_c1 hX), pu_f1_5 hX, Option.bind_some, pu_on (pu_c18 hX), pu_sc_isEmpty hX v wf, hA, pu_b0, decide_eq_false_iff_not]
  by_cases h0 : T.1 0 0 = 0
  · simp only [h0, not_true, ↓reduceIte]
    exact ⟨I, J, rfl, pu_Cf.rf⟩
  · simp only [h0, not_false_eq_true, ↓reduceIte, pu_x_within, Option.bind_some, pu_b0]
    cases hw : pu_wi a 0 1
    · simp only [↓reduceIte]
      exact ⟨I, J, rfl, pu_Cf.rf⟩
    · obtain ⟨I1, J1, a1, a2, a3, _, a5⟩ := pu_so_findRules (ros := ros) (J := J) (t := 0) hX vt wfT hz hc hrc (by omega) hco
      rw [show nI 0 - 1 = -1 from rfl] at a1
      refine ⟨I1, J1, ?_, a5⟩
      simp only [Bool.true_eq_false, ↓reduceIte, pu_gN (pu_c1 hX), pu_f1_11 hX, pu_f1_5 hX, pu_f1_3 hX, pu_gI (pu_c1 hX), e2, Option.bind_some, pu_on (pu_c61 hX), a1, pu_gI (pu_c61 hX), a2, a3, pu_its]
end PUP1
