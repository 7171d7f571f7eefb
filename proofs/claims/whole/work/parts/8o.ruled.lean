/-! ===== ruled and look: by which rules ===== -/
def pu_fi (nn : Nat) (z : Nat → Nat × Nat × Nat) (ros : Nat → Option pu_Ru) (T : pu_A) (r : Nat) : Bool := pu_sr nn z (ros r) 61 0 T
/-- by how many of the first k rules that fit a house stands behind t years -/
def pu_si (nn : Nat) (z : Nat → Nat × Nat × Nat) (ros : Nat → Option pu_Ru) (T : pu_A) (t h k : Nat) : Nat := pu_ct (fun r => pu_fi nn z ros T r && (pu_ys (ros r) t T).2 1 h) k
section PUO1
variable {s : List (Nat × Nat)} {R : Nat → Nat → Option Nat} {nn : Nat} {z : Nat → Nat × Nat × Nat} {ros : Nat → Option pu_Ru} {T : pu_A}
theorem pu_so_years_l (hX : pu_X s R) {c : Option Nat} {ro : Option pu_Ru} {t : Nat} (ht : t ≤ 61) (v1 v2 : Nat) (v3 v5 : Int32) : ∀ d i n I J B, i + d = t → d < n → pu_V I 62 B → pu_wf B → pu_FC s I c ro →
    ∃ I' J', fl_so_findRules_36 n 61 v1 v2 v3 (nI t - 1) v5 c (nI i) (s, I, J, R) = some (61, v1, v2, v3, nI t - 1, v5, (s, I', J', R)) ∧ pu_V I' 62 (pu_ys ro d B) ∧ pu_Yf 62 I I' J J' := by
  intro d
  induction d with
  | zero =>
    intro i n I J B hi hn v wf hF
    obtain ⟨n, rfl⟩ : ∃ z, n = z + 1 := ⟨n - 1, by omega⟩
    rw [fl_so_findRules_36.eq_2]
    simp only [pu_lepred (show i < 1000 by omega) (show t < 1000 by omega), show ¬ i < t by omega, ↓reduceIte]
    exact ⟨I, J, rfl, v, pu_Yf.rf⟩
  | succ d ih =>
    intro i n I J B hi hn v wf hF
    obtain ⟨n, rfl⟩ : ∃ z, n = z + 1 := ⟨n - 1, by omega⟩
    obtain ⟨I1, J1, a1, a2, a3⟩ := pu_jg_passYear (J := J) (pu_jg hX) (pu_st62 hX) (by omega) v wf hF
    rw [fl_so_findRules_36.eq_2]
    simp only [pu_lepred (show i < 1000 by omega) (show t < 1000 by omega), show i < t by omega, ↓reduceIte, pu_gN (pu_c61 hX), pu_f61_2 hX, pu_f61_3 hX, Option.bind_some, pu_on (pu_c40 hX), a1]
    rw [← nI_succ]
    obtain ⟨I', J', b1, b2, b3⟩ := ih (i + 1) n I1 J1 (pu_year ro B) (by omega) (by omega) a2 (pu_year_wf wf) (pu_FC_eq (fun q hq => a3.1 q (by omega) (by omega)) hF)
    exact ⟨I', J', b1, b2, a3.tr b3⟩
theorem pu_so_count_l (hX : pu_X s R) {B : pu_A} (wf : pu_wf B) {g : Nat → Nat} (hg : ∀ h, g h ≤ 100) : ∀ d i n (I : Nat → Nat → Int32) (J : Nat → Nat → Int64), i + d = 10 → d < n → pu_V I 62 B → (∀ h, h < 10 → I 69 h = nI (g h + (if h < i ∧ B.2 1 h = true then 1 else 0))) →
    ∃ I', fl_so_countStanding_2 n 61 (nI i) (s, I, J, R) = some (s, I', J, R) ∧ (∀ h, h < 10 → I' 69 h = nI (g h + (if B.2 1 h = true then 1 else 0))) ∧ (∀ q, q ≠ 69 → I' q = I q) := by
  intro d
  induction d with
  | zero =>
    intro i n I J hi hn v e
    obtain ⟨n, rfl⟩ : ∃ z, n = z + 1 := ⟨n - 1, by omega⟩
    rw [fl_so_countStanding_2.eq_2]
    simp only [pu_gN (pu_c61 hX), pu_f61_4 hX, Option.bind_some, pu_al (pu_c69 hX), pu_ltI (show i < 2147483648 by omega) (show 10 < 2147483648 by omega), show ¬ i < 10 by omega, ↓reduceIte]
    refine ⟨I, rfl, fun h hh => ?_, fun _ _ => rfl⟩
    rw [e h hh]
    simp only [show h < i by omega, true_and]
  | succ d ih =>
    intro i n I J hi hn v e
    obtain ⟨n, rfl⟩ : ∃ z, n = z + 1 := ⟨n - 1, by omega⟩
    have ei := e i (by omega)
    rw [if_neg (by omega), Nat.add_zero] at ei
    have hgi := hg i
    rw [fl_so_countStanding_2.eq_2]
    simp only [pu_gN (pu_c61 hX), pu_f61_4 hX, pu_f61_3 hX, Option.bind_some, pu_al (pu_c69 hX), pu_ltI (show i < 2147483648 by omega) (show 10 < 2147483648 by omega), show i < 10 by omega, ↓reduceIte, pu_on (pu_c62 hX), pu_s_stands (pu_st62 hX) v wf (show i < 2147483648 by omega), pu_b0, pu_lI (pu_c69 hX) (show i < 10 by omega) (show 10 ≤ 100000 by omega), ei, pu_R1, pu_tI (pu_c69 hX) (show i < 10 by omega) (show 10 ≤ 100000 by omega)]
    cases hs : B.2 1 i
    · simp only [↓reduceIte]
      refine ih (i + 1) n I J (by omega) (by omega) v (fun h hh => ?_)
      rw [e h hh]
      by_cases h1 : h = i
      · subst h1; simp [hs]
      · have : (h < i + 1) = (h < i) := propext (by omega)
        simp only [this]
    · simp only [Bool.true_eq_false, ↓reduceIte]
      obtain ⟨I', a1, a2, a3⟩ := ih (i + 1) n (tb_up2 I 69 i (nI (g i + 1))) J (by omega) (by omega) (pu_V_eq (fun k hk => pu_u2p _ _ _ _ (by omega)) v) (fun h hh => by
        rw [pu_u2i]
        by_cases h1 : h = i
        · subst h1; rw [if_pos rfl, if_pos ⟨by omega, hs⟩]
        · have : (h < i + 1) = (h < i) := propext (by omega)
          rw [if_neg h1, e h hh]
          simp only [this])
      exact ⟨I', a1, a2, fun q hq => by rw [a3 q hq, pu_u2p _ _ _ _ hq]⟩
theorem pu_si_le (t h k : Nat) : pu_si nn z ros T t h k ≤ k := pu_ct_le _ _
theorem pu_so_rules_l (hX : pu_X s R) (wfT : pu_wf T) (hz : pu_Nz nn z (2 * T.1 0 0)) {rc t : Nat} (hrc : rc ≤ 6) (ht : t ≤ 61) {I0 : Nat → Nat → Int32} (hco : ∀ r, r ≤ rc → ∃ c, (∀ I J, fb_x_codeOf 17 (nI r - 1) (s, I, J, R) = some (c, (s, I, J, R))) ∧ pu_FC s I0 c (ros r)) : ∀ d k n I J, k + d = rc + 1 → d < n → (∀ q, 92 ≤ q → I q = I0 q) → pu_V I 26 T → pu_Nc I nn z → I 61 0 = nI (pu_ct (pu_fi nn z ros T) k) → I 61 1 = pu_fst (pu_fi nn z ros T) (-1) k → (∀ h, h < 10 → I 69 h = nI (pu_si nn z ros T t h k)) →
    ∃ I' J', fl_so_findRules_8 n 61 18 17 (nI rc) (nI t - 1) (nI k - 1) (s, I, J, R) = some (s, I', J', R) ∧ I' 61 0 = nI (pu_ct (pu_fi nn z ros T) (rc + 1)) ∧ I' 61 1 = pu_fst (pu_fi nn z ros T) (-1) (rc + 1) ∧ (∀ h, h < 10 → I' 69 h = nI (pu_si nn z ros T t h (rc + 1))) ∧ pu_Cf I I' J J' := by
  have hk1 : ∀ k, k ≤ 7 → ((nI k - 1 < nI rc) = (k < rc + 1)) := by
    intro k hk
    cases k with
    | zero =>
      apply propext
      refine ⟨fun _ => by omega, fun _ => ?_⟩
      exact Int32.lt_of_lt_of_le (show nI 0 - 1 < 0 by decide) (nI_pos' (by omega))
    | succ k => rw [nI_pred, pu_ltI (by omega) (by omega)]; exact propext (by omega)
  have hn1 : ∀ k, nI k - 1 + 1 = nI (k + 1) - 1 := fun k => by rw [nI_pred, Int32.sub_add_cancel]
  intro d
  induction d with
  | zero =>
    intro k n I J hk hn hi v hc e0 e1 e2
    obtain ⟨n, rfl⟩ : ∃ z, n = z + 1 := ⟨n - 1, by omega⟩
    rw [fl_so_findRules_8.eq_2]
    simp only [hk1 k (by omega), show ¬ k < rc + 1 by omega, ↓reduceIte]
    rw [show k = rc + 1 by omega] at e0 e1 e2
    exact ⟨I, J, rfl, e0, e1, e2, pu_Cf.rf⟩
  | succ d ih =>
    intro k n I J hk hn hi v hc e0 e1 e2
    obtain ⟨n, rfl⟩ : ∃ z, n = z + 1 := ⟨n - 1, by omega⟩
    obtain ⟨c, g1, g2⟩ := hco k (by omega)
    have hct := pu_ct_le (pu_fi nn z ros T) k
    obtain ⟨I1, a1, a2, a3⟩ := pu_s_copyFrom (J := J) (pu_st62 hX) (pu_st26 hX) (by omega) v wfT
    have f1 : pu_Cf I I1 J J := pu_Cf.fr (by omega) (by omega) a3
    obtain ⟨I2, J2, b1, b2⟩ := pu_so_fits (J := J) (c := c) (ro := ros k) hX a2 wfT hz (pu_Nc_eq (fun q h1 h2 => f1.1 q (by omega) (by omega) (by omega)) hc) (pu_FC_eq (fun q hq => (f1.1 q (by omega) (by omega) (by omega)).trans (hi q hq)) g2)
    have f2 : pu_Cf I I2 J J2 := f1.tr (pu_Cf.yf (by omega) (by omega) b2)
    have e61 : I2 61 = I 61 := by rw [b2.1 61 (by omega) (by omega), a3 61 (by omega)]
    have e69 : I2 69 = I 69 := by rw [b2.1 69 (by omega) (by omega), a3 69 (by omega)]
    have v2 : pu_V I2 26 T := pu_V_eq (fun i hi => f2.1 _ (by omega) (by omega) (by omega)) v
    have hc2 : pu_Nc I2 nn z := pu_Nc_eq (fun q h1 h2 => f2.1 q (by omega) (by omega) (by omega)) hc
    have ects : pu_ct (pu_fi nn z ros T) (k + 1) = pu_ct (pu_fi nn z ros T) k + (if pu_fi nn z ros T k = true then 1 else 0) := rfl
    have efs := pu_fst_s (pu_fi nn z ros T) (-1) k
    have esi : ∀ h, pu_si nn z ros T t h (k + 1) = pu_si nn z ros T t h k + (if (pu_fi nn z ros T k && (pu_ys (ros k) t T).2 1 h) = true then 1 else 0) := fun _ => rfl
    rw [fl_so_findRules_8.eq_2]
    simp only [hk1 k (by omega), show k < rc + 1 by omega, ↓reduceIte, g1, pu_gN (pu_c61 hX), pu_f61_3 hX, pu_gN (pu_c18 hX), pu_f18_1 hX, pu_f18_2 hX, Option.bind_some, pu_on (pu_c62 hX), a1, pu_on (pu_c61 hX), b1, pu_b0]
    rw [show pu_sr nn z (ros k) 61 0 T = pu_fi nn z ros T k from rfl]
    cases hp : pu_fi nn z ros T k
    · rw [hp, if_neg (by decide), Nat.add_zero] at ects
      rw [hp, if_neg (by simp)] at efs
      rw [if_pos rfl, hn1]
      obtain ⟨I', J', c1, c2, c3, c4, c5⟩ := ih (k + 1) n I2 J2 (by omega) (by omega) (fun q hq => (f2.1 q (by omega) (by omega) (by omega)).trans (hi q hq)) v2 hc2 (by rw [e61, ects]; exact e0) (by rw [e61, efs]; exact e1) (fun h hh => by
        rw [e69, esi, hp, Bool.false_and, if_neg (by decide), Nat.add_zero]; exact e2 h hh)
      exact ⟨I', J', c1, c2, c3, c4, f2.tr c5⟩
    · rw [hp, if_pos rfl] at ects
      obtain ⟨I3, d1, d2, d3, d4⟩ := pu_so_take (I := I2) (J := J2) hX (m := pu_ct (pu_fi nn z ros T) k) (by omega) (by rw [e61]; exact e0) (nI k - 1)
      have v3 : pu_V I3 26 T := pu_V_eq (fun i hi => d4 _ (by omega)) v2
      have f3 : pu_Cf I I3 J J2 := f2.tr ⟨fun q h1 h2 h3 => d4 q (by omega), fun _ _ => rfl⟩
      obtain ⟨I4, h1, h2, h3⟩ := pu_s_copyFrom (J := J2) (pu_st62 hX) (pu_st26 hX) (by omega) v3 wfT
      have f4 : pu_Cf I I4 J J2 := f3.tr (pu_Cf.fr (by omega) (by omega) h3)
      obtain ⟨I5, J5, k1, k2, k3⟩ := pu_so_years_l (t := t) hX ht 18 17 (nI rc) (nI k - 1) t 0 1048576 I4 J2 T (by omega) (by omega) h2 wfT (pu_FC_eq (fun q hq => (f4.1 q (by omega) (by omega) (by omega)).trans (hi q hq)) g2)
      rw [show nI 0 = 0 from rfl] at k1
      have f5 : pu_Cf I I5 J J5 := f4.tr (pu_Cf.yf (by omega) (by omega) k3)
      have e69' : ∀ h, h < 10 → I5 69 h = nI (pu_si nn z ros T t h k) := fun h hh => by
        rw [k3.1 69 (by omega) (by omega), h3 69 (by omega), d4 69 (by omega), e69]; exact e2 h hh
      obtain ⟨I6, m1, m2, m3⟩ := pu_so_count_l hX (pu_ys_wf (ro := ros k) t wfT) (g := fun h => pu_si nn z ros T t h k) (fun h => by have := pu_si_le (nn := nn) (z := z) (ros := ros) (T := T) t h k; omega) 10 0 1048576 I5 J5 (by omega) (by omega) k2 (fun h hh => by rw [e69' h hh, if_neg (by omega), Nat.add_zero])
      rw [show nI 0 = 0 from rfl] at m1
      have f6 : pu_Cf I I6 J J5 := f5.tr ⟨fun q h1 h2 h3 => m3 q (by omega), fun _ _ => rfl⟩
      have e61' : I6 61 = I3 61 := by rw [m3 61 (by omega), k3.1 61 (by omega) (by omega), h3 61 (by omega)]
      rw [if_neg (by decide)]
      simp only [d1, Option.bind_some, pu_gN (pu_c61 hX), pu_f61_3 hX, pu_gN (pu_c18 hX), pu_f18_1 hX, pu_on (pu_c62 hX), h1, k1, pu_on (pu_c61 hX), fb_so_countStanding, m1]
      rw [hn1]
      obtain ⟨I', J', c1, c2, c3, c4, c5⟩ := ih (k + 1) n I6 J5 (by omega) (by omega) (fun q hq => (f6.1 q (by omega) (by omega) (by omega)).trans (hi q hq)) (pu_V_eq (fun i hi => f6.1 _ (by omega) (by omega) (by omega)) v) (pu_Nc_eq (fun q h1 h2 => f6.1 q (by omega) (by omega) (by omega)) hc) (by rw [e61', d2, ects]) (by
        rw [e61', d3, efs, e61, e1, hp]
        by_cases h0 : pu_ct (pu_fi nn z ros T) k = 0
        · rw [if_pos h0, if_pos ⟨h0, rfl⟩, Int32.sub_eq_add_neg]
        · rw [if_neg h0, if_neg (by simp [h0])]) (fun h hh => by
        rw [m2 h hh, esi, hp, Bool.true_and])
      exact ⟨I', J', c1, c2, c3, c4, f6.tr c5⟩
theorem pu_so_findRules {I : Nat → Nat → Int32} {J : Nat → Nat → Int64} (hX : pu_X s R) (v : pu_V I 26 T) (wfT : pu_wf T) (hz : pu_Nz nn z (2 * T.1 0 0)) (hc : pu_Nc I nn z) {rc t : Nat} (hrc : rc ≤ 6) (ht : t ≤ 61) (hco : ∀ r, r ≤ rc → ∃ c, (∀ I J, fb_x_codeOf 17 (nI r - 1) (s, I, J, R) = some (c, (s, I, J, R))) ∧ pu_FC s I c (ros r)) :
    ∃ I' J', fb_so_findRules 61 18 17 (nI rc) (nI t - 1) (s, I, J, R) = some (s, I', J', R) ∧ I' 61 0 = nI (pu_ct (pu_fi nn z ros T) (rc + 1)) ∧ I' 61 1 = pu_fst (pu_fi nn z ros T) (-1) (rc + 1) ∧ (∀ h, h < 10 → I' 69 h = nI (pu_si nn z ros T t h (rc + 1))) ∧ pu_Cf I I' J J' := by
  obtain ⟨I1, a1, a2, a3⟩ := pu_fill (J := J) (R := R) (I := tb_up2 (tb_up2 I 61 0 0) 61 1 (-2)) (pu_c69 hX) (by omega) 0
  have o : ∀ q, q ≠ 61 → q ≠ 69 → I1 q = I q := fun q h1 h2 => by rw [a3 q h2, pu_u2p _ _ _ _ h1, pu_u2p _ _ _ _ h1]
  have f1 : pu_Cf I I1 J J := ⟨fun q h1 h2 h3 => o q (by omega) (by omega), fun _ _ => rfl⟩
  obtain ⟨I', J', b1, b2, b3, b4, b5⟩ := pu_so_rules_l (ros := ros) (I0 := I) hX wfT hz hrc ht hco (rc + 1) 0 1048576 I1 J (by omega) (by omega) (fun q hq => o q (by omega) (by omega)) (pu_V_eq (fun i hi => o _ (by omega) (by omega)) v) (pu_Nc_eq (fun q h1 h2 => o q (by omega) (by omega)) hc) (by rw [a3 61 (by decide), pu_u2k _ _ _ _ (by decide), pu_u2s]; rfl) (by rw [a3 61 (by decide), pu_u2s]; rfl) (fun h hh => by rw [a2 h, if_pos hh]; rfl)
  rw [show nI 0 - 1 = -1 from rfl] at b1
  refine ⟨I', J', ?_, b2, b3, b4, f1.tr b5⟩
  unfold fb_so_findRules
  simp only [pu_on (pu_c61 hX), fb_so_forget, pu_pI (pu_c61 hX), Option.bind_some, pu_gN (pu_c61 hX), pu_f61_4 hX, a1, b1]
end PUO1
