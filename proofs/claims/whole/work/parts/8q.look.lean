/-! ===== look; ruled and look as steps ===== -/
/-- how many say the same of a house, at most -/
def pu_ma (nn : Nat) (z : Nat → Nat × Nat × Nat) (ros : Nat → Option pu_Ru) (T : pu_A) (t M h : Nat) : Nat := max (pu_si nn z ros T t h M) (pu_ct (pu_fi nn z ros T) M - pu_si nn z ros T t h M)
def pu_am (m : Nat → Nat) : Nat → Nat → Nat → Nat
  | 0, _, b => b
  | d + 1, i, b => pu_am m d (i + 1) (if m i < m b then i else b)
theorem pu_am_lt (m : Nat → Nat) {H : Nat} : ∀ d i b, i + d ≤ H → b < H → pu_am m d i b < H
  | 0, _, _, _, h => h
  | d + 1, i, b, h, hb => by
    show pu_am m d (i + 1) (if m i < m b then i else b) < H
    refine pu_am_lt m d (i + 1) _ (by omega) ?_
    split <;> omega
theorem pu_ct_and (f g : Nat → Bool) : ∀ n, pu_ct (fun k => f k && g k) n + pu_ct (fun k => f k && !g k) n = pu_ct f n
  | 0 => rfl
  | n + 1 => by
    have h := pu_ct_and f g n
    show pu_ct (fun k => f k && g k) n + (if (f n && g n) = true then 1 else 0) + (pu_ct (fun k => f k && !g k) n + (if (f n && !g n) = true then 1 else 0)) = pu_ct f n + (if f n = true then 1 else 0)
    cases f n <;> cases g n <;> simp <;> omega
def pu_a_look (nn : Nat) (z : Nat → Nat × Nat × Nat) (ros : Nat → Option pu_Ru) (T : pu_A) (rc : Nat) (a b : Int32) : Int32 := if T.1 0 0 = 0 then -1 else if pu_wi a 0 60 = false then -1 else if pu_wi b 0 1 = false then -1 else if pu_ct (pu_fi nn z ros T) (rc + 1) = 0 then -2 else if b = 0 then nI (pu_am (pu_ma nn z ros T (a.toNatClampNeg + 1) (rc + 1)) (2 * T.1 0 0 - 1) 1 0) else nI (pu_ma nn z ros T (a.toNatClampNeg + 1) (rc + 1) (pu_am (pu_ma nn z ros T (a.toNatClampNeg + 1) (rc + 1)) (2 * T.1 0 0 - 1) 1 0))
section PUQ1
variable {s : List (Nat × Nat)} {R : Nat → Nat → Option Nat} {nn : Nat} {z : Nat → Nat × Nat × Nat} {ros : Nat → Option pu_Ru} {T : pu_A}
theorem pu_si_F (t h M : Nat) : pu_si nn z ros T t h M ≤ pu_ct (pu_fi nn z ros T) M := by
  have := pu_ct_and (pu_fi nn z ros T) (fun r => (pu_ys (ros r) t T).2 1 h) M
  unfold pu_si
  omega
theorem pu_so_mostAlike {I : Nat → Nat → Int32} {J : Nat → Nat → Int64} (hX : pu_X s R) {t M : Nat} (hM7 : M ≤ 7) (e0 : I 61 0 = nI (pu_ct (pu_fi nn z ros T) M)) (e1 : ∀ h, h < 10 → I 69 h = nI (pu_si nn z ros T t h M)) {h : Nat} (hh : h < 10) : fb_so_mostAlike 61 (nI h) (s, I, J, R) = some (nI (pu_ma nn z ros T t M h), (s, I, J, R)) := by
  have h1 := pu_si_F (nn := nn) (z := z) (ros := ros) (T := T) t h M
  have h2 := pu_ct_le (pu_fi nn z ros T) M
  unfold fb_so_mostAlike pu_ma
  simp only [pu_lt0 (show h < 2147483648 by omega), ↓reduceIte, pu_gN (pu_c61 hX), pu_f61_4 hX, Option.bind_some, pu_al (pu_c69 hX), pu_ltI (show h < 2147483648 by omega) (show 10 < 2147483648 by omega), hh, pu_lI (pu_c69 hX) hh (show 10 ≤ 100000 by omega), e1 h hh, pu_gI (pu_c61 hX), e0, pu_sub h1, fb_ma_max, pu_ltI (show pu_si nn z ros T t h M < 2147483648 by omega) (show pu_ct (pu_fi nn z ros T) M - pu_si nn z ros T t h M < 2147483648 by omega)]
  by_cases hlt : pu_si nn z ros T t h M < pu_ct (pu_fi nn z ros T) M - pu_si nn z ros T t h M
  · rw [if_pos hlt, Nat.max_eq_right (by omega)]; rfl
  · rw [if_neg hlt, Nat.max_eq_left (by omega)]; rfl
theorem pu_so_best_l {I : Nat → Nat → Int32} {J : Nat → Nat → Int64} (hX : pu_X s R) {t M H : Nat} (hM7 : M ≤ 7) (hH : H ≤ 10) (e0 : I 61 0 = nI (pu_ct (pu_fi nn z ros T) M)) (e1 : ∀ h, h < 10 → I 69 h = nI (pu_si nn z ros T t h M)) : ∀ d i b n, i + d = H → b < H → d < n → fl_so_bestParting_4 n 61 (nI H) (nI b) (nI i) (s, I, J, R) = some (nI (pu_am (pu_ma nn z ros T t M) d i b), (s, I, J, R)) := by
  intro d
  induction d with
  | zero =>
    intro i b n hi hb hn
    obtain ⟨n, rfl⟩ : ∃ z, n = z + 1 := ⟨n - 1, by omega⟩
    rw [fl_so_bestParting_4.eq_2]
    simp only [pu_ltI (show i < 2147483648 by omega) (show H < 2147483648 by omega), show ¬ i < H by omega, ↓reduceIte]
    rfl
  | succ d ih =>
    intro i b n hi hb hn
    obtain ⟨n, rfl⟩ : ∃ z, n = z + 1 := ⟨n - 1, by omega⟩
    have l1 : ∀ h, pu_ma nn z ros T t M h ≤ 100 := fun h => by
      have h1 := pu_si_F (nn := nn) (z := z) (ros := ros) (T := T) t h M
      have h2 := pu_ct_le (pu_fi nn z ros T) M
      unfold pu_ma
      omega
    have li := l1 i
    have lb := l1 b
    rw [fl_so_bestParting_4.eq_2]
    simp only [pu_ltI (show i < 2147483648 by omega) (show H < 2147483648 by omega), show i < H by omega, ↓reduceIte, pu_on (pu_c61 hX), pu_so_mostAlike hX hM7 e0 e1 (show i < 10 by omega), pu_so_mostAlike hX hM7 e0 e1 (show b < 10 by omega), Option.bind_some, pu_ltI (show pu_ma nn z ros T t M i < 2147483648 by omega) (show pu_ma nn z ros T t M b < 2147483648 by omega)]
    rw [← nI_succ]
    show _ = some (nI (pu_am _ d (i + 1) (if pu_ma nn z ros T t M i < pu_ma nn z ros T t M b then i else b)), _)
    by_cases hlt : pu_ma nn z ros T t M i < pu_ma nn z ros T t M b
    · rw [if_pos hlt, if_pos hlt]
      exact ih (i + 1) i n (by omega) (by omega) (by omega)
    · rw [if_neg hlt, if_neg hlt]
      exact ih (i + 1) b n (by omega) hb (by omega)
theorem pu_x_look {I : Nat → Nat → Int32} {J : Nat → Nat → Int64} {A : pu_A} (hX : pu_X s R) (v : pu_V I 19 A) (wf : pu_wf A) (hA : A.1 0 0 = T.1 0 0) (vt : pu_V I 26 T) (wfT : pu_wf T) (hz : pu_Nz nn z (2 * T.1 0 0)) (hc : pu_Nc I nn z) {rc : Nat} (hrc : rc ≤ 6) (e2 : I 1 4 = nI rc) (hco : ∀ r, r ≤ rc → ∃ c, (∀ I J, fb_x_codeOf 17 (nI r - 1) (s, I, J, R) = some (c, (s, I, J, R))) ∧ pu_FC s I c (ros r)) (a b : Int32) : ∃ I' J', fb_x_look 1 a b (s, I, J, R) = some (pu_a_look nn z ros T rc a b, (s, I', J', R)) ∧ pu_Cf I I' J J' := by
  have h5 := wfT.1
  unfold fb_x_look pu_a_look
  simp only [pu_gN (pu_c1 hX), pu_f1_5 hX, Option.bind_some, pu_on (pu_c18 hX), pu_sc_isEmpty hX v wf, hA, pu_b0, decide_eq_false_iff_not]
  by_cases h0 : T.1 0 0 = 0
  · simp only [h0, not_true, ↓reduceIte]
    exact ⟨I, J, rfl, pu_Cf.rf⟩
  · simp only [h0, not_false_eq_true, ↓reduceIte, pu_x_within, Option.bind_some, pu_b0]
    cases hw : pu_wi a 0 60
    · simp only [↓reduceIte]
      exact ⟨I, J, rfl, pu_Cf.rf⟩
    · cases hw2 : pu_wi b 0 1
      · simp only [Bool.true_eq_false, ↓reduceIte]
        exact ⟨I, J, rfl, pu_Cf.rf⟩
      · obtain ⟨th, hth, rfl, _⟩ := pu_wi_n (h := 60) hw (by decide) rfl (by decide)
        obtain ⟨I1, J1, a1, a2, a3, a4, a5⟩ := pu_so_findRules (ros := ros) (J := J) (t := th + 1) hX vt wfT hz hc hrc (by omega) hco
        rw [nI_pred] at a1
        have vt1 : pu_V I1 26 T := pu_V_eq (fun i hi => a5.1 _ (by omega) (by omega) (by omega)) vt
        have hF := pu_ct_le (pu_fi nn z ros T) (rc + 1)
        have ef : (nI (pu_ct (pu_fi nn z ros T) (rc + 1)) = (0 : Int32)) = (pu_ct (pu_fi nn z ros T) (rc + 1) = 0) := pu_eqI (b := 0) (by omega) (by omega)
        have bp := pu_so_best_l (J := J1) (H := 2 * T.1 0 0) hX (show rc + 1 ≤ 7 by omega) (by omega) a2 a4 (2 * T.1 0 0 - 1) 1 0 1048576 (by omega) (by omega) (by omega)
        rw [show nI 1 = 1 from rfl, show nI 0 = 0 from rfl] at bp
        have hb := pu_am_lt (pu_ma nn z ros T (th + 1) (rc + 1)) (H := 2 * T.1 0 0) (2 * T.1 0 0 - 1) 1 0 (by omega) (by omega)
        refine ⟨I1, J1, ?_, a5⟩
        simp only [Bool.true_eq_false, ↓reduceIte, pu_gN (pu_c1 hX), pu_f1_11 hX, pu_f1_5 hX, pu_f1_3 hX, pu_gI (pu_c1 hX), e2, Option.bind_some, pu_on (pu_c61 hX), a1, pu_gI (pu_c61 hX), a2, ef, pu_gN (pu_c18 hX), pu_f18_1 hX, pu_on (pu_c26 hX), pu_s_houses (pu_st26 hX) vt1, fb_so_bestParting, bp, pu_so_mostAlike hX (show rc + 1 ≤ 7 by omega) a2 a4 (show pu_am (pu_ma nn z ros T (th + 1) (rc + 1)) (2 * T.1 0 0 - 1) 1 0 < 10 by omega), pu_cl (show th < 2147483648 by omega), pu_its]
theorem pu_m_alike_l {I : Nat → Nat → Int32} {J : Nat → Nat → Int64} (hM : pu_M s R) {t rc : Nat} (hrc : rc ≤ 6) (e2 : I 70 2 = nI rc) (he : ∀ r, r < rc + 1 → I 86 r = pu_b (pu_fi nn z ros T r) ∧ I 87 r = pu_mk ((pu_ys (ros r) t T).2 1) 10) {h : Nat} (hh : h < 10) : ∀ d k n, k + d = rc + 1 → d < n → fl_m_alikeAt_6 n 70 (nI h) (nI (pu_si nn z ros T t h k)) (nI (pu_ct (fun r => pu_fi nn z ros T r && !(pu_ys (ros r) t T).2 1 h) k)) (nI k) (s, I, J, R) = some (nI (pu_si nn z ros T t h (rc + 1)), nI (pu_ct (fun r => pu_fi nn z ros T r && !(pu_ys (ros r) t T).2 1 h) (rc + 1)), (s, I, J, R)) := by
  intro d
  induction d with
  | zero =>
    intro k n hk hn
    obtain ⟨n, rfl⟩ : ∃ z, n = z + 1 := ⟨n - 1, by omega⟩
    rw [fl_m_alikeAt_6.eq_2]
    simp only [pu_gI (pu_m70 hM), e2, Option.bind_some, pu_leI (show k < 2147483648 by omega) (show rc < 2147483648 by omega), show ¬ k ≤ rc by omega, ↓reduceIte]
    rw [show k = rc + 1 by omega]
  | succ d ih =>
    intro k n hk hn
    obtain ⟨n, rfl⟩ : ∃ z, n = z + 1 := ⟨n - 1, by omega⟩
    have g := ih (k + 1) n (by omega) (by omega)
    rw [nI_succ, show pu_si nn z ros T t h (k + 1) = pu_si nn z ros T t h k + (if (pu_fi nn z ros T k && (pu_ys (ros k) t T).2 1 h) = true then 1 else 0) from rfl, show pu_ct (fun r => pu_fi nn z ros T r && !(pu_ys (ros r) t T).2 1 h) (k + 1) = pu_ct (fun r => pu_fi nn z ros T r && !(pu_ys (ros r) t T).2 1 h) k + (if (pu_fi nn z ros T k && !(pu_ys (ros k) t T).2 1 h) = true then 1 else 0) from rfl] at g
    obtain ⟨x1, x2⟩ := he k (by omega)
    rw [fl_m_alikeAt_6.eq_2]
    simp only [pu_gI (pu_m70 hM), e2, Option.bind_some, pu_leI (show k < 2147483648 by omega) (show rc < 2147483648 by omega), show k ≤ rc by omega, ↓reduceIte, pu_gN (pu_m70 hM), pu_r29 hM, pu_r30 hM, pu_lB3 (pu_m86 hM) (show k < 7 by omega) (show 7 ≤ 100000 by omega), x1, pu_b0, pu_lI (pu_m87 hM) (show k < 7 by omega) (show 7 ≤ 100000 by omega), x2, fb_m_isOf, pu_bit10 _ hh]
    cases hf : pu_fi nn z ros T k
    · simp only [hf, Bool.false_and, Bool.false_eq_true, ↓reduceIte, Nat.add_zero] at g
      simp only [↓reduceIte]
      exact g
    · cases hs : (pu_ys (ros k) t T).2 1 h
      · simp only [hf, hs, Bool.true_and, Bool.false_eq_true, ↓reduceIte, Nat.add_zero, Bool.not_false] at g
        simp only [Bool.true_eq_false, Bool.false_eq_true, ↓reduceIte, Option.bind_some, pu_R1]
        rw [pu_R1] at g
        exact g
      · simp only [hf, hs, Bool.true_and, ↓reduceIte, Nat.add_zero, Bool.not_true, Bool.false_eq_true] at g
        simp only [Bool.true_eq_false, ↓reduceIte, Option.bind_some, pu_R1, show ¬ ((1 : Int32) = 0) by decide]
        rw [pu_R1] at g
        exact g
theorem pu_m_alikeAt {I : Nat → Nat → Int32} {J : Nat → Nat → Int64} (hM : pu_M s R) {t rc : Nat} (hrc : rc ≤ 6) (e2 : I 70 2 = nI rc) (he : ∀ r, r < rc + 1 → I 86 r = pu_b (pu_fi nn z ros T r) ∧ I 87 r = pu_mk ((pu_ys (ros r) t T).2 1) 10) {h : Nat} (hh : h < 10) : fb_m_alikeAt 70 (nI h) (s, I, J, R) = some (nI (pu_ma nn z ros T t (rc + 1) h), (s, I, J, R)) := by
  have g := pu_m_alike_l (J := J) hM hrc e2 he hh (rc + 1) 0 1048576 (by omega) (by omega)
  rw [show nI (pu_si nn z ros T t h 0) = 0 from rfl, show nI (pu_ct (fun r => pu_fi nn z ros T r && !(pu_ys (ros r) t T).2 1 h) 0) = 0 from rfl, show nI 0 = 0 from rfl] at g
  have h1 := pu_ct_and (pu_fi nn z ros T) (fun r => (pu_ys (ros r) t T).2 1 h) (rc + 1)
  have h2 := pu_ct_le (pu_fi nn z ros T) (rc + 1)
  have h3 : pu_ct (fun k => pu_fi nn z ros T k && (pu_ys (ros k) t T).2 1 h) (rc + 1) = pu_si nn z ros T t h (rc + 1) := rfl
  unfold fb_m_alikeAt pu_ma
  simp only [g, Option.bind_some, pu_ltI (show pu_ct (fun r => pu_fi nn z ros T r && !(pu_ys (ros r) t T).2 1 h) (rc + 1) < 2147483648 by omega) (show pu_si nn z ros T t h (rc + 1) < 2147483648 by omega), pu_its]
  congr 2
  by_cases hlt : pu_ct (fun r => pu_fi nn z ros T r && !(pu_ys (ros r) t T).2 1 h) (rc + 1) < pu_si nn z ros T t h (rc + 1)
  · rw [if_pos hlt, Nat.max_eq_left (by omega)]
  · rw [if_neg hlt, Nat.max_eq_right (by omega)]
    congr 1
    omega
/-- when some rule fits: from house i on, with the best so far -/
theorem pu_m_look_l {I : Nat → Nat → Int32} {J : Nat → Nat → Int64} {A : pu_A} (hM : pu_M s R) (q : pu_Q (I 80) A) (wf : pu_wf A) {t rc : Nat} (hrc : rc ≤ 6) (e2 : I 70 2 = nI rc) (he : ∀ r, r < rc + 1 → I 86 r = pu_b (pu_fi nn z ros T r) ∧ I 87 r = pu_mk ((pu_ys (ros r) t T).2 1) 10) (hF : pu_ct (pu_fi nn z ros T) (rc + 1) ≠ 0) (v2 : Int32) : ∀ d i b n, i + d = 2 * A.1 0 0 → b < 2 * A.1 0 0 → d < n → fl_m_look_26 n 70 v2 (nI b) (nI (pu_ma nn z ros T t (rc + 1) b)) (nI i) (s, I, J, R) = some (v2, nI (pu_am (pu_ma nn z ros T t (rc + 1)) d i b), nI (pu_ma nn z ros T t (rc + 1) (pu_am (pu_ma nn z ros T t (rc + 1)) d i b)), (s, I, J, R)) := by
  have h5 := wf.1
  have l1 : ∀ h, pu_ma nn z ros T t (rc + 1) h ≤ 100 := fun h => by
    have h1 := pu_si_F (nn := nn) (z := z) (ros := ros) (T := T) t h (rc + 1)
    have h2 := pu_ct_le (pu_fi nn z ros T) (rc + 1)
    unfold pu_ma
    omega
  intro d
  induction d with
  | zero =>
    intro i b n hi hb hn
    obtain ⟨n, rfl⟩ : ∃ z, n = z + 1 := ⟨n - 1, by omega⟩
    rw [fl_m_look_26.eq_2]
    simp only [pu_on (pu_m70 hM), pu_m_houses hM q, Option.bind_some, pu_ltI (show i < 2147483648 by omega) (show 2 * A.1 0 0 < 2147483648 by omega), show ¬ i < 2 * A.1 0 0 by omega, ↓reduceIte]
    rfl
  | succ d ih =>
    intro i b n hi hb hn
    obtain ⟨n, rfl⟩ : ∃ z, n = z + 1 := ⟨n - 1, by omega⟩
    have li := l1 i
    have lb := l1 b
    have hne : ¬ nI (pu_ma nn z ros T t (rc + 1) i) = 0 := by
      refine nI_ne0 ?_ (by omega)
      have h1 := pu_si_F (nn := nn) (z := z) (ros := ros) (T := T) t i (rc + 1)
      unfold pu_ma
      omega
    rw [fl_m_look_26.eq_2]
    simp only [pu_on (pu_m70 hM), pu_m_houses hM q, Option.bind_some, pu_ltI (show i < 2147483648 by omega) (show 2 * A.1 0 0 < 2147483648 by omega), show i < 2 * A.1 0 0 by omega, ↓reduceIte, pu_m_alikeAt hM hrc e2 he (show i < 10 by omega), hne, pu_lt0 (show b < 2147483648 by omega), pu_ltI (show pu_ma nn z ros T t (rc + 1) i < 2147483648 by omega) (show pu_ma nn z ros T t (rc + 1) b < 2147483648 by omega)]
    rw [← nI_succ]
    show _ = some (v2, nI (pu_am _ d (i + 1) (if pu_ma nn z ros T t (rc + 1) i < pu_ma nn z ros T t (rc + 1) b then i else b)), nI (pu_ma nn z ros T t (rc + 1) (pu_am _ d (i + 1) (if pu_ma nn z ros T t (rc + 1) i < pu_ma nn z ros T t (rc + 1) b then i else b))), _)
    by_cases hlt : pu_ma nn z ros T t (rc + 1) i < pu_ma nn z ros T t (rc + 1) b
    · rw [if_pos hlt, if_pos hlt]
      exact ih (i + 1) i n (by omega) (by omega) (by omega)
    · rw [if_neg hlt, if_neg hlt]
      exact ih (i + 1) b n (by omega) hb (by omega)
/-- when no rule fits -/
theorem pu_m_look_0 {I : Nat → Nat → Int32} {J : Nat → Nat → Int64} {A : pu_A} (hM : pu_M s R) (q : pu_Q (I 80) A) (wf : pu_wf A) {t rc : Nat} (hrc : rc ≤ 6) (e2 : I 70 2 = nI rc) (he : ∀ r, r < rc + 1 → I 86 r = pu_b (pu_fi nn z ros T r) ∧ I 87 r = pu_mk ((pu_ys (ros r) t T).2 1) 10) (hF : pu_ct (pu_fi nn z ros T) (rc + 1) = 0) (v2 : Int32) : ∀ d i n, i + d = 2 * A.1 0 0 → d < n → fl_m_look_26 n 70 v2 (-2) (-2) (nI i) (s, I, J, R) = some (v2, -2, -2, (s, I, J, R)) := by
  have h5 := wf.1
  intro d
  induction d with
  | zero =>
    intro i n hi hn
    obtain ⟨n, rfl⟩ : ∃ z, n = z + 1 := ⟨n - 1, by omega⟩
    rw [fl_m_look_26.eq_2]
    simp only [pu_on (pu_m70 hM), pu_m_houses hM q, Option.bind_some, pu_ltI (show i < 2147483648 by omega) (show 2 * A.1 0 0 < 2147483648 by omega), show ¬ i < 2 * A.1 0 0 by omega, ↓reduceIte]
  | succ d ih =>
    intro i n hi hn
    obtain ⟨n, rfl⟩ : ∃ z, n = z + 1 := ⟨n - 1, by omega⟩
    have hm : pu_ma nn z ros T t (rc + 1) i = 0 := by
      have h1 := pu_si_F (nn := nn) (z := z) (ros := ros) (T := T) t i (rc + 1)
      unfold pu_ma
      omega
    rw [fl_m_look_26.eq_2]
    simp only [pu_on (pu_m70 hM), pu_m_houses hM q, Option.bind_some, pu_ltI (show i < 2147483648 by omega) (show 2 * A.1 0 0 < 2147483648 by omega), show i < 2 * A.1 0 0 by omega, ↓reduceIte, pu_m_alikeAt hM hrc e2 he (show i < 10 by omega), hm, show nI 0 = 0 from rfl]
    rw [← nI_succ]
    exact ih (i + 1) n (by omega) (by omega)
theorem pu_m_look {I : Nat → Nat → Int32} {J : Nat → Nat → Int64} {A : pu_A} (hM : pu_M s R) (q : pu_Q (I 80) A) (wf : pu_wf A) (hA : A.1 0 0 = T.1 0 0) (wfT : pu_wf T) (hz : pu_Nz nn z (2 * T.1 0 0)) (tm : pu_TM (I 80) T) (hc : pu_Nm (I 80) nn z) {rc : Nat} (hrc : rc ≤ 6) (e2 : I 70 2 = nI rc) (hfm : ∀ r, r ≤ rc → ∀ I' : Nat → Nat → Int32, I' 70 21 = nI r - 1 → I' 72 = I 72 → I' 74 = I 74 → I' 75 = I 75 → pu_FM I' (ros r)) (a b : Int32) : ∃ I' J', fb_m_look 70 a b (s, I, J, R) = some (pu_a_look nn z ros T rc a b, (s, I', J', R)) ∧ pu_Zf I I' J J' := by
  have h5 := wf.1
  unfold fb_m_look pu_a_look
  simp only [pu_on (pu_m70 hM), pu_m_isStreet hM q, hA, Option.bind_some, pu_b0, decide_eq_false_iff_not]
  by_cases h0 : T.1 0 0 = 0
  · simp only [h0, Nat.lt_irrefl, not_false_eq_true, ↓reduceIte]
    exact ⟨I, J, rfl, pu_Zf.rf⟩
  · simp only [show 0 < T.1 0 0 by omega, not_true, ↓reduceIte, h0, pu_m_in a 0 60 (show (0 : Int64) = (0 : Int32).toInt64 from rfl) (show (60 : Int64) = (60 : Int32).toInt64 from rfl), pu_m_in b 0 1 (show (0 : Int64) = (0 : Int32).toInt64 from rfl) (show (1 : Int64) = (1 : Int32).toInt64 from rfl), Option.bind_some, pu_b0]
    cases hw : pu_wi a 0 60
    · simp only [↓reduceIte]
      exact ⟨I, J, rfl, pu_Zf.rf⟩
    · cases hw2 : pu_wi b 0 1
      · simp only [Bool.true_eq_false, ↓reduceIte]
        exact ⟨I, J, rfl, pu_Zf.rf⟩
      · obtain ⟨th, hth, rfl, _⟩ := pu_wi_n (h := 60) hw (by decide) rfl (by decide)
        obtain ⟨I1, J1, a1, a2, a3⟩ := pu_m_fillsFits (ros := ros) (J := J) (th := th) hM wfT hz tm hc hrc e2 hth hfm
        have q1 : pu_Q (I1 80) A := by rw [a3.1 80 (by decide) (by omega)]; exact q
        have e21 : I1 70 2 = nI rc := by rw [a3.2.1 2 (by decide)]; exact e2
        refine ⟨I1, J1, ?_, a3⟩
        by_cases hF : pu_ct (pu_fi nn z ros T) (rc + 1) = 0
        · have g := pu_m_look_0 (J := J1) hM q1 wf hrc e21 a2 hF b (2 * A.1 0 0) 0 1048576 (by omega) (by omega)
          rw [show nI 0 = 0 from rfl] at g
          simp only [Bool.true_eq_false, ↓reduceIte, pu_on (pu_m70 hM), a1, Option.bind_some, g, hF, ite_self]
        · have hne : ¬ nI (pu_ma nn z ros T (th + 1) (rc + 1) 0) = 0 := by
            have h1 := pu_si_F (nn := nn) (z := z) (ros := ros) (T := T) (th + 1) 0 (rc + 1)
            have h2 := pu_ct_le (pu_fi nn z ros T) (rc + 1)
            refine nI_ne0 ?_ ?_ <;> unfold pu_ma <;> omega
          have g := pu_m_look_l (J := J1) hM q1 wf hrc e21 a2 hF b (2 * A.1 0 0 - 1) 1 0 1048575 (by omega) (by omega) (by omega)
          have g0 : fl_m_look_26 1048576 70 b (-2) (-2) 0 (s, I1, J1, R) = fl_m_look_26 1048575 70 b (nI 0) (nI (pu_ma nn z ros T (th + 1) (rc + 1) 0)) (nI 1) (s, I1, J1, R) := by
            have al := pu_m_alikeAt (J := J1) hM hrc e21 a2 (show 0 < 10 by omega)
            rw [show nI 0 = 0 from rfl] at al
            rw [show (1048576 : Nat) = 1048575 + 1 from rfl, fl_m_look_26.eq_2]
            simp only [pu_on (pu_m70 hM), pu_m_houses hM q1, Option.bind_some, show (0 : Int32) < nI (2 * A.1 0 0) by rw [show (0 : Int32) = nI 0 from rfl, pu_ltI (by omega) (by omega)]; omega, ↓reduceIte, al, hne, show ((-2 : Int32) < 0) by decide]
            rfl
          simp only [Bool.true_eq_false, ↓reduceIte, pu_on (pu_m70 hM), a1, Option.bind_some, g0, g, hF, hA, pu_cl (show th < 2147483648 by omega), pu_its]
end PUQ1
section PUQ2
variable {s : List (Nat × Nat)} {I : Nat → Nat → Int32} {R : Nat → Nat → Option Nat} {own : Nat → Nat} {A T : pu_A} {nn : Nat} {L : List pu_A} {j tl : Nat} {rs : List pu_Ru}
/-- none, and all rules -/
def pu_ros (rs : List pu_Ru) (r : Nat) : Option pu_Ru := if r = 0 then none else rs[r - 1]?
theorem pu_In.hco (H : pu_In s I R own A T nn L j tl rs) : ∀ r, r ≤ rs.length → ∃ c, (∀ I J, fb_x_codeOf 17 (nI r - 1) (s, I, J, R) = some (c, (s, I, J, R))) ∧ pu_FC s I c (pu_ros rs r) := by
  obtain ⟨⟨r1, _, _⟩, h7⟩ := H.2.2.2.2.1
  intro r hr
  cases r with
  | zero => exact ⟨none, fun I J => pu_x_codeOf_1 _, trivial⟩
  | succ k =>
    obtain ⟨c0, a1, a2, a3, _⟩ := h7 k rs[k] (List.getElem?_eq_getElem (by omega))
    refine ⟨some c0, fun I J => by rw [nI_pred, pu_x_codeOf H.hX (by omega), a1], ?_⟩
    show pu_FC s I (some c0) (rs[k + 1 - 1]?)
    rw [Nat.add_sub_cancel, List.getElem?_eq_getElem (by omega)]
    exact a3
theorem pu_In.hfm (H : pu_In s I R own A T nn L j tl rs) : ∀ r, r ≤ rs.length → ∀ I' : Nat → Nat → Int32, I' 70 21 = nI r - 1 → I' 72 = I 72 → I' 74 = I 74 → I' 75 = I 75 → pu_FM I' (pu_ros rs r) := by
  obtain ⟨⟨r1, _, _⟩, h7⟩ := H.2.2.2.2.1
  intro r hr I' h1 h2 h3 h4
  cases r with
  | zero => exact h1
  | succ k =>
    obtain ⟨c0, a1, a2, a3, a4, a5, a6⟩ := h7 k rs[k] (List.getElem?_eq_getElem (by omega))
    rw [nI_pred] at h1
    show pu_FM I' (rs[k + 1 - 1]?)
    rw [Nat.add_sub_cancel, List.getElem?_eq_getElem (by omega)]
    exact ⟨k, by omega, h1, a4, by rw [h4]; exact a5, by rw [h2, h3]; exact a6, a3.2.2.2.2⟩
end PUQ2
theorem pu_k_ruled {N : Nat} {xs : Nat → Int32} (a : Int32) : pu_Step N xs (fb_x_ruled 1 a) (fb_m_ruled 70 a) := pu_ask (fun s I J R own A T nn L j tl rs H ro hx hm => by
  obtain ⟨z, hz, hc, hc2⟩ := pu_NT_z H.nt
  have e0 : A.1 0 0 = T.1 0 0 := H.2.1.1.2.2.1
  rw [e0] at hz
  obtain ⟨⟨r1, r2, r3⟩, _⟩ := H.2.2.2.2.1
  refine ⟨pu_a_ruled nn z (pu_ros rs) T rs.length a, pu_x_ruled H.hX H.v H.wf e0 H.vt H.2.1.1.2.1.1 hz hc r1 r2 H.hco a, fun I1 J1 e H1 hm1 => pu_m_ruled H1.hM H1.q e0 H1.2.1.1.2.1.1 hz H1.tm ?_ r1 ?_ H1.hfm a⟩
  · rw [e.1 80 (by decide) (by decide) (by omega)]; exact hc2
  · rw [e.2 2 (by decide)]; exact r3)
theorem pu_k_look {N : Nat} {xs : Nat → Int32} (a b : Int32) : pu_Step N xs (fb_x_look 1 a b) (fb_m_look 70 a b) := pu_ask (fun s I J R own A T nn L j tl rs H ro hx hm => by
  obtain ⟨z, hz, hc, hc2⟩ := pu_NT_z H.nt
  have e0 : A.1 0 0 = T.1 0 0 := H.2.1.1.2.2.1
  rw [e0] at hz
  obtain ⟨⟨r1, r2, r3⟩, _⟩ := H.2.2.2.2.1
  refine ⟨pu_a_look nn z (pu_ros rs) T rs.length a b, pu_x_look H.hX H.v H.wf e0 H.vt H.2.1.1.2.1.1 hz hc r1 r2 H.hco a b, fun I1 J1 e H1 hm1 => pu_m_look H1.hM H1.q H1.wf e0 H1.2.1.1.2.1.1 hz H1.tm ?_ r1 ?_ H1.hfm a b⟩
  · rw [e.1 80 (by decide) (by decide) (by omega)]; exact hc2
  · rw [e.2 2 (by decide)]; exact r3)
