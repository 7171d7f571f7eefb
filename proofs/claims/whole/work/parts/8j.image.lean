/-! ===== image and back ===== -/
theorem pu_lQ5 {s : List (Nat × Nat)} {I : Nat → Nat → Int32} {J : Nat → Nat → Int64} {R : Nat → Nat → Option Nat} {p n j : Nat} (h : s[p]? = some (5, n)) (hj : j < n) (hn : n ≤ 100000) : tb_lQ p (nI j) (s, I, J, R) = some (R p j) := by
  unfold tb_lQ
  simp only [h, pu_in hj hn, nI_clamp (show j < 2 ^ 31 by omega)]
  rfl
theorem pu_al5 {s : List (Nat × Nat)} {I : Nat → Nat → Int32} {J : Nat → Nat → Int64} {R : Nat → Nat → Option Nat} {p n : Nat} (h : s[p]? = some (5, n)) : tb_al p (s, I, J, R) = some (nI n) := by
  unfold tb_al
  simp only [h]
  rfl
theorem pu_tR5 {s : List (Nat × Nat)} {I : Nat → Nat → Int32} {J : Nat → Nat → Int64} {R : Nat → Nat → Option Nat} {p n j v m : Nat} (h : s[p]? = some (5, n)) (hj : j < n) (hn : n ≤ 100000) (hv : s[v]? = some (15, m)) : tb_tR tb_P.2.2.1 p (nI j) v (s, I, J, R) = some (s, I, J, tb_up2 R p j (some v)) := by
  have hk : tb_kd (s, I, J, R) v = some 15 := by show (s[v]?).map Prod.fst = some 15; rw [hv]; rfl
  have hc : tb_P.2.2.1 5 = 15 := by unfold tb_P; rfl
  unfold tb_tR
  simp only [h, hk, hc, pu_in hj hn, nI_clamp (show j < 2 ^ 31 by omega)]
  rfl
section PUJ1
variable {s : List (Nat × Nat)} {J : Nat → Nat → Int64} {R : Nat → Nat → Option Nat}
theorem pu_m_image_l (hM : pu_M s R) {k : Nat} (hk : k < 4) : ∀ d i n (I : Nat → Nat → Int32), i + d = 149 → d < n → ∃ I', fl_m_image_27 n 70 (nI k) (nI i) (s, I, J, R) = some (70, (s, I', J, R)) ∧ (∀ z, I' 88 z = if 149 * k + i ≤ z ∧ z < 149 * k + 149 then I 80 (z - 149 * k) else I 88 z) ∧ (∀ q, q ≠ 88 → I' q = I q) := by
  intro d
  induction d with
  | zero =>
    intro i n I hi hn
    obtain ⟨n, rfl⟩ : ∃ z, n = z + 1 := ⟨n - 1, by omega⟩
    rw [fl_m_image_27.eq_2]
    simp only [show (149 : Int32) = nI 149 from rfl, pu_ltI (show i < 2147483648 by omega) (show 149 < 2147483648 by omega), show ¬ i < 149 by omega, ↓reduceIte]
    exact ⟨I, rfl, fun z => by rw [if_neg (by omega)], fun _ _ => rfl⟩
  | succ d ih =>
    intro i n I hi hn
    obtain ⟨n, rfl⟩ : ∃ z, n = z + 1 := ⟨n - 1, by omega⟩
    have ei : (149 : Int32) * nI k + nI i = nI (149 * k + i) := by rw [pu_M149, nI_add]
    have hc : nI i < (149 : Int32) := by rw [show (149 : Int32) = nI 149 from rfl, pu_ltI (by omega) (by omega)]; omega
    rw [fl_m_image_27.eq_2]
    simp only [hc, ↓reduceIte, pu_gN (pu_m70 hM), pu_r32 hM, pu_r20 hM, Option.bind_some, pu_cell hM (show i < 149 by omega), ei, pu_tI (pu_m88 hM) (show 149 * k + i < 596 by omega) (show 596 ≤ 100000 by omega)]
    rw [← nI_succ]
    obtain ⟨I', a1, a2, a3⟩ := ih (i + 1) n (tb_up2 I 88 (149 * k + i) (I 80 i)) (by omega) (by omega)
    refine ⟨I', a1, fun z => ?_, fun q hq => by rw [a3 q hq, pu_u2p _ _ _ _ hq]⟩
    rw [a2 z, pu_u2p _ _ _ _ (show (80 : Nat) ≠ 88 by decide), pu_u2i]
    by_cases h1 : 149 * k + (i + 1) ≤ z ∧ z < 149 * k + 149
    · rw [if_pos h1, if_pos (by omega)]
    · rw [if_neg h1]
      by_cases h2 : z = 149 * k + i
      · rw [if_pos h2, if_pos (by omega), h2, Nat.add_sub_cancel_left]
      · rw [if_neg h2, if_neg (by omega)]
theorem pu_m_back_l (hM : pu_M s R) {k : Nat} (hk : k < 4) : ∀ d i n (I : Nat → Nat → Int32), i + d = 149 → d < n → ∃ I', fl_m_back_30 n 70 (nI k) (nI i) (s, I, J, R) = some (70, (s, I', J, R)) ∧ (∀ z, z < 149 → I' 80 z = if i ≤ z then I 88 (149 * k + z) else I 80 z) ∧ (∀ q, q ≠ 80 → I' q = I q) := by
  intro d
  induction d with
  | zero =>
    intro i n I hi hn
    obtain ⟨n, rfl⟩ : ∃ z, n = z + 1 := ⟨n - 1, by omega⟩
    rw [fl_m_back_30.eq_2]
    simp only [show (149 : Int32) = nI 149 from rfl, pu_ltI (show i < 2147483648 by omega) (show 149 < 2147483648 by omega), show ¬ i < 149 by omega, ↓reduceIte]
    exact ⟨I, rfl, fun z hz => by rw [if_neg (by omega)], fun _ _ => rfl⟩
  | succ d ih =>
    intro i n I hi hn
    obtain ⟨n, rfl⟩ : ∃ z, n = z + 1 := ⟨n - 1, by omega⟩
    have ei : (149 : Int32) * nI k + nI i = nI (149 * k + i) := by rw [pu_M149, nI_add]
    have hc : nI i < (149 : Int32) := by rw [show (149 : Int32) = nI 149 from rfl, pu_ltI (by omega) (by omega)]; omega
    rw [fl_m_back_30.eq_2]
    simp only [hc, ↓reduceIte, pu_gN (pu_m70 hM), pu_r32 hM, pu_r20 hM, Option.bind_some, ei, pu_lI (pu_m88 hM) (show 149 * k + i < 596 by omega) (show 596 ≤ 100000 by omega), pu_tI (pu_m80 hM) (show i < 149 by omega) (show 149 ≤ 100000 by omega)]
    rw [← nI_succ]
    obtain ⟨I', a1, a2, a3⟩ := ih (i + 1) n (tb_up2 I 80 i (I 88 (149 * k + i))) (by omega) (by omega)
    refine ⟨I', a1, fun z hz => ?_, fun q hq => by rw [a3 q hq, pu_u2p _ _ _ _ hq]⟩
    rw [a2 z hz, pu_u2p _ _ _ _ (show (88 : Nat) ≠ 80 by decide), pu_u2i]
    by_cases h1 : i + 1 ≤ z
    · rw [if_pos h1, if_pos (by omega)]
    · rw [if_neg h1]
      by_cases h2 : z = i
      · rw [if_pos h2, if_pos (by omega), h2]
      · rw [if_neg h2, if_neg (by omega)]
theorem pu_tB3 {I : Nat → Nat → Int32} {p n j : Nat} (h : s[p]? = some (3, n)) (hj : j < n) (hn : n ≤ 100000) : tb_tB p (nI j) 1 (s, I, J, R) = some (s, tb_up2 I p j 1, J, R) := by
  unfold tb_tB
  simp only [h, pu_in hj hn, nI_clamp (show j < 2 ^ 31 by omega)]
  rfl
theorem pu_lB3 {I : Nat → Nat → Int32} {p n j : Nat} (h : s[p]? = some (3, n)) (hj : j < n) (hn : n ≤ 100000) : tb_lI [0, 3] p (nI j) (s, I, J, R) = some (I p j) := by
  unfold tb_lI
  simp only [h, pu_in hj hn, nI_clamp (show j < 2 ^ 31 by omega)]
  rfl
theorem pu_m_image {I : Nat → Nat → Int32} (hM : pu_M s R) {k : Nat} (hk : k < 4) : ∃ I', fb_m_image 70 (nI k) (s, I, J, R) = some (I 80 10, (s, I', J, R)) ∧ (∀ z, I' 88 z = if 149 * k ≤ z ∧ z < 149 * k + 149 then I 80 (z - 149 * k) else I 88 z) ∧ (∀ z, I' 89 z = if z = k then I 70 21 else I 89 z) ∧ (∀ z, I' 90 z = if z = k then I 70 22 else I 90 z) ∧ (∀ z, I' 91 z = if z = k then 1 else I 91 z) ∧ (∀ q, (q < 88 ∨ 91 < q) → I' q = I q) := by
  have hw : pu_wi (nI k) 0 3 = true := by
    unfold pu_wi
    rw [decide_eq_false (pu_lt0 (by omega)), show (3 : Int32) = nI 3 from rfl, decide_eq_true (by rw [pu_leI (by omega) (by omega)]; omega)]; rfl
  obtain ⟨I', a1, a2, a3⟩ := pu_m_image_l (J := J) hM hk 149 0 1048576 (tb_up2 (tb_up2 (tb_up2 I 91 k 1) 89 k (I 70 21)) 90 k (I 70 22)) (by omega) (by omega)
  rw [show nI 0 = 0 from rfl] at a1
  have e80 : ∀ z, I' 80 z = I 80 z := fun z => by rw [a3 80 (by decide), pu_u2p _ _ _ _ (by decide), pu_u2p _ _ _ _ (by decide), pu_u2p _ _ _ _ (by decide)]
  have e21 : tb_up2 I 91 k 1 70 21 = I 70 21 := by rw [pu_u2p _ _ _ _ (by decide)]
  have e22 : tb_up2 (tb_up2 I 91 k 1) 89 k (I 70 21) 70 22 = I 70 22 := by rw [pu_u2p _ _ _ _ (by decide), pu_u2p _ _ _ _ (by decide)]
  refine ⟨I', ?_, fun z => ?_, fun z => ?_, fun z => ?_, fun z => ?_, fun q hq => ?_⟩
  · unfold fb_m_image
    simp only [pu_m_in (nI k) 0 3 (show (0 : Int64) = (0 : Int32).toInt64 from rfl) (show (3 : Int64) = (3 : Int32).toInt64 from rfl), hw, pu_bt, Option.bind_some, show ¬ ((1 : Int32) = 0) by decide, ↓reduceIte, pu_gN (pu_m70 hM), pu_r35 hM, pu_r33 hM, pu_r34 hM, pu_r20 hM, pu_tB3 (pu_m91 hM) hk (show 4 ≤ 100000 by omega), pu_gI (pu_m70 hM), e21, pu_tI (pu_m89 hM) hk (show 4 ≤ 100000 by omega), e22, pu_tI (pu_m90 hM) hk (show 4 ≤ 100000 by omega), a1, pu_cell' hM (show (10 : Int32) = nI 10 from rfl) (show 10 < 149 by omega), e80]
  · rw [a2 z, Nat.add_zero]
    by_cases h1 : 149 * k ≤ z ∧ z < 149 * k + 149
    · rw [if_pos h1, if_pos h1, pu_u2p _ _ _ _ (by decide), pu_u2p _ _ _ _ (by decide), pu_u2p _ _ _ _ (by decide)]
    · rw [if_neg h1, if_neg h1, pu_u2p _ _ _ _ (by decide), pu_u2p _ _ _ _ (by decide), pu_u2p _ _ _ _ (by decide)]
  · rw [a3 89 (by decide), pu_u2p _ _ _ _ (by decide), pu_u2i, pu_u2p _ _ _ _ (by decide)]
  · rw [a3 90 (by decide), pu_u2i, pu_u2p _ _ _ _ (by decide), pu_u2p _ _ _ _ (by decide)]
  · rw [a3 91 (by decide), pu_u2p _ _ _ _ (by decide), pu_u2p _ _ _ _ (by decide), pu_u2i]
  · rw [a3 q (by omega), pu_u2p _ _ _ _ (by omega), pu_u2p _ _ _ _ (by omega), pu_u2p _ _ _ _ (by omega)]
theorem pu_m_back {I : Nat → Nat → Int32} (hM : pu_M s R) {k : Nat} (hk : k < 4) (hb : I 91 k = 1) : ∃ I', fb_m_back 70 (nI k) (s, I, J, R) = some (I 88 (149 * k + 10), (s, I', J, R)) ∧ (∀ z, z < 149 → I' 80 z = I 88 (149 * k + z)) ∧ I' 70 21 = I 89 k ∧ I' 70 22 = I 90 k ∧ I' 70 24 = 0 ∧ (∀ z, z ≠ 21 → z ≠ 22 → z ≠ 24 → I' 70 z = I 70 z) ∧ (∀ q, q ≠ 70 → q ≠ 80 → I' q = I q) := by
  have hw : pu_wi (nI k) 0 3 = true := by
    unfold pu_wi
    rw [decide_eq_false (pu_lt0 (by omega)), show (3 : Int32) = nI 3 from rfl, decide_eq_true (by rw [pu_leI (by omega) (by omega)]; omega)]; rfl
  obtain ⟨I', a1, a2, a3⟩ := pu_m_back_l (J := J) hM hk 149 0 1048576 (tb_up2 (tb_up2 (tb_up2 I 70 21 (I 89 k)) 70 22 (I 90 k)) 70 24 0) (by omega) (by omega)
  rw [show nI 0 = 0 from rfl] at a1
  have e90 : tb_up2 I 70 21 (I 89 k) 90 k = I 90 k := by rw [pu_u2p _ _ _ _ (by decide)]
  have e80 : ∀ z, z < 149 → I' 80 z = I 88 (149 * k + z) := fun z hz => by rw [a2 z hz, if_pos (Nat.zero_le _), pu_u2p _ _ _ _ (by decide), pu_u2p _ _ _ _ (by decide), pu_u2p _ _ _ _ (by decide)]
  refine ⟨I', ?_, e80, ?_, ?_, ?_, fun z h1 h2 h3 => ?_, fun q h1 h2 => ?_⟩
  · unfold fb_m_back
    simp only [pu_m_in (nI k) 0 3 (show (0 : Int64) = (0 : Int32).toInt64 from rfl) (show (3 : Int64) = (3 : Int32).toInt64 from rfl), hw, pu_bt, Option.bind_some, show ¬ ((1 : Int32) = 0) by decide, ↓reduceIte, pu_gN (pu_m70 hM), pu_r35 hM, pu_r33 hM, pu_r34 hM, pu_r20 hM, pu_lB3 (pu_m91 hM) hk (show 4 ≤ 100000 by omega), hb, pu_lI (pu_m89 hM) hk (show 4 ≤ 100000 by omega), pu_pI (pu_m70 hM), pu_lI (pu_m90 hM) hk (show 4 ≤ 100000 by omega), e90, a1, pu_cell' hM (show (10 : Int32) = nI 10 from rfl) (show 10 < 149 by omega), e80 10 (by omega)]
  · rw [a3 70 (by decide), pu_u2k _ _ _ _ (by decide), pu_u2k _ _ _ _ (by decide), pu_u2s]
  · rw [a3 70 (by decide), pu_u2k _ _ _ _ (by decide), pu_u2s]
  · rw [a3 70 (by decide), pu_u2s]
  · rw [a3 70 (by decide), pu_u2k _ _ _ _ h3, pu_u2k _ _ _ _ h2, pu_u2k _ _ _ _ h1]
  · rw [a3 q h2, pu_u2p _ _ _ _ h1, pu_u2p _ _ _ _ h1, pu_u2p _ _ _ _ h1]
end PUJ1
