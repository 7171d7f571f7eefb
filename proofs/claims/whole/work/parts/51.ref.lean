/-! ===== The reference: sets and sums ===== -/
section PUD
variable {s : List (Nat × Nat)} {I : Nat → Nat → Int32} {J : Nat → Nat → Int64} {R : Nat → Nat → Option Nat} {A : pu_A}
theorem pu_mk_s (f : Nat → Bool) (i : Nat) : pu_mk f (i + 1) = pu_mk f i ||| (if f i = true then 1 <<< (nI i &&& 31) else 0) := rfl
theorem pu_m_linesUp_l (hM : pu_M s R) (q : pu_Q (I 80) A) (wf : pu_wf A) : ∀ d i n, i + d = A.1 0 3 → d < n → fl_m_linesUp_4 n 70 (pu_mk (A.2 0) i) (nI i) (s, I, J, R) = some (pu_mk (A.2 0) (A.1 0 3), (s, I, J, R)) := by
  intro d
  have h5 := wf.2.2.1
  induction d with
  | zero =>
    intro i n hi hn
    obtain ⟨n, rfl⟩ : ∃ z, n = z + 1 := ⟨n - 1, by omega⟩
    unfold fl_m_linesUp_4
    simp only [pu_gN (pu_m70 hM), pu_r20 hM, Option.bind_some, pu_cell' hM (show (11 : Int32) = nI 11 from rfl) (by omega), q.1.2.2.2.2, pu_ltI (show i < 2147483648 by omega) (show A.1 0 3 < 2147483648 by omega), show ¬ i < A.1 0 3 by omega, ↓reduceIte]
    rw [show i = A.1 0 3 by omega]
  | succ d ih =>
    intro i n hi hn
    obtain ⟨n, rfl⟩ : ∃ z, n = z + 1 := ⟨n - 1, by omega⟩
    have hil : i < A.1 0 3 := by omega
    have hih := ih (i + 1) n (by omega) (by omega)
    rw [nI_succ, pu_mk_s] at hih
    unfold fl_m_linesUp_4
    simp only [pu_gN (pu_m70 hM), pu_r20 hM, Option.bind_some, pu_cell' hM (show (11 : Int32) = nI 11 from rfl) (by omega), q.1.2.2.2.2, pu_ltI (show i < 2147483648 by omega) (show A.1 0 3 < 2147483648 by omega), hil, ↓reduceIte, pu_on (pu_m70 hM), pu_m_isUp hM q wf (show i < 2147483648 by omega), pu_b0]
    cases hu : A.2 0 i
    · simp only [hu, Bool.false_eq_true, ↓reduceIte] at hih ⊢
      exact hih
    · simp only [hu, Bool.true_eq_false, ↓reduceIte] at hih ⊢
      exact hih
theorem pu_m_linesUp (hM : pu_M s R) (q : pu_Q (I 80) A) (wf : pu_wf A) : fb_m_linesUp 70 (s, I, J, R) = some (pu_mk (A.2 0) 8, (s, I, J, R)) := by
  have h5 := wf.2.2.1
  unfold fb_m_linesUp
  have e := pu_m_linesUp_l (J := J) hM q wf (A.1 0 3) 0 1048576 (by omega) (by omega)
  rw [show pu_mk (A.2 0) 0 = 0 from rfl, show nI 0 = 0 from rfl] at e
  rw [e, pu_mk_more 8 h5 (fun k h1 _ => pu_noup wf (by omega))]
  rfl
theorem pu_m_linesAt_l (hM : pu_M s R) (q : pu_Q (I 80) A) (wf : pu_wf A) {h : Nat} (hh : h < 2147483648) : ∀ d i n, i + d = A.1 0 3 → d < n → fl_m_linesAt_4 n 70 (nI h) (pu_mk (fun l => pu_at A l h) i) (nI i) (s, I, J, R) = some (pu_mk (fun l => pu_at A l h) (A.1 0 3), (s, I, J, R)) := by
  intro d
  have h5 := wf.2.2.1
  induction d with
  | zero =>
    intro i n hi hn
    obtain ⟨n, rfl⟩ : ∃ z, n = z + 1 := ⟨n - 1, by omega⟩
    unfold fl_m_linesAt_4
    simp only [pu_gN (pu_m70 hM), pu_r20 hM, Option.bind_some, pu_cell' hM (show (11 : Int32) = nI 11 from rfl) (by omega), q.1.2.2.2.2, pu_ltI (show i < 2147483648 by omega) (show A.1 0 3 < 2147483648 by omega), show ¬ i < A.1 0 3 by omega, ↓reduceIte]
    rw [show i = A.1 0 3 by omega]
  | succ d ih =>
    intro i n hi hn
    obtain ⟨n, rfl⟩ : ∃ z, n = z + 1 := ⟨n - 1, by omega⟩
    have hil : i < A.1 0 3 := by omega
    have hih := ih (i + 1) n (by omega) (by omega)
    rw [nI_succ, pu_mk_s] at hih
    unfold fl_m_linesAt_4
    simp only [pu_gN (pu_m70 hM), pu_r20 hM, Option.bind_some, pu_cell' hM (show (11 : Int32) = nI 11 from rfl) (by omega), q.1.2.2.2.2, pu_ltI (show i < 2147483648 by omega) (show A.1 0 3 < 2147483648 by omega), hil, ↓reduceIte, pu_on (pu_m70 hM), pu_m_isAt hM q wf (show i < 2147483648 by omega) hh, pu_b0]
    cases hu : pu_at A i h
    · simp only [hu, Bool.false_eq_true, ↓reduceIte] at hih ⊢
      exact hih
    · simp only [hu, Bool.true_eq_false, ↓reduceIte] at hih ⊢
      exact hih
theorem pu_m_linesAt (hM : pu_M s R) (q : pu_Q (I 80) A) (wf : pu_wf A) {h : Nat} (hh : h < 2147483648) : fb_m_linesAt 70 (nI h) (s, I, J, R) = some (pu_mk (fun l => pu_at A l h) 8, (s, I, J, R)) := by
  have h5 := wf.2.2.1
  unfold fb_m_linesAt
  have e := pu_m_linesAt_l (J := J) hM q wf hh (A.1 0 3) 0 1048576 (by omega) (by omega)
  rw [show pu_mk (fun l => pu_at A l h) 0 = 0 from rfl, show nI 0 = 0 from rfl] at e
  rw [e, pu_mk_more 8 h5 (fun k h1 _ => by
    show pu_at A k h = false
    unfold pu_at
    rw [pu_noup wf (by omega)]
    rfl)]
  rfl
theorem pu_m_standingOnes_l (hM : pu_M s R) (q : pu_Q (I 80) A) (wf : pu_wf A) : ∀ d i n, i + d = 2 * A.1 0 0 → d < n → fl_m_standingOnes_4 n 70 (pu_mk (A.2 1) i) (nI i) (s, I, J, R) = some (pu_mk (A.2 1) (2 * A.1 0 0), (s, I, J, R)) := by
  intro d
  have h5 := wf.1
  induction d with
  | zero =>
    intro i n hi hn
    obtain ⟨n, rfl⟩ : ∃ z, n = z + 1 := ⟨n - 1, by omega⟩
    unfold fl_m_standingOnes_4
    simp only [pu_on (pu_m70 hM), pu_m_houses hM q, Option.bind_some, pu_ltI (show i < 2147483648 by omega) (show 2 * A.1 0 0 < 2147483648 by omega), show ¬ i < 2 * A.1 0 0 by omega, ↓reduceIte]
    rw [show i = 2 * A.1 0 0 by omega]
  | succ d ih =>
    intro i n hi hn
    obtain ⟨n, rfl⟩ : ∃ z, n = z + 1 := ⟨n - 1, by omega⟩
    have hil : i < 2 * A.1 0 0 := by omega
    have hih := ih (i + 1) n (by omega) (by omega)
    rw [nI_succ, pu_mk_s] at hih
    unfold fl_m_standingOnes_4
    simp only [pu_on (pu_m70 hM), pu_m_houses hM q, Option.bind_some, pu_ltI (show i < 2147483648 by omega) (show 2 * A.1 0 0 < 2147483648 by omega), hil, ↓reduceIte, pu_m_isStanding hM q wf (show i < 2147483648 by omega), pu_b0]
    cases hu : A.2 1 i
    · simp only [hu, Bool.false_eq_true, ↓reduceIte] at hih ⊢
      exact hih
    · simp only [hu, Bool.true_eq_false, ↓reduceIte] at hih ⊢
      exact hih
theorem pu_m_standingOnes (hM : pu_M s R) (q : pu_Q (I 80) A) (wf : pu_wf A) : fb_m_standingOnes 70 (s, I, J, R) = some (pu_mk (A.2 1) 10, (s, I, J, R)) := by
  have h5 := wf.1
  unfold fb_m_standingOnes
  have e := pu_m_standingOnes_l (J := J) hM q wf (2 * A.1 0 0) 0 1048576 (by omega) (by omega)
  rw [show pu_mk (A.2 1) 0 = 0 from rfl, show nI 0 = 0 from rfl] at e
  rw [e, pu_mk_more 10 (show 2 * A.1 0 0 ≤ 10 by omega) (fun k h1 _ => pu_nost wf (by omega))]
  rfl
theorem pu_m_pullAll_l (hM : pu_M s R) (q : pu_Q (I 80) A) (wf : pu_wf A) : ∀ d i n, i + d = A.1 0 3 → d < n → fl_m_pullAll_4 n 70 (nI (pu_sm (fun l => if A.2 0 l then A.1 5 l else 0) i)) (nI i) (s, I, J, R) = some (nI (pu_allPull A), (s, I, J, R)) := by
  intro d
  have h5 := wf.2.2.1
  induction d with
  | zero =>
    intro i n hi hn
    obtain ⟨n, rfl⟩ : ∃ z, n = z + 1 := ⟨n - 1, by omega⟩
    unfold fl_m_pullAll_4
    simp only [pu_gN (pu_m70 hM), pu_r20 hM, Option.bind_some, pu_cell' hM (show (11 : Int32) = nI 11 from rfl) (by omega), q.1.2.2.2.2, pu_ltI (show i < 2147483648 by omega) (show A.1 0 3 < 2147483648 by omega), show ¬ i < A.1 0 3 by omega, ↓reduceIte]
    rw [show i = A.1 0 3 by omega]
    rfl
  | succ d ih =>
    intro i n hi hn
    obtain ⟨n, rfl⟩ : ∃ z, n = z + 1 := ⟨n - 1, by omega⟩
    have hil : i < A.1 0 3 := by omega
    have hih := ih (i + 1) n (by omega) (by omega)
    rw [nI_succ, pu_sm_s] at hih
    unfold fl_m_pullAll_4
    simp only [pu_gN (pu_m70 hM), pu_r20 hM, Option.bind_some, pu_cell' hM (show (11 : Int32) = nI 11 from rfl) (by omega), q.1.2.2.2.2, pu_ltI (show i < 2147483648 by omega) (show A.1 0 3 < 2147483648 by omega), hil, ↓reduceIte, pu_on (pu_m70 hM), pu_m_isUp hM q wf (show i < 2147483648 by omega), pu_m_pullOf hM q wf hil, pu_b0]
    cases hu : A.2 0 i
    · simp only [hu, Bool.false_eq_true, ↓reduceIte, Nat.add_zero] at hih ⊢
      rw [Int32.add_zero]
      exact hih
    · simp only [hu, Bool.true_eq_false, ↓reduceIte, pu_on (pu_m70 hM), pu_m_pullOf hM q wf hil, Option.bind_some, nI_add] at hih ⊢
      exact hih
theorem pu_m_pullAll (hM : pu_M s R) (q : pu_Q (I 80) A) (wf : pu_wf A) : fb_m_pullAll 70 (s, I, J, R) = some (nI (pu_allPull A), (s, I, J, R)) := by
  have h5 := wf.2.2.1
  unfold fb_m_pullAll
  have e := pu_m_pullAll_l (J := J) hM q wf (A.1 0 3) 0 1048576 (by omega) (by omega)
  rw [show nI (pu_sm (fun l => if A.2 0 l then A.1 5 l else 0) 0) = 0 from rfl, show nI 0 = 0 from rfl] at e
  rw [e]
  rfl
theorem pu_m_leanAll_l (hM : pu_M s R) (q : pu_Q (I 80) A) (wf : pu_wf A) : ∀ d i n, i + d = 2 * A.1 0 0 → d < n → fl_m_leanAll_4 n 70 (nI (pu_sm (fun h => if A.2 1 h then A.1 1 h else 0) i)) (nI i) (s, I, J, R) = some (nI (pu_allLean A), (s, I, J, R)) := by
  intro d
  have h5 := wf.1
  induction d with
  | zero =>
    intro i n hi hn
    obtain ⟨n, rfl⟩ : ∃ z, n = z + 1 := ⟨n - 1, by omega⟩
    unfold fl_m_leanAll_4
    simp only [pu_on (pu_m70 hM), pu_m_houses hM q, Option.bind_some, pu_ltI (show i < 2147483648 by omega) (show 2 * A.1 0 0 < 2147483648 by omega), show ¬ i < 2 * A.1 0 0 by omega, ↓reduceIte]
    rw [show i = 2 * A.1 0 0 by omega]
    rfl
  | succ d ih =>
    intro i n hi hn
    obtain ⟨n, rfl⟩ : ∃ z, n = z + 1 := ⟨n - 1, by omega⟩
    have hil : i < 2 * A.1 0 0 := by omega
    have hih := ih (i + 1) n (by omega) (by omega)
    rw [nI_succ, pu_sm_s] at hih
    unfold fl_m_leanAll_4
    simp only [pu_on (pu_m70 hM), pu_m_houses hM q, Option.bind_some, pu_ltI (show i < 2147483648 by omega) (show 2 * A.1 0 0 < 2147483648 by omega), hil, ↓reduceIte, pu_m_isStanding hM q wf (show i < 2147483648 by omega), pu_b0]
    cases hu : A.2 1 i
    · simp only [hu, Bool.false_eq_true, ↓reduceIte, Nat.add_zero] at hih ⊢
      rw [Int32.add_zero]
      exact hih
    · simp only [hu, Bool.true_eq_false, ↓reduceIte, pu_gN (pu_m70 hM), pu_r20 hM, Option.bind_some, pu_cell' hM (pu_L12 i) (show 12 + i < 149 by omega), (q.2.1 i (by omega)).1, nI_add] at hih ⊢
      exact hih
theorem pu_m_leanAll (hM : pu_M s R) (q : pu_Q (I 80) A) (wf : pu_wf A) : fb_m_leanAll 70 (s, I, J, R) = some (nI (pu_allLean A), (s, I, J, R)) := by
  have h5 := wf.1
  unfold fb_m_leanAll
  have e := pu_m_leanAll_l (J := J) hM q wf (2 * A.1 0 0) 0 1048576 (by omega) (by omega)
  rw [show nI (pu_sm (fun h => if A.2 1 h then A.1 1 h else 0) 0) = 0 from rfl, show nI 0 = 0 from rfl] at e
  rw [e]
  rfl
theorem pu_m_spareOf_l (hM : pu_M s R) (q : pu_Q (I 80) A) (wf : pu_wf A) {h : Nat} (hh : h < 2147483648) (b : Int32) : ∀ d i n, i + d = A.1 0 3 → d < n → fl_m_spareOf_16 n 70 (nI h) (b + nI (pu_sm (fun l => if pu_at A l h then A.1 5 l else 0) i)) (nI i) (s, I, J, R) = some (b + nI (pu_sm (fun l => if pu_at A l h then A.1 5 l else 0) (A.1 0 3)), (s, I, J, R)) := by
  intro d
  have h5 := wf.2.2.1
  induction d with
  | zero =>
    intro i n hi hn
    obtain ⟨n, rfl⟩ : ∃ z, n = z + 1 := ⟨n - 1, by omega⟩
    unfold fl_m_spareOf_16
    simp only [pu_gN (pu_m70 hM), pu_r20 hM, Option.bind_some, pu_cell' hM (show (11 : Int32) = nI 11 from rfl) (by omega), q.1.2.2.2.2, pu_ltI (show i < 2147483648 by omega) (show A.1 0 3 < 2147483648 by omega), show ¬ i < A.1 0 3 by omega, ↓reduceIte]
    rw [show i = A.1 0 3 by omega]
  | succ d ih =>
    intro i n hi hn
    obtain ⟨n, rfl⟩ : ∃ z, n = z + 1 := ⟨n - 1, by omega⟩
    have hil : i < A.1 0 3 := by omega
    have hih := ih (i + 1) n (by omega) (by omega)
    rw [nI_succ, pu_sm_s] at hih
    unfold fl_m_spareOf_16
    simp only [pu_gN (pu_m70 hM), pu_r20 hM, Option.bind_some, pu_cell' hM (show (11 : Int32) = nI 11 from rfl) (by omega), q.1.2.2.2.2, pu_ltI (show i < 2147483648 by omega) (show A.1 0 3 < 2147483648 by omega), hil, ↓reduceIte, pu_on (pu_m70 hM), pu_m_isAt hM q wf (show i < 2147483648 by omega) hh, pu_b0]
    cases hu : pu_at A i h
    · simp only [hu, Bool.false_eq_true, ↓reduceIte, Nat.add_zero] at hih ⊢
      rw [Int32.add_zero]
      exact hih
    · have hup : A.2 0 i = true := by
        unfold pu_at at hu
        rw [Bool.and_eq_true] at hu
        exact hu.1
      simp only [hu, hup, Bool.true_eq_false, ↓reduceIte, pu_on (pu_m70 hM), pu_m_pullOf hM q wf hil, Option.bind_some] at hih ⊢
      rw [Int32.add_assoc, nI_add]
      exact hih
theorem pu_m_spareOf (hM : pu_M s R) (q : pu_Q (I 80) A) (wf : pu_wf A) {h : Nat} (hh : h < 10) : fb_m_spareOf 70 (nI h) (s, I, J, R) = some (nI (pu_hold A h) - nI (A.1 1 h), (s, I, J, R)) := by
  have h5 := wf.2.2.1
  unfold fb_m_spareOf
  simp only [pu_gN (pu_m70 hM), pu_r20 hM, Option.bind_some, pu_cell' hM (pu_L22 h) (show 22 + h < 149 by omega), pu_cell' hM (pu_L12 h) (show 12 + h < 149 by omega), (q.2.1 h hh).1, (q.2.1 h hh).2]
  have e := pu_m_spareOf_l (J := J) hM q wf (show h < 2147483648 by omega) (nI (A.1 2 h) - nI (A.1 1 h)) (A.1 0 3) 0 1048576 (by omega) (by omega)
  rw [show nI (pu_sm (fun l => if pu_at A l h then A.1 5 l else 0) 0) = 0 from rfl, show nI 0 = 0 from rfl, Int32.add_zero] at e
  rw [e]
  simp only [Option.bind_some]
  have e2 : nI (A.1 2 h) - nI (A.1 1 h) + nI (pu_sm (fun l => if pu_at A l h then A.1 5 l else 0) (A.1 0 3)) = nI (pu_hold A h) - nI (A.1 1 h) := by
    unfold pu_hold
    rw [← nI_add]
    rw [Int32.sub_eq_add_neg, Int32.sub_eq_add_neg, Int32.add_assoc, Int32.add_assoc, Int32.add_comm (-nI (A.1 1 h))]
  rw [e2]
theorem pu_sublt0 {a b : Nat} (ha : a < 1073741824) (hb : b < 1073741824) : (nI a - nI b < 0) = (a < b) := by
  apply propext
  rw [Int32.lt_iff_toInt_lt, Int32.toInt_sub, nI_toInt (show a < 2 ^ 31 by omega), nI_toInt (show b < 2 ^ 31 by omega), Int.bmod_eq_of_le (by omega) (by omega)]
  show (a : Int) - (b : Int) < 0 ↔ a < b
  omega
theorem pu_m_looseOnes_l (hM : pu_M s R) (q : pu_Q (I 80) A) (wf : pu_wf A) : ∀ d i n, i + d = 2 * A.1 0 0 → d < n → fl_m_looseOnes_4 n 70 (pu_mk (pu_weak A) i) (nI i) (s, I, J, R) = some (pu_mk (pu_weak A) (2 * A.1 0 0), (s, I, J, R)) := by
  intro d
  have h5 := wf.1
  induction d with
  | zero =>
    intro i n hi hn
    obtain ⟨n, rfl⟩ : ∃ z, n = z + 1 := ⟨n - 1, by omega⟩
    unfold fl_m_looseOnes_4
    simp only [pu_on (pu_m70 hM), pu_m_houses hM q, Option.bind_some, pu_ltI (show i < 2147483648 by omega) (show 2 * A.1 0 0 < 2147483648 by omega), show ¬ i < 2 * A.1 0 0 by omega, ↓reduceIte]
    rw [show i = 2 * A.1 0 0 by omega]
  | succ d ih =>
    intro i n hi hn
    obtain ⟨n, rfl⟩ : ∃ z, n = z + 1 := ⟨n - 1, by omega⟩
    have hil : i < 2 * A.1 0 0 := by omega
    have hih := ih (i + 1) n (by omega) (by omega)
    have hb := pu_hold_le wf i
    have hb2 := (wf.2.2.2.1 i).1
    rw [nI_succ, pu_mk_s] at hih
    unfold fl_m_looseOnes_4
    simp only [pu_on (pu_m70 hM), pu_m_houses hM q, Option.bind_some, pu_ltI (show i < 2147483648 by omega) (show 2 * A.1 0 0 < 2147483648 by omega), hil, ↓reduceIte, pu_m_isStanding hM q wf (show i < 2147483648 by omega), pu_b0]
    cases hu : A.2 1 i
    · simp only [pu_weak, hu, Bool.false_and, Bool.false_eq_true, ↓reduceIte] at hih ⊢
      exact hih
    · simp only [pu_weak, hu, Bool.true_and, decide_eq_true_eq, Bool.true_eq_false, ↓reduceIte, pu_on (pu_m70 hM), pu_m_spareOf hM q wf (show i < 10 by omega), Option.bind_some, pu_sublt0 (show pu_hold A i < 1073741824 by omega) (show A.1 1 i < 1073741824 by omega)] at hih ⊢
      by_cases hw : pu_hold A i < A.1 1 i
      · simp only [hw, ↓reduceIte] at hih ⊢
        exact hih
      · simp only [hw, ↓reduceIte] at hih ⊢
        exact hih
theorem pu_m_looseOnes (hM : pu_M s R) (q : pu_Q (I 80) A) (wf : pu_wf A) : fb_m_looseOnes 70 (s, I, J, R) = some (pu_mk (pu_weak A) 10, (s, I, J, R)) := by
  have h5 := wf.1
  unfold fb_m_looseOnes
  have e := pu_m_looseOnes_l (J := J) hM q wf (2 * A.1 0 0) 0 1048576 (by omega) (by omega)
  rw [show pu_mk (pu_weak A) 0 = 0 from rfl, show nI 0 = 0 from rfl] at e
  rw [e, pu_mk_more 10 (show 2 * A.1 0 0 ≤ 10 by omega) (fun k h1 _ => by
    unfold pu_weak
    rw [pu_nost wf (by omega)]
    rfl)]
  rfl
end PUD
