/-! ===== marry: the reference goes through all choices ===== -/
/-- whether a line leads from the odd house i to the house k, among the first n lines -/
def pu_ja (A : pu_A) (i k : Nat) : Nat → Bool
  | 0 => false
  | n + 1 => pu_ja A i k n || (A.2 0 n && decide (A.1 3 n = i) && decide (A.1 4 n = k))
theorem pu_ja_m {A : pu_A} {i k : Nat} {n : Nat} (h : pu_ja A i k n = true) : ∀ d, pu_ja A i k (n + d) = true
  | 0 => h
  | d + 1 => by show (pu_ja A i k (n + d) || _) = true; rw [pu_ja_m h d, Bool.true_or]
/-- joined: the odd house i, the even house e counted from the first of its side -/
def pu_jd (A : pu_A) (i e : Nat) : Bool := pu_ja A i (A.1 0 0 + e) (A.1 0 3)
/-- how a choice stands in a row -/
def pu_co (n c : Nat) : Int32 := if c = 0 then -1 else nI (n + (c - 1))
theorem pu_ct_ins {f : Nat → Bool} {h0 : Nat} (hf : f h0 = false) : ∀ n, pu_ct (fun k => f k || decide (k = h0)) n = pu_ct f n + (if h0 < n then 1 else 0) := by
  intro n
  induction n with
  | zero => rfl
  | succ n ih =>
    show pu_ct (fun k => f k || decide (k = h0)) n + (if (f n || decide (n = h0)) = true then 1 else 0) = pu_ct f n + (if f n = true then 1 else 0) + _
    rw [ih]
    by_cases h : n = h0
    · subst h
      simp [hf]
    · have e1 : decide (n = h0) = false := decide_eq_false h
      rw [e1, Bool.or_false]
      by_cases h2 : h0 < n
      · simp only [h2, show h0 < n + 1 by omega, ↓reduceIte]; omega
      · simp only [h2, show ¬ h0 < n + 1 by omega, ↓reduceIte]; omega
theorem pu_vs_full {n : Nat} {D : Nat → Nat} : ∀ d i, (∀ k, i ≤ k → k < i + d → D k = n) → pu_vs n D d i + 1 = (n + 1) ^ d := by
  intro d
  induction d with
  | zero => intro i _; rfl
  | succ d ih =>
    intro i h
    unfold pu_vs
    rw [h i (by omega) (by omega), Nat.pow_succ, Nat.mul_comm _ (n + 1), Nat.add_mul, Nat.one_mul, Nat.add_assoc, ih (i + 1) (fun k h1 h2 => h k (by omega) (by omega))]
theorem pu_vs_zero {n : Nat} {D : Nat → Nat} : ∀ d i, (∀ k, i ≤ k → k < i + d → D k = 0) → pu_vs n D d i = 0 := by
  intro d
  induction d with
  | zero => intro i _; rfl
  | succ d ih =>
    intro i h
    unfold pu_vs
    rw [h i (by omega) (by omega), ih (i + 1) (fun k h1 h2 => h k (by omega) (by omega)), Nat.zero_mul]
theorem pu_vs_pre {n d : Nat} {D E : Nat → Nat} : ∀ t i, (∀ k, i ≤ k → k < i + t → E k = D k) → pu_vs n E d (i + t) = pu_vs n D d (i + t) + 1 → pu_vs n E (t + d) i = pu_vs n D (t + d) i + 1 := by
  intro t
  induction t with
  | zero => intro i _ h; rw [Nat.zero_add]; exact h
  | succ t ih =>
    intro i h h2
    rw [show t + 1 + d = (t + d) + 1 by omega]
    unfold pu_vs
    rw [h i (by omega) (by omega), ih (i + 1) (fun k h1 h3 => h k (by omega) (by omega)) (by rw [show i + 1 + t = i + (t + 1) by omega]; exact h2)]
    omega
/-- the next choice -/
def pu_nx (n j : Nat) (D : Nat → Nat) : Nat → Nat := fun k => if k = j then D j + 1 else if j < k ∧ k < n then 0 else D k
theorem pu_nx_vs {n j : Nat} {D : Nat → Nat} (hj : j < n) (h : ∀ k, j < k → k < n → D k = n) : pu_vs n (pu_nx n j D) n 0 = pu_vs n D n 0 + 1 := by
  have e : n = j + (n - j) := by omega
  have := pu_vs_pre (n := n) (d := n - j) (D := D) (E := pu_nx n j D) j 0 (fun k h1 h2 => by unfold pu_nx; rw [if_neg (by omega), if_neg (by omega)]) (by
    rw [Nat.zero_add, show n - j = (n - j - 1) + 1 by omega]
    unfold pu_vs
    have e1 := pu_vs_full (n := n) (D := D) (n - j - 1) (j + 1) (fun k h1 h2 => h k (by omega) (by omega))
    have e2 := pu_vs_zero (n := n) (D := pu_nx n j D) (n - j - 1) (j + 1) (fun k h1 h2 => by unfold pu_nx; rw [if_neg (by omega), if_pos (by omega)])
    rw [e2, show pu_nx n j D j = D j + 1 from if_pos rfl, ← e1, Nat.add_mul, Nat.one_mul]
    omega)
  rw [← e] at this
  exact this
theorem pu_nx_le {n j : Nat} {D : Nat → Nat} (hD : ∀ k, D k ≤ n) (hj : D j < n) : ∀ k, pu_nx n j D k ≤ n := by
  intro k
  unfold pu_nx
  split
  · omega
  · split
    · omega
    · exact hD k
section PUz
variable {s : List (Nat × Nat)} {J : Nat → Nat → Int64} {R : Nat → Nat → Option Nat} {A : pu_A}
theorem pu_m_isJoined_l {I : Nat → Nat → Int32} (hM : pu_M s R) (q : pu_Q (I 80) A) (wf : pu_wf A) {i k : Nat} (hi2 : i < 10) (hk2 : k < 10) : ∀ d l n, l + d = A.1 0 3 → d < n → pu_ja A i k l = false → fl_m_isJoined_2 n 70 (nI i) (nI k) (nI l) (s, I, J, R) = some (pu_b (pu_ja A i k (A.1 0 3)), (s, I, J, R)) := by
  have h8 := wf.2.2.1
  have h5 := wf.1
  intro d
  induction d with
  | zero =>
    intro l n hl hn hf
    obtain ⟨n, rfl⟩ : ∃ z, n = z + 1 := ⟨n - 1, by omega⟩
    rw [fl_m_isJoined_2.eq_2]
    simp only [pu_gN (pu_m70 hM), pu_r20 hM, Option.bind_some, pu_cell' hM (show (11 : Int32) = nI 11 from rfl) (show 11 < 149 by omega), q.1.2.2.2.2, pu_ltI (show l < 2147483648 by omega) (show A.1 0 3 < 2147483648 by omega), show ¬ l < A.1 0 3 by omega, ↓reduceIte, fj_m_isJoined_j26]
    rw [show A.1 0 3 = l by omega, hf]; rfl
  | succ d ih =>
    intro l n hl hn hf
    obtain ⟨n, rfl⟩ : ∃ z, n = z + 1 := ⟨n - 1, by omega⟩
    have hin := wf.2.2.2.2.2.1 l (by omega)
    rw [fl_m_isJoined_2.eq_2]
    simp only [pu_gN (pu_m70 hM), pu_r20 hM, Option.bind_some, pu_cell' hM (show (11 : Int32) = nI 11 from rfl) (show 11 < 149 by omega), q.1.2.2.2.2, pu_ltI (show l < 2147483648 by omega) (show A.1 0 3 < 2147483648 by omega), show l < A.1 0 3 by omega, ↓reduceIte, pu_on (pu_m70 hM), pu_m_isUp hM q wf (show l < 2147483648 by omega), pu_b0, pu_m_oddOf hM q wf (show l < A.1 0 3 by omega), pu_m_evenOf hM q wf (show l < A.1 0 3 by omega), pu_eqI (show A.1 3 l < 2147483648 by omega) (show i < 2147483648 by omega), pu_eqI (show A.1 4 l < 2147483648 by omega) (show k < 2147483648 by omega)]
    rw [← nI_succ]
    have es : pu_ja A i k (l + 1) = (pu_ja A i k l || (A.2 0 l && decide (A.1 3 l = i) && decide (A.1 4 l = k))) := rfl
    rw [hf, Bool.false_or] at es
    cases hu : A.2 0 l
    · rw [hu] at es
      simp only [↓reduceIte]
      exact ih (l + 1) n (by omega) (by omega) es
    · rw [hu] at es
      by_cases ho : A.1 3 l = i
      · by_cases he : A.1 4 l = k
        · simp only [Bool.true_eq_false, ho, he, ↓reduceIte, fj_m_isJoined_j22]
          rw [decide_eq_true ho, decide_eq_true he] at es
          have := pu_ja_m (d := A.1 0 3 - (l + 1)) es
          rw [show l + 1 + (A.1 0 3 - (l + 1)) = A.1 0 3 by omega] at this
          rw [this]; rfl
        · simp only [Bool.true_eq_false, ho, he, ↓reduceIte]
          rw [decide_eq_false he, Bool.and_false] at es
          exact ih (l + 1) n (by omega) (by omega) es
      · simp only [Bool.true_eq_false, ho, ↓reduceIte]
        rw [decide_eq_false ho, Bool.and_false, Bool.false_and] at es
        exact ih (l + 1) n (by omega) (by omega) es
theorem pu_m_isJoined {I : Nat → Nat → Int32} (hM : pu_M s R) (q : pu_Q (I 80) A) (wf : pu_wf A) {i e : Nat} (hi : i < A.1 0 0) (he : e < A.1 0 0) : fb_m_isJoined 70 (nI i) (nI (A.1 0 0 + e)) (s, I, J, R) = some (pu_b (pu_jd A i e), (s, I, J, R)) := by
  have h8 := wf.2.2.1
  have h5 := wf.1
  have := pu_m_isJoined_l (J := J) hM q wf (show i < 10 by omega) (show A.1 0 0 + e < 10 by omega) (A.1 0 3) 0 1048576 (by omega) (by omega) rfl
  unfold fb_m_isJoined
  rw [show nI 0 = 0 from rfl] at this
  simp only [this, Option.bind_some]
  rfl
/-- the even houses that are taken, as bits of houses -/
def pu_us (n : Nat) (F : Nat → Bool) : Nat → Bool := fun h => decide (n ≤ h) && !F (h - n)
theorem pu_us_wo {n : Nat} {F : Nat → Bool} {e : Nat} : ∀ k, pu_us n (pu_wo F e) k = (pu_us n F k || decide (k = n + e)) := by
  intro k
  unfold pu_us pu_wo
  by_cases h1 : n ≤ k
  · by_cases h2 : k = n + e
    · rw [decide_eq_true h1, decide_eq_true h2, decide_eq_true (show k - n = e by omega)]
      simp
    · rw [decide_eq_true h1, decide_eq_false h2, decide_eq_false (show ¬ k - n = e by omega)]
      simp
  · rw [decide_eq_false h1, decide_eq_false (show ¬ k = n + e by omega)]
    rfl
theorem pu_m_pairsNow_l {I : Nat → Nat → Int32} {D : Nat → Nat} (hM : pu_M s R) (q : pu_Q (I 80) A) (wf : pu_wf A) (hD : ∀ k, D k ≤ A.1 0 0) (hw : ∀ k, k < 5 → I 83 k = pu_co (A.1 0 0) (D k)) : ∀ d i n F, i + d = A.1 0 0 → d < n → fl_m_pairsNow_4 n 70 (pu_mk (pu_us (A.1 0 0) F) 10) (nI i) (s, I, J, R) = some ((match pu_mn (pu_jd A) D d i F with | some m => nI (pu_ct (pu_us (A.1 0 0) F) 10 + m) | none => -1), (s, I, J, R)) := by
  have h5 := wf.1
  intro d
  induction d with
  | zero =>
    intro i n F hi hn
    obtain ⟨n, rfl⟩ : ∃ z, n = z + 1 := ⟨n - 1, by omega⟩
    rw [fl_m_pairsNow_4.eq_2]
    simp only [pu_gN (pu_m70 hM), pu_r20 hM, Option.bind_some, pu_cell' hM (show (1 : Int32) = nI 1 from rfl) (show 1 < 149 by omega), q.1.2.1, pu_ltI (show i < 2147483648 by omega) (show A.1 0 0 < 2147483648 by omega), show ¬ i < A.1 0 0 by omega, ↓reduceIte, fj_m_pairsNow_j37, pu_m_bits]
    rfl
  | succ d ih =>
    intro i n F hi hn
    obtain ⟨n, rfl⟩ : ∃ z, n = z + 1 := ⟨n - 1, by omega⟩
    have hDi := hD i
    rw [fl_m_pairsNow_4.eq_2]
    simp only [pu_gN (pu_m70 hM), pu_r20 hM, pu_r26 hM, Option.bind_some, pu_cell' hM (show (1 : Int32) = nI 1 from rfl) (show 1 < 149 by omega), q.1.2.1, pu_ltI (show i < 2147483648 by omega) (show A.1 0 0 < 2147483648 by omega), show i < A.1 0 0 by omega, ↓reduceIte, pu_lI (pu_m83 hM) (show i < 5 by omega) (show 5 ≤ 100000 by omega), hw i (by omega)]
    rw [← nI_succ]
    unfold pu_mn
    by_cases h0 : D i = 0
    · rw [show pu_co (A.1 0 0) (D i) = -1 by unfold pu_co; rw [if_pos h0], if_pos (by decide), if_pos h0]
      exact ih (i + 1) n F (by omega) (by omega)
    · have e1 : pu_co (A.1 0 0) (D i) = nI (A.1 0 0 + (D i - 1)) := by unfold pu_co; rw [if_neg h0]
      have e2 : pu_us (A.1 0 0) F (A.1 0 0 + (D i - 1)) = !F (D i - 1) := by unfold pu_us; rw [decide_eq_true (by omega), Bool.true_and, Nat.add_sub_cancel_left]
      rw [e1, if_neg (pu_lt0 (by omega)), if_neg h0]
      simp only [fb_m_isOf, pu_bit10 _ (show A.1 0 0 + (D i - 1) < 10 by omega), e2]
      cases hF : F (D i - 1)
      · simp only [Bool.not_false, ↓reduceIte, Option.bind_some, show ¬ ((1 : Int32) = 0) by decide, fj_m_pairsNow_j27, Bool.false_and, Bool.false_eq_true]
      · simp only [Bool.not_true, Bool.false_eq_true, ↓reduceIte, Option.bind_some, pu_on (pu_m70 hM), pu_m_isJoined hM q wf (show i < A.1 0 0 by omega) (show D i - 1 < A.1 0 0 by omega), pu_b0, Bool.true_and]
        cases hj : pu_jd A i (D i - 1)
        · simp only [↓reduceIte, fj_m_pairsNow_j27, Bool.false_eq_true]
        · simp only [Bool.true_eq_false, ↓reduceIte]
          have hih := ih (i + 1) n (pu_wo F (D i - 1)) (by omega) (by omega)
          have em : pu_mk (pu_us (A.1 0 0) F) 10 ||| (1 <<< (nI (A.1 0 0 + (D i - 1)) &&& 31)) = pu_mk (pu_us (A.1 0 0) (pu_wo F (D i - 1))) 10 := by
            rw [pu_mk_1 (show A.1 0 0 + (D i - 1) < 10 by omega) (by omega), pu_mk_or _ _ (by omega)]
            exact pu_mk_cong 10 (fun k _ => (pu_us_wo k).symm)
          have ec : pu_ct (pu_us (A.1 0 0) (pu_wo F (D i - 1))) 10 = pu_ct (pu_us (A.1 0 0) F) 10 + 1 := by
            rw [pu_ct_cong 10 (fun k _ => pu_us_wo k), pu_ct_ins (by rw [e2, hF]; rfl), if_pos (by omega)]
          rw [em, hih, ec]
          cases pu_mn (pu_jd A) D d (i + 1) (pu_wo F (D i - 1)) with
          | none => rfl
          | some m => simp only [Option.map_some, Nat.add_assoc, Nat.add_comm 1 m]
theorem pu_m_pairsNow {I : Nat → Nat → Int32} {D : Nat → Nat} (hM : pu_M s R) (q : pu_Q (I 80) A) (wf : pu_wf A) (hD : ∀ k, D k ≤ A.1 0 0) (hw : ∀ k, k < 5 → I 83 k = pu_co (A.1 0 0) (D k)) : fb_m_pairsNow 70 (s, I, J, R) = some ((match pu_mn (pu_jd A) D (A.1 0 0) 0 (fun _ => true) with | some m => nI m | none => -1), (s, I, J, R)) := by
  have h5 := wf.1
  have := pu_m_pairsNow_l (J := J) hM q wf hD hw (A.1 0 0) 0 1048576 (fun _ => true) (by omega) (by omega)
  have e0 : ∀ k, k < 10 → pu_us (A.1 0 0) (fun _ => true) k = false := fun k _ => by unfold pu_us; rw [Bool.not_true, Bool.and_false]
  rw [pu_mk_cong 10 e0, pu_ct_cong 10 e0, show pu_mk (fun _ => false) 10 = 0 from by decide, show pu_ct (fun _ => false) 10 = 0 from rfl, show nI 0 = 0 from rfl] at this
  unfold fb_m_pairsNow
  simp only [this, Option.bind_some, Nat.zero_add]
/-- back from behind over all that are at their last -/
theorem pu_m_nextPairs_l (hM : pu_M s R) (wf : pu_wf A) (h0 : 0 < A.1 0 0) : ∀ t n (I : Nat → Nat → Int32) (D : Nat → Nat), pu_Q (I 80) A → t ≤ A.1 0 0 → t < n → (∀ k, D k ≤ A.1 0 0) → (∀ k, k < 5 → I 83 k = pu_co (A.1 0 0) (D k)) →
    ∃ t' I', fl_m_nextPairs_7 n 70 (nI t - 1) (s, I, J, R) = some (70, nI t' - 1, (s, I', J, R)) ∧ t' ≤ t ∧ (0 < t' → D (t' - 1) < A.1 0 0) ∧ (∀ k, t' ≤ k → k < t → D k = A.1 0 0) ∧ (∀ k, k < 5 → I' 83 k = pu_co (A.1 0 0) (if t' ≤ k ∧ k < t then 0 else D k)) ∧ (∀ q, q ≠ 83 → I' q = I q) := by
  have h5 := wf.1
  intro t
  induction t with
  | zero =>
    intro n I D q ht hn hD hw
    obtain ⟨n, rfl⟩ : ∃ z, n = z + 1 := ⟨n - 1, by omega⟩
    refine ⟨0, I, ?_, Nat.le_refl _, by omega, by omega, fun k hk => ?_, fun _ _ => rfl⟩
    · rw [fl_m_nextPairs_7.eq_2, if_pos (by decide)]
    · rw [if_neg (by omega)]; exact hw k hk
  | succ t ih =>
    intro n I D q ht hn hD hw
    obtain ⟨n, rfl⟩ : ∃ z, n = z + 1 := ⟨n - 1, by omega⟩
    have hDt := hD t
    have eh : nI (2 * A.1 0 0) - 1 = nI (2 * A.1 0 0 - 1) := by rw [show 2 * A.1 0 0 = (2 * A.1 0 0 - 1) + 1 by omega, nI_pred]; congr 1
    rw [fl_m_nextPairs_7.eq_2, nI_pred]
    simp only [pu_lt0 (show t < 2147483648 by omega), ↓reduceIte, pu_gN (pu_m70 hM), pu_r26 hM, Option.bind_some, pu_lI (pu_m83 hM) (show t < 5 by omega) (show 5 ≤ 100000 by omega), hw t (by omega), pu_on (pu_m70 hM), pu_m_houses hM q, eh]
    by_cases hl : D t = A.1 0 0
    · have e1 : pu_co (A.1 0 0) (D t) = nI (2 * A.1 0 0 - 1) := by unfold pu_co; rw [if_neg (by omega)]; congr 1; omega
      simp only [e1, ↓reduceIte, pu_tI (pu_m83 hM) (show t < 5 by omega) (show 5 ≤ 100000 by omega), Option.bind_some]
      rw [show nI t + (-1) = nI t - 1 by rw [Int32.sub_eq_add_neg]]
      obtain ⟨t', I', a1, a2, a3, a4, a5, a6⟩ := ih n (tb_up2 I 83 t (-1)) (fun k => if k = t then 0 else D k) (by rw [pu_u2p _ _ _ _ (by decide)]; exact q) (by omega) (by omega) (fun k => by by_cases hk : k = t <;> simp only [hk, ↓reduceIte, Nat.zero_le, hD]) (fun k hk => by
        rw [pu_u2i]
        by_cases hk2 : k = t
        · rw [if_pos hk2, if_pos hk2]; rfl
        · rw [if_neg hk2, if_neg hk2]; exact hw k hk)
      refine ⟨t', I', a1, by omega, fun h => ?_, fun k h1 h2 => ?_, fun k hk => ?_, fun z hz => by rw [a6 z hz, pu_u2p _ _ _ _ hz]⟩
      · have := a3 h
        rw [if_neg (by omega)] at this
        exact this
      · by_cases hk2 : k = t
        · rw [hk2]; exact hl
        · have := a4 k h1 (by omega)
          rw [if_neg hk2] at this
          exact this
      · rw [a5 k hk]
        by_cases h1 : t' ≤ k ∧ k < t
        · rw [if_pos h1, if_pos (by omega)]
        · rw [if_neg h1]
          by_cases hk2 : k = t
          · rw [if_pos hk2, if_pos (by omega)]
          · rw [if_neg hk2, if_neg (by omega)]
    · have e1 : ¬ pu_co (A.1 0 0) (D t) = nI (2 * A.1 0 0 - 1) := by
        unfold pu_co
        by_cases hz : D t = 0
        · rw [if_pos hz]
          intro h
          have h9 := pu_lt0 (show 2 * A.1 0 0 - 1 < 2147483648 by omega)
          rw [← h] at h9
          exact h9 (by decide)
        · rw [if_neg hz, pu_eqI (by omega) (by omega)]; omega
      simp only [e1, ↓reduceIte]
      refine ⟨t + 1, I, by rw [nI_pred], Nat.le_refl _, fun _ => by rw [Nat.add_sub_cancel]; omega, by omega, fun k hk => ?_, fun _ _ => rfl⟩
      rw [if_neg (by omega)]; exact hw k hk
/-- no choice is left, or the next one -/
theorem pu_m_nextPairs {I : Nat → Nat → Int32} {D : Nat → Nat} (hM : pu_M s R) (q : pu_Q (I 80) A) (wf : pu_wf A) (h0 : 0 < A.1 0 0) (hD : ∀ k, D k ≤ A.1 0 0) (hw : ∀ k, k < 5 → I 83 k = pu_co (A.1 0 0) (D k)) :
    (∃ I', fb_m_nextPairs 70 (s, I, J, R) = some (0, (s, I', J, R)) ∧ pu_vs (A.1 0 0) D (A.1 0 0) 0 + 1 = (A.1 0 0 + 1) ^ A.1 0 0 ∧ (∀ q, q ≠ 83 → I' q = I q)) ∨
    (∃ I' E, fb_m_nextPairs 70 (s, I, J, R) = some (1, (s, I', J, R)) ∧ (∀ k, E k ≤ A.1 0 0) ∧ (∀ k, k < 5 → I' 83 k = pu_co (A.1 0 0) (E k)) ∧ pu_vs (A.1 0 0) E (A.1 0 0) 0 = pu_vs (A.1 0 0) D (A.1 0 0) 0 + 1 ∧ (∀ q, q ≠ 83 → I' q = I q)) := by
  have h5 := wf.1
  obtain ⟨t', I', a1, a2, a3, a4, a5, a6⟩ := pu_m_nextPairs_l (J := J) hM wf h0 (A.1 0 0) 1048576 I D q (Nat.le_refl _) (by omega) hD hw
  have e0 : fb_m_nextPairs 70 (s, I, J, R) = (if (nI t' - 1) < 0 then some (0, (s, I', J, R)) else (tb_gN 22 26 70 (s, I', J, R)).bind fun p9 => (tb_gN 22 26 70 (s, I', J, R)).bind fun p10 => (tb_lI [1, 9] p10 (nI t' - 1) (s, I', J, R)).bind fun x11 => (if x11 < 0 then (tb_gN 22 20 70 (s, I', J, R)).bind fun p12 => (tb_lI [1, 9] p12 1 (s, I', J, R)).bind fun x13 => (tb_tI p9 (nI t' - 1) x13 (s, I', J, R)).bind fun w14 => some (1, w14) else (tb_gN 22 26 70 (s, I', J, R)).bind fun p15 => (tb_lI [1, 9] p15 (nI t' - 1) (s, I', J, R)).bind fun x16 => (tb_tI p9 (nI t' - 1) (x16 + 1) (s, I', J, R)).bind fun w17 => some (1, w17))) := by
    unfold fb_m_nextPairs
    simp only [pu_gN (pu_m70 hM), pu_r20 hM, Option.bind_some, pu_cell' hM (show (1 : Int32) = nI 1 from rfl) (show 1 < 149 by omega), q.1.2.1, a1]
  cases t' with
  | zero =>
    left
    refine ⟨I', ?_, pu_vs_full _ 0 (fun k h1 h2 => a4 k (by omega) (by omega)), a6⟩
    rw [e0, if_pos (by decide)]
  | succ j =>
    right
    have hj := a3 (by omega)
    rw [Nat.add_sub_cancel] at hj
    have ej : I' 83 j = pu_co (A.1 0 0) (D j) := by rw [a5 j (by omega), if_neg (by omega)]
    have e80 : I' 80 1 = nI (A.1 0 0) := by rw [a6 80 (by decide)]; exact q.1.2.1
    refine ⟨tb_up2 I' 83 j (pu_co (A.1 0 0) (D j + 1)), pu_nx (A.1 0 0) j D, ?_, pu_nx_le hD hj, fun k hk => ?_, pu_nx_vs (by omega) (fun k h1 h2 => a4 k (by omega) h2), fun z hz => by rw [pu_u2p _ _ _ _ hz, a6 z hz]⟩
    · rw [e0, nI_pred]
      simp only [pu_lt0 (show j < 2147483648 by omega), ↓reduceIte, pu_gN (pu_m70 hM), pu_r26 hM, pu_r20 hM, Option.bind_some, pu_lI (pu_m83 hM) (show j < 5 by omega) (show 5 ≤ 100000 by omega), ej, pu_cell' hM (show (1 : Int32) = nI 1 from rfl) (show 1 < 149 by omega), e80, pu_tI (pu_m83 hM) (show j < 5 by omega) (show 5 ≤ 100000 by omega)]
      by_cases hz : D j = 0
      · rw [show pu_co (A.1 0 0) (D j) = -1 by unfold pu_co; rw [if_pos hz], if_pos (by decide), hz]
        rfl
      · have e1 : pu_co (A.1 0 0) (D j) = nI (A.1 0 0 + (D j - 1)) := by unfold pu_co; rw [if_neg hz]
        have e2 : pu_co (A.1 0 0) (D j + 1) = nI (A.1 0 0 + (D j - 1) + 1) := by unfold pu_co; rw [if_neg (by omega)]; congr 1; omega
        rw [e1, if_neg (pu_lt0 (by omega)), e2, pu_R1]
    · rw [pu_u2i]
      unfold pu_nx
      by_cases hk2 : k = j
      · rw [if_pos hk2, if_pos hk2]
      · rw [if_neg hk2, if_neg hk2, a5 k hk]
        by_cases h3 : j + 1 ≤ k ∧ k < A.1 0 0
        · rw [if_pos h3, if_pos (by omega)]
        · rw [if_neg h3, if_neg (by omega)]
theorem pu_m_copyBest_l (hM : pu_M s R) (m : Int32) : ∀ d i n (I : Nat → Nat → Int32), i + d = 5 → d < n → ∃ I', fl_m_findsPairs_33 n 70 m (nI i) (s, I, J, R) = some (70, m, (s, I', J, R)) ∧ (∀ k, k < 5 → I' 84 k = if i ≤ k then I 83 k else I 84 k) ∧ (∀ q, q ≠ 84 → I' q = I q) := by
  intro d
  induction d with
  | zero =>
    intro i n I hi hn
    obtain ⟨n, rfl⟩ : ∃ z, n = z + 1 := ⟨n - 1, by omega⟩
    rw [fl_m_findsPairs_33.eq_2]
    simp only [show (5 : Int32) = nI 5 from rfl, pu_ltI (show i < 2147483648 by omega) (show 5 < 2147483648 by omega), show ¬ i < 5 by omega, ↓reduceIte]
    exact ⟨I, rfl, fun k hk => by rw [if_neg (by omega)], fun _ _ => rfl⟩
  | succ d ih =>
    intro i n I hi hn
    obtain ⟨n, rfl⟩ : ∃ z, n = z + 1 := ⟨n - 1, by omega⟩
    rw [fl_m_findsPairs_33.eq_2]
    simp only [show (5 : Int32) = nI 5 from rfl, pu_ltI (show i < 2147483648 by omega) (show 5 < 2147483648 by omega), show i < 5 by omega, ↓reduceIte, pu_gN (pu_m70 hM), pu_r26 hM, pu_r27 hM, Option.bind_some, pu_lI (pu_m83 hM) (show i < 5 by omega) (show 5 ≤ 100000 by omega), pu_tI (pu_m84 hM) (show i < 5 by omega) (show 5 ≤ 100000 by omega)]
    rw [← nI_succ]
    obtain ⟨I', a1, a2, a3⟩ := ih (i + 1) n (tb_up2 I 84 i (I 83 i)) (by omega) (by omega)
    refine ⟨I', a1, fun k hk => ?_, fun z hz => by rw [a3 z hz, pu_u2p _ _ _ _ hz]⟩
    rw [a2 k hk, pu_u2p _ _ _ _ (show (83 : Nat) ≠ 84 by decide), pu_u2i]
    by_cases h1 : i + 1 ≤ k
    · rw [if_pos h1, if_pos (by omega)]
    · rw [if_neg h1]
      by_cases h2 : k = i
      · rw [if_pos h2, if_pos (by omega), h2]
      · rw [if_neg h2, if_neg (by omega)]
theorem pu_m_clearPairs_l (hM : pu_M s R) : ∀ d i n (I : Nat → Nat → Int32), i + d = 5 → d < n → ∃ I', fl_m_findsPairs_4 n 70 0 (nI i) (s, I, J, R) = some (70, 0, (s, I', J, R)) ∧ (∀ k, k < 5 → I' 83 k = (if i ≤ k then -1 else I 83 k) ∧ I' 84 k = (if i ≤ k then -1 else I 84 k)) ∧ (∀ q, q ≠ 83 → q ≠ 84 → I' q = I q) := by
  intro d
  induction d with
  | zero =>
    intro i n I hi hn
    obtain ⟨n, rfl⟩ : ∃ z, n = z + 1 := ⟨n - 1, by omega⟩
    rw [fl_m_findsPairs_4.eq_2]
    simp only [show (5 : Int32) = nI 5 from rfl, pu_ltI (show i < 2147483648 by omega) (show 5 < 2147483648 by omega), show ¬ i < 5 by omega, ↓reduceIte]
    exact ⟨I, rfl, fun k hk => by rw [if_neg (by omega), if_neg (by omega)]; exact ⟨rfl, rfl⟩, fun _ _ _ => rfl⟩
  | succ d ih =>
    intro i n I hi hn
    obtain ⟨n, rfl⟩ : ∃ z, n = z + 1 := ⟨n - 1, by omega⟩
    rw [fl_m_findsPairs_4.eq_2]
    simp only [show (5 : Int32) = nI 5 from rfl, pu_ltI (show i < 2147483648 by omega) (show 5 < 2147483648 by omega), show i < 5 by omega, ↓reduceIte, pu_gN (pu_m70 hM), pu_r26 hM, pu_r27 hM, Option.bind_some, pu_tI (pu_m83 hM) (show i < 5 by omega) (show 5 ≤ 100000 by omega), pu_tI (pu_m84 hM) (show i < 5 by omega) (show 5 ≤ 100000 by omega)]
    rw [← nI_succ]
    obtain ⟨I', a1, a2, a3⟩ := ih (i + 1) n (tb_up2 (tb_up2 I 83 i (-1)) 84 i (-1)) (by omega) (by omega)
    refine ⟨I', a1, fun k hk => ?_, fun z hz hz2 => by rw [a3 z hz hz2, pu_u2p _ _ _ _ hz2, pu_u2p _ _ _ _ hz]⟩
    obtain ⟨b1, b2⟩ := a2 k hk
    rw [b1, b2, pu_u2p _ _ _ _ (show (83 : Nat) ≠ 84 by decide), pu_u2i, pu_u2i, pu_u2p _ _ _ _ (show (84 : Nat) ≠ 83 by decide)]
    by_cases h1 : i + 1 ≤ k
    · rw [if_pos h1, if_pos (show i ≤ k by omega)]; exact ⟨rfl, if_pos h1 |>.trans (if_pos (show i ≤ k by omega)).symm⟩
    · rw [if_neg h1, if_neg h1]
      by_cases h2 : k = i
      · rw [if_pos h2, if_pos (show i ≤ k by omega), if_pos h2, if_pos (show i ≤ k by omega)]; exact ⟨rfl, rfl⟩
      · rw [if_neg h2, if_neg (show ¬ i ≤ k by omega), if_neg h2, if_neg (show ¬ i ≤ k by omega)]; exact ⟨rfl, rfl⟩
/-- through all choices: the first of those with the most pairs stays -/
theorem pu_m_findsPairs_l (hM : pu_M s R) (wf : pu_wf A) (h0 : 0 < A.1 0 0) : ∀ r n (I : Nat → Nat → Int32) (D B : Nat → Nat) (m : Nat), pu_Q (I 80) A → pu_vs (A.1 0 0) D (A.1 0 0) 0 + 1 + r = (A.1 0 0 + 1) ^ A.1 0 0 → r < n → (∀ k, D k ≤ A.1 0 0) → (∀ k, B k ≤ A.1 0 0) → (∀ k, k < 5 → I 83 k = pu_co (A.1 0 0) (D k)) → (∀ k, k < 5 → I 84 k = pu_co (A.1 0 0) (B k)) → pu_mn (pu_jd A) B (A.1 0 0) 0 (fun _ => true) = some m → pu_vs (A.1 0 0) B (A.1 0 0) 0 ≤ pu_vs (A.1 0 0) D (A.1 0 0) 0 →
    (∀ E : Nat → Nat, (∀ k, E k ≤ A.1 0 0) → pu_vs (A.1 0 0) E (A.1 0 0) 0 ≤ pu_vs (A.1 0 0) D (A.1 0 0) 0 → ∀ m', pu_mn (pu_jd A) E (A.1 0 0) 0 (fun _ => true) = some m' → m' ≤ m ∧ (pu_vs (A.1 0 0) E (A.1 0 0) 0 < pu_vs (A.1 0 0) B (A.1 0 0) 0 → m' < m)) →
    ∃ I' B' m', fl_m_findsPairs_19 n 70 (nI m) (s, I, J, R) = some (nI m', (s, I', J, R)) ∧ (∀ k, k < 5 → I' 84 k = pu_co (A.1 0 0) (B' k)) ∧ (∀ k, B' k ≤ A.1 0 0) ∧ pu_mn (pu_jd A) B' (A.1 0 0) 0 (fun _ => true) = some m' ∧ (∀ E : Nat → Nat, (∀ k, E k ≤ A.1 0 0) → ∀ m2, pu_mn (pu_jd A) E (A.1 0 0) 0 (fun _ => true) = some m2 → m2 ≤ m' ∧ (pu_vs (A.1 0 0) E (A.1 0 0) 0 < pu_vs (A.1 0 0) B' (A.1 0 0) 0 → m2 < m')) ∧ (∀ q, q ≠ 83 → q ≠ 84 → I' q = I q) := by
  have h5 := wf.1
  intro r
  induction r with
  | zero =>
    intro n I D B m q hr hn hD hB hw hb hc hle hall
    obtain ⟨n, rfl⟩ : ∃ z, n = z + 1 := ⟨n - 1, by omega⟩
    rw [fl_m_findsPairs_19.eq_2]
    rcases pu_m_nextPairs (J := J) hM q wf h0 hD hw with ⟨I', a1, a2, a3⟩ | ⟨I', E, a1, a2, a3, a4, a5⟩
    · simp only [pu_on (pu_m70 hM), a1, Option.bind_some, ↓reduceIte]
      refine ⟨I', B, m, rfl, fun k hk => by rw [a3 84 (by decide)]; exact hb k hk, hB, hc, fun E hE m2 h2 => ?_, fun z h1 _ => a3 z h1⟩
      have := pu_vs_lt hE (A.1 0 0) 0
      exact hall E hE (by omega) m2 h2
    · have := pu_vs_lt a2 (A.1 0 0) 0
      omega
  | succ r ih =>
    intro n I D B m q hr hn hD hB hw hb hc hle hall
    obtain ⟨n, rfl⟩ : ∃ z, n = z + 1 := ⟨n - 1, by omega⟩
    rw [fl_m_findsPairs_19.eq_2]
    rcases pu_m_nextPairs (J := J) hM q wf h0 hD hw with ⟨I', a1, a2, a3⟩ | ⟨I1, E, a1, a2, a3, a4, a5⟩
    · omega
    · have q1 : pu_Q (I1 80) A := by rw [a5 80 (by decide)]; exact q
      have hm5 : m ≤ 5 := by
        have := pu_mn_le hB _ _ _ _ hc
        have := pu_dp_le (pu_jd A) (A.1 0 0) (A.1 0 0) 0 (fun _ => true)
        omega
      -- those at the place of E are E
      have same : ∀ E' : Nat → Nat, (∀ k, E' k ≤ A.1 0 0) → pu_vs (A.1 0 0) E' (A.1 0 0) 0 = pu_vs (A.1 0 0) E (A.1 0 0) 0 → pu_mn (pu_jd A) E' (A.1 0 0) 0 (fun _ => true) = pu_mn (pu_jd A) E (A.1 0 0) 0 (fun _ => true) := fun E' h1 h2 => pu_mn_cong _ _ _ (fun k hk hk2 => pu_vs_inj h1 a2 _ _ h2 k hk hk2)
      simp only [pu_on (pu_m70 hM), a1, Option.bind_some, show ¬ ((1 : Int32) = 0) by decide, ↓reduceIte, pu_m_pairsNow hM q1 wf a2 a3]
      -- not more
      have keep : (∀ m1, pu_mn (pu_jd A) E (A.1 0 0) 0 (fun _ => true) = some m1 → m1 ≤ m) → ∃ I' B' m', fl_m_findsPairs_19 n 70 (nI m) (s, I1, J, R) = some (nI m', (s, I', J, R)) ∧ (∀ k, k < 5 → I' 84 k = pu_co (A.1 0 0) (B' k)) ∧ (∀ k, B' k ≤ A.1 0 0) ∧ pu_mn (pu_jd A) B' (A.1 0 0) 0 (fun _ => true) = some m' ∧ (∀ E : Nat → Nat, (∀ k, E k ≤ A.1 0 0) → ∀ m2, pu_mn (pu_jd A) E (A.1 0 0) 0 (fun _ => true) = some m2 → m2 ≤ m' ∧ (pu_vs (A.1 0 0) E (A.1 0 0) 0 < pu_vs (A.1 0 0) B' (A.1 0 0) 0 → m2 < m')) ∧ (∀ q, q ≠ 83 → q ≠ 84 → I' q = I q) := by
        intro hk
        obtain ⟨I', B', m', b1, b2, b3, b4, b5, b6⟩ := ih n I1 E B m q1 (by omega) (by omega) a2 hB a3 (fun k hk => by rw [a5 84 (by decide)]; exact hb k hk) hc (by omega) (fun E' h1 h2 m' h3 => by
          by_cases h4 : pu_vs (A.1 0 0) E' (A.1 0 0) 0 = pu_vs (A.1 0 0) E (A.1 0 0) 0
          · rw [same E' h1 h4] at h3
            exact ⟨hk m' h3, fun h => by omega⟩
          · exact hall E' h1 (by omega) m' h3)
        exact ⟨I', B', m', b1, b2, b3, b4, b5, fun z h1 h2 => by rw [b6 z h1 h2, a5 z h1]⟩
      cases hE : pu_mn (pu_jd A) E (A.1 0 0) 0 (fun _ => true) with
      | none =>
        have : ((-1 : Int32) ≤ nI m) := by
          rcases Int32.le_total (-1) (nI m) with h | h
          · exact h
          · have h2 : nI m < 0 := Int32.lt_of_le_of_lt h (by decide)
            exact absurd h2 (pu_lt0 (by omega))
        simp only [this, ↓reduceIte]
        exact keep (fun m1 h => by rw [hE] at h; cases h)
      | some m1 =>
        have hm1 : m1 ≤ 5 := by
          have := pu_mn_le a2 _ _ _ _ hE
          have := pu_dp_le (pu_jd A) (A.1 0 0) (A.1 0 0) 0 (fun _ => true)
          omega
        simp only [pu_leI (show m1 < 2147483648 by omega) (show m < 2147483648 by omega)]
        by_cases hmm : m1 ≤ m
        · simp only [hmm, ↓reduceIte]
          exact keep (fun m2 h => by rw [hE] at h; cases h; exact hmm)
        · obtain ⟨I2, c1, c2, c3⟩ := pu_m_copyBest_l (J := J) hM (nI m1) 5 0 1048576 I1 (by omega) (by omega)
          rw [show nI 0 = 0 from rfl] at c1
          simp only [hmm, ↓reduceIte, c1, Option.bind_some]
          obtain ⟨I', B', m', b1, b2, b3, b4, b5, b6⟩ := ih n I2 E E m1 (by rw [c3 80 (by decide)]; exact q1) (by omega) (by omega) a2 a2 (fun k hk => by rw [c3 83 (by decide)]; exact a3 k hk) (fun k hk => by rw [c2 k hk, if_pos (Nat.zero_le _)]; exact a3 k hk) hE (Nat.le_refl _) (fun E' h1 h2 m' h3 => by
            by_cases h4 : pu_vs (A.1 0 0) E' (A.1 0 0) 0 = pu_vs (A.1 0 0) E (A.1 0 0) 0
            · rw [same E' h1 h4, hE] at h3
              cases h3
              exact ⟨Nat.le_refl _, fun h => by omega⟩
            · have := hall E' h1 (by omega) m' h3
              exact ⟨by omega, fun _ => by omega⟩)
          exact ⟨I', B', m', b1, b2, b3, b4, b5, fun z h1 h2 => by rw [b6 z h1 h2, c3 z h2, a5 z h1]⟩
/-- what marry(a) answers -/
def pu_a_marry (A : pu_A) (a : Int32) : Int32 := if A.1 0 0 = 0 then -3 else if pu_wi a (-1) 4 = false then -3 else if a = -1 then nI (pu_dp (pu_jd A) (A.1 0 0) (A.1 0 0) 0 (fun _ => true)) else if a < nI (A.1 0 0) then pu_co (A.1 0 0) (pu_gd (pu_jd A) (A.1 0 0) (A.1 0 0) 0 (fun _ => true) a.toNatClampNeg) else -2
theorem pu_pw : ∀ n, n ≤ 5 → (n + 1) ^ n ≤ 7776 := by decide
theorem pu_m_findsPairs {I : Nat → Nat → Int32} (hM : pu_M s R) (q : pu_Q (I 80) A) (wf : pu_wf A) (h0 : 0 < A.1 0 0) : ∃ I', fb_m_findsPairs 70 (s, I, J, R) = some (nI (pu_dp (pu_jd A) (A.1 0 0) (A.1 0 0) 0 (fun _ => true)), (s, I', J, R)) ∧ (∀ k, k < A.1 0 0 → I' 84 k = pu_co (A.1 0 0) (pu_gd (pu_jd A) (A.1 0 0) (A.1 0 0) 0 (fun _ => true) k)) ∧ (∀ q, q ≠ 83 → q ≠ 84 → I' q = I q) := by
  have h5 := wf.1
  have hpw := pu_pw (A.1 0 0) h5
  obtain ⟨I1, a1, a2, a3⟩ := pu_m_clearPairs_l (J := J) hM 5 0 1048576 I (by omega) (by omega)
  rw [show nI 0 = 0 from rfl] at a1
  have z0 : pu_vs (A.1 0 0) (fun _ => 0) (A.1 0 0) 0 = 0 := pu_vs_zero _ _ (fun _ _ _ => rfl)
  have hp1 : 0 < (A.1 0 0 + 1) ^ A.1 0 0 := Nat.pow_pos (by omega)
  have c0 : ∀ d i, pu_mn (pu_jd A) (fun _ => 0) d i (fun _ => true) = some 0 := by
    intro d
    induction d with
    | zero => intro i; rfl
    | succ d ih => intro i; unfold pu_mn; rw [if_pos rfl]; exact ih _
  obtain ⟨I2, B, m, b1, b2, b3, b4, b5, b6⟩ := pu_m_findsPairs_l (J := J) hM wf h0 ((A.1 0 0 + 1) ^ A.1 0 0 - 1) 1048576 I1 (fun _ => 0) (fun _ => 0) 0 (by rw [a3 80 (by decide) (by decide)]; exact q) (by rw [z0]; omega) (by omega) (fun _ => Nat.zero_le _) (fun _ => Nat.zero_le _) (fun k hk => by rw [(a2 k hk).1, if_pos (Nat.zero_le _)]; rfl) (fun k hk => by rw [(a2 k hk).2, if_pos (Nat.zero_le _)]; rfl) (c0 _ _) (Nat.le_refl _) (fun E hE h1 m' h2 => by
    rw [z0] at h1 ⊢
    have e0 : ∀ k, 0 ≤ k → k < 0 + A.1 0 0 → E k = (fun _ => 0) k := pu_vs_inj hE (fun _ => Nat.zero_le _) (A.1 0 0) 0 (by rw [z0]; omega)
    rw [pu_mn_cong _ _ _ e0, c0] at h2
    cases h2
    exact ⟨Nat.le_refl _, fun h => absurd h (Nat.not_lt_zero _)⟩)
  obtain ⟨e1, e2⟩ := pu_first b3 b4 b5
  refine ⟨I2, ?_, fun k hk => by rw [b2 k (by omega), e2 k hk], fun z h1 h2 => by rw [b6 z h1 h2, a3 z h1 h2]⟩
  rw [show nI 0 = 0 from rfl] at b1
  unfold fb_m_findsPairs
  simp only [a1, Option.bind_some, b1, e1]
theorem pu_m_marry {I : Nat → Nat → Int32} (hM : pu_M s R) (q : pu_Q (I 80) A) (wf : pu_wf A) (a : Int32) : ∃ I' J', fb_m_marry 70 a (s, I, J, R) = some (pu_a_marry A a, (s, I', J', R)) ∧ pu_Zf I I' J J' := by
  have h5 := wf.1
  unfold fb_m_marry pu_a_marry
  simp only [pu_on (pu_m70 hM), pu_m_isStreet hM q, Option.bind_some, pu_b0, decide_eq_false_iff_not]
  by_cases h0 : A.1 0 0 = 0
  · simp only [h0, Nat.lt_irrefl, not_false_eq_true, ↓reduceIte]
    exact ⟨I, J, rfl, pu_Zf.rf⟩
  · simp only [show 0 < A.1 0 0 by omega, not_true, ↓reduceIte, h0, pu_m_in a (-1) 4 (show (-1 : Int64) = (-1 : Int32).toInt64 from rfl) (show (4 : Int64) = (4 : Int32).toInt64 from rfl), Option.bind_some, pu_b0]
    cases hw : pu_wi a (-1) 4
    · simp only [↓reduceIte]
      exact ⟨I, J, rfl, pu_Zf.rf⟩
    · obtain ⟨I1, a1, a2, a3⟩ := pu_m_findsPairs (J := J) hM q wf (show 0 < A.1 0 0 by omega)
      have fr : pu_Zf I I1 J J := ⟨fun z h1 h2 => a3 z (by omega) (by omega), fun k _ => by rw [a3 70 (by decide) (by decide)], fun _ _ _ _ => rfl⟩
      have e1 : I1 80 1 = nI (A.1 0 0) := by rw [a3 80 (by decide) (by decide)]; exact q.1.2.1
      simp only [Bool.true_eq_false, ↓reduceIte, pu_on (pu_m70 hM), a1, Option.bind_some, pu_gN (pu_m70 hM), pu_r20 hM, pu_r27 hM, pu_cell' hM (show (1 : Int32) = nI 1 from rfl) (show 1 < 149 by omega), e1]
      by_cases ha : a = -1
      · simp only [ha, ↓reduceIte]
        exact ⟨I1, J, rfl, fr⟩
      · simp only [ha, ↓reduceIte]
        by_cases hl : a < nI (A.1 0 0)
        · have hn : ¬ a < 0 := by
            unfold pu_wi at hw
            rw [Bool.and_eq_true, Bool.not_eq_true', decide_eq_false_iff_not] at hw
            intro hneg
            have h1 : a.toInt < 0 := Int32.lt_iff_toInt_lt.mp hneg
            have h2 : ¬ a.toInt < (-1 : Int32).toInt := fun h => hw.1 (Int32.lt_iff_toInt_lt.mpr h)
            rw [show (-1 : Int32).toInt = -1 from rfl] at h2
            exact ha (Int32.toInt_inj.mp (by rw [show (-1 : Int32).toInt = -1 from rfl]; omega))
          obtain ⟨k, hk, rfl⟩ := nI_of hn
          have hk : k < 2147483648 := by omega
          rw [pu_ltI hk (by omega)] at hl
          simp only [pu_ltI hk (show A.1 0 0 < 2147483648 by omega), hl, ↓reduceIte, pu_lI (pu_m84 hM) (show k < 5 by omega) (show 5 ≤ 100000 by omega), Option.bind_some, a2 k hl, pu_cl hk]
          exact ⟨I1, J, rfl, fr⟩
        · simp only [hl, ↓reduceIte]
          exact ⟨I1, J, rfl, fr⟩
end PUz
