/-! ===== The class's Street: sums, copies, hands ===== -/
def pu_ff (f : Nat → Bool) : Nat → Nat → Nat
  | 0, i => i
  | n + 1, i => if f i then i else pu_ff f n (i + 1)
theorem pu_ff_le (f : Nat → Bool) : ∀ n i, pu_ff f n i ≤ i + n
  | 0, i => by unfold pu_ff; omega
  | n + 1, i => by
    unfold pu_ff
    split
    · omega
    · have := pu_ff_le f n (i + 1); omega
theorem pu_ff_ge (f : Nat → Bool) : ∀ n i, i ≤ pu_ff f n i
  | 0, i => by unfold pu_ff; omega
  | n + 1, i => by
    unfold pu_ff
    split
    · omega
    · have := pu_ff_ge f n (i + 1); omega
theorem pu_ff_yes (f : Nat → Bool) : ∀ n i, pu_ff f n i < i + n → f (pu_ff f n i) = true
  | 0, i, h => by unfold pu_ff at h; omega
  | n + 1, i, h => by
    unfold pu_ff at h ⊢
    split
    · rename_i hf; exact hf
    · rename_i hf
      rw [if_neg hf] at h
      exact pu_ff_yes f n (i + 1) (by omega)
theorem pu_ff_no (f : Nat → Bool) : ∀ n i k, i ≤ k → k < pu_ff f n i → f k = false
  | 0, i, k, h1, h2 => by unfold pu_ff at h2; omega
  | n + 1, i, k, h1, h2 => by
    unfold pu_ff at h2
    split at h2
    · omega
    · rename_i hf
      by_cases e : k = i
      · subst e; exact Bool.eq_false_iff.mpr hf
      · exact pu_ff_no f n (i + 1) k (by omega) h2
def pu_n (A : pu_A) (r k m : Nat) : pu_A := (tb_up2 A.1 r k m, A.2)
def pu_allPull (A : pu_A) : Nat := pu_sm (fun l => if A.2 0 l then A.1 5 l else 0) (A.1 0 3)
def pu_allLean (A : pu_A) : Nat := pu_sm (fun h => if A.2 1 h then A.1 1 h else 0) (2 * A.1 0 0)
section PUY
variable {s : List (Nat × Nat)} {J : Nat → Nat → Int64} {R : Nat → Nat → Option Nat} {p : Nat}
theorem pu_s_allPull_l {I : Nat → Nat → Int32} {A : pu_A} (h : pu_St s R p) (v : pu_V I p A) (wf : pu_wf A) : ∀ d i n, i + d = A.1 0 3 → d < n →
    fl_s_allPull_4 n p (nI (pu_sm (fun l => if A.2 0 l then A.1 5 l else 0) i)) (nI i) (s, I, J, R) = some (nI (pu_allPull A), (s, I, J, R)) := by
  intro d
  have h5 := wf.2.2.1
  induction d with
  | zero =>
    intro i n hi hn
    obtain ⟨n, rfl⟩ : ∃ z, n = z + 1 := ⟨n - 1, by omega⟩
    unfold fl_s_allPull_4
    simp only [pu_gI h.1, Option.bind_some, v.1.2.2.2.1, pu_ltI (show i < 2147483648 by omega) (show A.1 0 3 < 2147483648 by omega), show ¬ i < A.1 0 3 by omega, ↓reduceIte]
    rw [show i = A.1 0 3 by omega]
    rfl
  | succ d ih =>
    intro i n hi hn
    obtain ⟨n, rfl⟩ : ∃ z, n = z + 1 := ⟨n - 1, by omega⟩
    have hil : i < A.1 0 3 := by omega
    have hih := ih (i + 1) n (by omega) (by omega)
    rw [nI_succ, pu_sm_s] at hih
    unfold fl_s_allPull_4
    simp only [pu_gI h.1, Option.bind_some, v.1.2.2.2.1, pu_ltI (show i < 2147483648 by omega) (show A.1 0 3 < 2147483648 by omega), hil, ↓reduceIte, pu_on h.1, pu_s_isUp h v wf (show i < 2147483648 by omega), pu_b0, pu_gN h.1, h.2.2.2.2.2.2.1, pu_lI h.2.1.2.2.2.2.1 (show i < 8 by omega) (show 8 ≤ 100000 by omega)]
    cases hu : A.2 0 i
    · simp only [hu, Bool.false_eq_true, ↓reduceIte, Nat.add_zero] at hih ⊢
      exact hih
    · simp only [hu, Bool.true_eq_false, ↓reduceIte] at hih ⊢
      rw [(v.2.2 i hil).2.2 hu, nI_add]
      exact hih
theorem pu_s_allPull {I : Nat → Nat → Int32} {A : pu_A} (h : pu_St s R p) (v : pu_V I p A) (wf : pu_wf A) : fb_s_allPull p (s, I, J, R) = some (nI (pu_allPull A), (s, I, J, R)) := by
  have h5 := wf.2.2.1
  unfold fb_s_allPull
  have e := pu_s_allPull_l (J := J) h v wf (A.1 0 3) 0 1048576 (by omega) (by omega)
  rw [show nI (pu_sm (fun l => if A.2 0 l then A.1 5 l else 0) 0) = 0 from rfl, show nI 0 = 0 from rfl] at e
  rw [e]
  rfl
theorem pu_s_allLean_l {I : Nat → Nat → Int32} {A : pu_A} (h : pu_St s R p) (v : pu_V I p A) (wf : pu_wf A) : ∀ d i n, i + d = 2 * A.1 0 0 → d < n →
    fl_s_allLean_4 n p (nI (pu_sm (fun h => if A.2 1 h then A.1 1 h else 0) i)) (nI i) (s, I, J, R) = some (nI (pu_allLean A), (s, I, J, R)) := by
  intro d
  have h5 := wf.1
  induction d with
  | zero =>
    intro i n hi hn
    obtain ⟨n, rfl⟩ : ∃ z, n = z + 1 := ⟨n - 1, by omega⟩
    unfold fl_s_allLean_4
    simp only [pu_on h.1, pu_s_houses h v, Option.bind_some, pu_ltI (show i < 2147483648 by omega) (show 2 * A.1 0 0 < 2147483648 by omega), show ¬ i < 2 * A.1 0 0 by omega, ↓reduceIte]
    rw [show i = 2 * A.1 0 0 by omega]
    rfl
  | succ d ih =>
    intro i n hi hn
    obtain ⟨n, rfl⟩ : ∃ z, n = z + 1 := ⟨n - 1, by omega⟩
    have hil : i < 2 * A.1 0 0 := by omega
    have hih := ih (i + 1) n (by omega) (by omega)
    rw [nI_succ, pu_sm_s] at hih
    unfold fl_s_allLean_4
    simp only [pu_on h.1, pu_s_houses h v, Option.bind_some, pu_ltI (show i < 2147483648 by omega) (show 2 * A.1 0 0 < 2147483648 by omega), hil, ↓reduceIte, pu_s_stands h v wf (show i < 2147483648 by omega), pu_b0, pu_gN h.1, h.2.2.1, pu_lI h.2.1.1 (show i < 10 by omega) (show 10 ≤ 100000 by omega), (v.2.1 i (by omega)).1]
    cases hu : A.2 1 i
    · simp only [hu, Bool.false_eq_true, ↓reduceIte, Nat.add_zero] at hih ⊢
      exact hih
    · simp only [hu, Bool.true_eq_false, ↓reduceIte] at hih ⊢
      rw [nI_add]
      exact hih
theorem pu_s_allLean {I : Nat → Nat → Int32} {A : pu_A} (h : pu_St s R p) (v : pu_V I p A) (wf : pu_wf A) : fb_s_allLean p (s, I, J, R) = some (nI (pu_allLean A), (s, I, J, R)) := by
  have h5 := wf.1
  unfold fb_s_allLean
  have e := pu_s_allLean_l (J := J) h v wf (2 * A.1 0 0) 0 1048576 (by omega) (by omega)
  rw [show nI (pu_sm (fun h => if A.2 1 h then A.1 1 h else 0) 0) = 0 from rfl, show nI 0 = 0 from rfl] at e
  rw [e]
  rfl
theorem pu_s_leastNotUp_l {I : Nat → Nat → Int32} {A : pu_A} (h : pu_St s R p) (v : pu_V I p A) : ∀ d i n, i + d = 8 → d < n →
    fl_s_leastNotUp_2 n p (nI i) (s, I, J, R) = some (if pu_ff (fun l => !A.2 0 l) d i < 8 then nI (pu_ff (fun l => !A.2 0 l) d i) else -1, (s, I, J, R)) := by
  intro d
  induction d with
  | zero =>
    intro i n hi hn
    obtain ⟨n, rfl⟩ : ∃ z, n = z + 1 := ⟨n - 1, by omega⟩
    unfold fl_s_leastNotUp_2 pu_ff
    simp only [show (8 : Int32) = nI 8 from rfl, pu_ltI (show i < 2147483648 by omega) (show 8 < 2147483648 by omega), show ¬ i < 8 by omega, ↓reduceIte, fj_s_leastNotUp_j16]
  | succ d ih =>
    intro i n hi hn
    obtain ⟨n, rfl⟩ : ∃ z, n = z + 1 := ⟨n - 1, by omega⟩
    have hih := ih (i + 1) n (by omega) (by omega)
    rw [nI_succ] at hih
    unfold fl_s_leastNotUp_2 pu_ff
    simp only [show (8 : Int32) = nI 8 from rfl, pu_ltI (show i < 2147483648 by omega) (show 8 < 2147483648 by omega), show i < 8 by omega, ↓reduceIte, pu_gI h.1, Option.bind_some, pu_sh (I p 4) (show i < 32 by omega), pu_upbt v (show i < 8 by omega), pu_b0, fj_s_leastNotUp_j12]
    cases hu : A.2 0 i
    · simp only [Bool.not_false, ↓reduceIte, show i < 8 by omega]
    · simp only [Bool.true_eq_false, Bool.not_true, Bool.false_eq_true, ↓reduceIte]
      exact hih
def pu_lnu (A : pu_A) : Nat := pu_ff (fun l => !A.2 0 l) 8 0
theorem pu_s_leastNotUp {I : Nat → Nat → Int32} {A : pu_A} (h : pu_St s R p) (v : pu_V I p A) : fb_s_leastNotUp p (s, I, J, R) = some (if pu_lnu A < 8 then nI (pu_lnu A) else -1, (s, I, J, R)) := by
  unfold fb_s_leastNotUp
  have e := pu_s_leastNotUp_l (J := J) h v 8 0 1048576 (by omega) (by omega)
  rw [show nI 0 = 0 from rfl] at e
  rw [e]
  rfl
theorem pu_s_linesAt {I : Nat → Nat → Int32} {A : pu_A} (h : pu_St s R p) (v : pu_V I p A) (wf : pu_wf A) {k : Nat} (hk : k < 2 * A.1 0 0) : fb_s_linesAt p (nI k) (s, I, J, R) = some (pu_mk (fun l => pu_at A l k) 8, (s, I, J, R)) := by
  have h5 := wf.1
  unfold fb_s_linesAt
  simp only [pu_on h.1, pu_s_isHouse h v wf (show k < 2147483648 by omega), Option.bind_some, pu_b0, decide_eq_false_iff_not, hk, not_true, ↓reduceIte]
  rw [pu_mk_1 (show k < 10 by omega) (by omega), pu_s_linesAtAny h v wf]
  rfl
theorem pu_s_holdOf {I : Nat → Nat → Int32} {A : pu_A} (h : pu_St s R p) (v : pu_V I p A) (wf : pu_wf A) {k : Nat} (hk : k < 2 * A.1 0 0) : ∃ I', fb_s_holdOf p (nI k) (s, I, J, R) = some (nI (pu_hold A k), (s, I', J, R)) ∧ (∀ q, q ≠ p + 6 → I' q = I q) := by
  have h5 := wf.1
  obtain ⟨I', e1, e2, e3⟩ := pu_s_weighAll (J := J) h v wf
  have v' : pu_V I' p A := pu_V_eq (fun j hj => e2 _ (by omega)) v
  refine ⟨I', ?_, e2⟩
  unfold fb_s_holdOf
  simp only [pu_on h.1, e1, Option.bind_some, pu_s_isHouse h v' wf (show k < 2147483648 by omega), pu_b0, decide_eq_false_iff_not, hk, not_true, ↓reduceIte, pu_gN h.1, h.2.2.2.2.2.2.2, pu_lI h.2.1.2.2.2.2.2 (show k < 10 by omega) (show 10 ≤ 100000 by omega), e3 k (by omega)]
theorem pu_s_canJoin {I : Nat → Nat → Int32} {A : pu_A} (h : pu_St s R p) (v : pu_V I p A) (wf : pu_wf A) {a b : Nat} (ha : a < 2147483648) (hb : b < 2147483648) : fb_s_canJoin p (nI a) (nI b) (s, I, J, R) = some (pu_b (decide (a < A.1 0 0) && decide (A.1 0 0 ≤ b) && A.2 1 a && A.2 1 b), (s, I, J, R)) := by
  have h5 := wf.1
  unfold fb_s_canJoin
  simp only [pu_gI h.1, Option.bind_some, v.1.1, pu_ltI ha (show A.1 0 0 < 2147483648 by omega), pu_ltI hb (show A.1 0 0 < 2147483648 by omega), pu_on h.1, pu_s_stands h v wf ha, pu_s_stands h v wf hb, pu_b0]
  by_cases h1 : a < A.1 0 0
  · by_cases h2 : b < A.1 0 0
    · simp only [h1, h2, ↓reduceIte, show ¬ A.1 0 0 ≤ b by omega, decide_true, decide_false, Bool.and_false, Bool.false_and, pu_bf]
    · simp only [h1, h2, ↓reduceIte, show A.1 0 0 ≤ b by omega, decide_true, Bool.true_and]
      cases A.2 1 a <;> cases A.2 1 b <;> rfl
  · simp only [h1, ↓reduceIte, decide_false, Bool.false_and, pu_bf]
theorem pu_V_n1 {I : Nat → Nat → Int32} {A : pu_A} (v : pu_V I p A) {k m : Nat} : pu_V (tb_up2 I (p + 1) k (nI m)) p (pu_n A 1 k m) := by
  obtain ⟨⟨a0, a1, a2, a3, a4, a5⟩, b, c⟩ := v
  have q : tb_up2 I (p + 1) k (nI m) p = I p := pu_u2p _ _ _ _ (by omega)
  refine ⟨⟨?_, ?_, ?_, ?_, ?_, ?_⟩, ?_, ?_⟩
  · rw [q]; exact a0
  · rw [q]; exact a1
  · rw [q]; exact a2
  · rw [q]; exact a3
  · rw [q]; exact a4
  · rw [q]; exact a5
  · intro z hz
    rw [pu_u2p _ _ _ _ (show p + 2 ≠ p + 1 by omega)]
    refine ⟨?_, (b z hz).2⟩
    show tb_up2 I (p + 1) k (nI m) (p + 1) z = nI (tb_up2 A.1 1 k m 1 z)
    rw [pu_u2i, pu_u2i]
    split
    · rfl
    · exact (b z hz).1
  · intro l hl
    rw [pu_u2p _ _ _ _ (show p + 3 ≠ p + 1 by omega), pu_u2p _ _ _ _ (show p + 4 ≠ p + 1 by omega), pu_u2p _ _ _ _ (show p + 5 ≠ p + 1 by omega)]
    exact c l hl
theorem pu_V_n2 {I : Nat → Nat → Int32} {A : pu_A} (v : pu_V I p A) {k m : Nat} : pu_V (tb_up2 I (p + 2) k (nI m)) p (pu_n A 2 k m) := by
  obtain ⟨⟨a0, a1, a2, a3, a4, a5⟩, b, c⟩ := v
  have q : tb_up2 I (p + 2) k (nI m) p = I p := pu_u2p _ _ _ _ (by omega)
  refine ⟨⟨?_, ?_, ?_, ?_, ?_, ?_⟩, ?_, ?_⟩
  · rw [q]; exact a0
  · rw [q]; exact a1
  · rw [q]; exact a2
  · rw [q]; exact a3
  · rw [q]; exact a4
  · rw [q]; exact a5
  · intro z hz
    rw [pu_u2p _ _ _ _ (show p + 1 ≠ p + 2 by omega)]
    refine ⟨(b z hz).1, ?_⟩
    show tb_up2 I (p + 2) k (nI m) (p + 2) z = nI (tb_up2 A.1 2 k m 2 z)
    rw [pu_u2i, pu_u2i]
    split
    · rfl
    · exact (b z hz).2
  · intro l hl
    rw [pu_u2p _ _ _ _ (show p + 3 ≠ p + 2 by omega), pu_u2p _ _ _ _ (show p + 4 ≠ p + 2 by omega), pu_u2p _ _ _ _ (show p + 5 ≠ p + 2 by omega)]
    exact c l hl
theorem pu_V_n5 {I : Nat → Nat → Int32} {A : pu_A} (v : pu_V I p A) {k m : Nat} : pu_V (tb_up2 I (p + 5) k (nI m)) p (pu_n A 5 k m) := by
  obtain ⟨⟨a0, a1, a2, a3, a4, a5⟩, b, c⟩ := v
  have q : tb_up2 I (p + 5) k (nI m) p = I p := pu_u2p _ _ _ _ (by omega)
  refine ⟨⟨?_, ?_, ?_, ?_, ?_, ?_⟩, ?_, ?_⟩
  · rw [q]; exact a0
  · rw [q]; exact a1
  · rw [q]; exact a2
  · rw [q]; exact a3
  · rw [q]; exact a4
  · rw [q]; exact a5
  · intro z hz
    rw [pu_u2p _ _ _ _ (show p + 1 ≠ p + 5 by omega), pu_u2p _ _ _ _ (show p + 2 ≠ p + 5 by omega)]
    exact b z hz
  · intro l hl
    rw [pu_u2p _ _ _ _ (show p + 3 ≠ p + 5 by omega), pu_u2p _ _ _ _ (show p + 4 ≠ p + 5 by omega)]
    refine ⟨(c l hl).1, (c l hl).2.1, ?_⟩
    intro hx
    show tb_up2 I (p + 5) k (nI m) (p + 5) l = nI (tb_up2 A.1 5 k m 5 l)
    rw [pu_u2i, pu_u2i]
    split
    · rfl
    · exact (c l hl).2.2 hx
theorem pu_s_setLean {I : Nat → Nat → Int32} {A : pu_A} (h : pu_St s R p) (v : pu_V I p A) (wf : pu_wf A) {k m : Nat} (hk : k < 2 * A.1 0 0) : fb_s_setLean p (nI k) (nI m) (s, I, J, R) = some (s, tb_up2 I (p + 1) k (nI m), J, R) := by
  have h5 := wf.1
  unfold fb_s_setLean
  simp only [pu_on h.1, pu_s_isHouse h v wf (show k < 2147483648 by omega), Option.bind_some, pu_b0, decide_eq_false_iff_not, hk, not_true, ↓reduceIte, pu_gN h.1, h.2.2.1, pu_tI h.2.1.1 (show k < 10 by omega) (show 10 ≤ 100000 by omega)]
theorem pu_s_setFoot {I : Nat → Nat → Int32} {A : pu_A} (h : pu_St s R p) (v : pu_V I p A) (wf : pu_wf A) {k m : Nat} (hk : k < 2 * A.1 0 0) : fb_s_setFoot p (nI k) (nI m) (s, I, J, R) = some (s, tb_up2 I (p + 2) k (nI m), J, R) := by
  have h5 := wf.1
  unfold fb_s_setFoot
  simp only [pu_on h.1, pu_s_isHouse h v wf (show k < 2147483648 by omega), Option.bind_some, pu_b0, decide_eq_false_iff_not, hk, not_true, ↓reduceIte, pu_gN h.1, h.2.2.2.1, pu_tI h.2.1.2.1 (show k < 10 by omega) (show 10 ≤ 100000 by omega)]
theorem pu_s_setPull {I : Nat → Nat → Int32} {A : pu_A} (h : pu_St s R p) (v : pu_V I p A) (wf : pu_wf A) {k m : Nat} (hk : k < A.1 0 3) : fb_s_setPull p (nI k) (nI m) (s, I, J, R) = some (s, tb_up2 I (p + 5) k (nI m), J, R) := by
  have h5 := wf.2.2.1
  unfold fb_s_setPull
  simp only [pu_on h.1, pu_s_isLine h v wf (show k < 2147483648 by omega), Option.bind_some, pu_b0, decide_eq_false_iff_not, hk, not_true, ↓reduceIte, pu_gN h.1, h.2.2.2.2.2.2.1, pu_tI h.2.1.2.2.2.2.1 (show k < 8 by omega) (show 8 ≤ 100000 by omega)]
end PUY
