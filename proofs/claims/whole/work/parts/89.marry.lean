/-! ===== marry: the class's table of pairs ===== -/
theorem pu_bit0 (x : Int32) {e : Nat} (he : e < 32) : (x &&& (1 <<< (nI e &&& 31)) = 0) = (bt x e = false) := by
  apply propext
  constructor
  · intro h
    have h1 : bt (x &&& (1 <<< (nI e &&& 31))) e = bt 0 e := by rw [h]
    rw [b_and, pu_one he he, b_0, decide_eq_true rfl, Bool.and_true] at h1
    exact h1
  · intro h
    apply b_ext
    intro i hi
    rw [b_and, pu_one he hi, b_0]
    by_cases h1 : i = e
    · rw [h1, h]; rfl
    · rw [decide_eq_false h1, Bool.and_false]
theorem pu_shr (f : Nat → Bool) {n : Nat} (hn : n ≤ 10) : pu_mk f 10 >>> (nI n &&& 31) = pu_mk (fun k => f (n + k)) (10 - n) := by
  apply b_ext
  intro i hi
  rw [b_sshr n (by omega) _ hi, pu_mk_bt _ _ (by omega) i hi, pu_mk_bt _ _ (by omega) 31 (by omega)]
  by_cases h1 : n + i < 32
  · rw [if_pos h1, pu_mk_bt _ _ (by omega) _ h1]
    by_cases h2 : i < 10 - n
    · rw [decide_eq_true h2, decide_eq_true (by omega)]
    · rw [decide_eq_false h2, decide_eq_false (by omega), Bool.false_and]
  · rw [if_neg h1, decide_eq_false (show ¬ 31 < 10 by omega), decide_eq_false (by omega)]; rfl
theorem pu_nI_mk {x : Nat} (hx : x < 32) : nI x = pu_mk (fun k => x.testBit k) 5 := by
  apply b_ext
  intro i hi
  rw [pu_bt_nI _ hi, pu_mk_bt _ _ (by omega) i hi]
  by_cases h : i < 5
  · rw [decide_eq_true h, Bool.true_and]
  · rw [decide_eq_false h, Bool.false_and]
    exact Nat.testBit_lt_two_pow (Nat.lt_of_lt_of_le hx (show 2 ^ 5 ≤ 2 ^ i from Nat.pow_le_pow_right (by decide) (by omega)))
/-- a set without one of it, as a number -/
def pu_wx (x e : Nat) : Nat := pu_vl (pu_wo (fun k => x.testBit k) e) 5
theorem pu_wx_lt (x e : Nat) : pu_wx x e < 32 := pu_vl_lt _ 5
theorem pu_wx_nI {x e : Nat} (hx : x < 32) (he : e < 5) : nI x &&& ((1 <<< (nI e &&& 31)) ^^^ (-1)) = nI (pu_wx x e) := by
  rw [pu_nI_mk hx, pu_mk_1 (show e < 5 by omega) (by omega), pu_mk_no _ _ (by omega) (by omega)]
  unfold pu_wx
  rw [← pu_mk_vl _ (by omega)]
  refine pu_mk_cong 5 (fun k hk => ?_)
  unfold pu_wo
  rw [decide_eq_true hk, Bool.true_and]
theorem pu_dp_wx (g : Nat → Nat → Bool) {n : Nat} (hn : n ≤ 5) (d i x e : Nat) : pu_dp g n d i (fun k => (pu_wx x e).testBit k) = pu_dp g n d i (pu_wo (fun k => x.testBit k) e) := pu_dp_cong g n d i _ _ (fun k hk => by unfold pu_wx; rw [pu_vl_bit, decide_eq_true (by omega), Bool.true_and])
theorem pu_nb_jd {A : pu_A} (wf : pu_wf A) {i e : Nat} (hi : i < A.1 0 0) : pu_nb A (pu_o1 i) (A.1 0 0 + e) = pu_jd A i e := by
  have : ∀ l, l ≤ A.1 0 3 → pu_jn A (pu_o1 i) l (A.1 0 0 + e) = pu_ja A i (A.1 0 0 + e) l := by
    intro l
    induction l with
    | zero => intro _; exact decide_eq_false (by omega)
    | succ l ih =>
      intro hl
      have hin := wf.2.2.2.2.2.1 l (by omega)
      rw [pu_jn_s, ih (by omega)]
      show _ = (pu_ja A i (A.1 0 0 + e) l || (A.2 0 l && decide (A.1 3 l = i) && decide (A.1 4 l = A.1 0 0 + e)))
      rw [decide_eq_false (show ¬ A.1 3 l = A.1 0 0 + e by omega), Bool.false_and, Bool.or_false]
      unfold pu_o1
      cases A.2 0 l <;> cases decide (A.1 4 l = A.1 0 0 + e) <;> cases decide (A.1 3 l = i) <;> rfl
  exact this _ (Nat.le_refl _)
section PUA
variable {s : List (Nat × Nat)} {J : Nat → Nat → Int64} {R : Nat → Nat → Option Nat} {A : pu_A}
theorem pu_fill_l {p N : Nat} (h : s[p]? = some (1, N)) (hN : N ≤ 100000) (v : Int32) : ∀ d i n (I : Nat → Nat → Int32), i + d = N → d < n → ∃ I', fl_ar_fill_5 n p v (nI i) (nI N) (s, I, J, R) = some (s, I', J, R) ∧ (∀ k, I' p k = if i ≤ k ∧ k < N then v else I p k) ∧ (∀ q, q ≠ p → I' q = I q) := by
  intro d
  induction d with
  | zero =>
    intro i n I hi hn
    obtain ⟨n, rfl⟩ : ∃ z, n = z + 1 := ⟨n - 1, by omega⟩
    rw [fl_ar_fill_5.eq_2]
    simp only [pu_ltI (show i < 2147483648 by omega) (show N < 2147483648 by omega), show ¬ i < N by omega, ↓reduceIte]
    exact ⟨I, rfl, fun k => by rw [if_neg (by omega)], fun _ _ => rfl⟩
  | succ d ih =>
    intro i n I hi hn
    obtain ⟨n, rfl⟩ : ∃ z, n = z + 1 := ⟨n - 1, by omega⟩
    rw [fl_ar_fill_5.eq_2]
    simp only [pu_ltI (show i < 2147483648 by omega) (show N < 2147483648 by omega), show i < N by omega, ↓reduceIte, pu_tI h (show i < N by omega) hN, Option.bind_some]
    rw [← nI_succ]
    obtain ⟨I', a1, a2, a3⟩ := ih (i + 1) n (tb_up2 I p i v) (by omega) (by omega)
    refine ⟨I', a1, fun k => ?_, fun z hz => by rw [a3 z hz, pu_u2p _ _ _ _ hz]⟩
    rw [a2 k, pu_u2i]
    by_cases h1 : i + 1 ≤ k ∧ k < N
    · rw [if_pos h1, if_pos (by omega)]
    · rw [if_neg h1]
      by_cases h2 : k = i
      · rw [if_pos h2, if_pos (by omega)]
      · rw [if_neg h2, if_neg (by omega)]
theorem pu_fill {p N : Nat} {I : Nat → Nat → Int32} (h : s[p]? = some (1, N)) (hN : N ≤ 100000) (v : Int32) : ∃ I', fb_ar_fill p v (s, I, J, R) = some (s, I', J, R) ∧ (∀ k, I' p k = if k < N then v else I p k) ∧ (∀ q, q ≠ p → I' q = I q) := by
  obtain ⟨I', a1, a2, a3⟩ := pu_fill_l (J := J) (R := R) h hN v N 0 1048576 I (by omega) (by omega)
  rw [show nI 0 = 0 from rfl] at a1
  refine ⟨I', ?_, fun k => by rw [a2 k]; simp only [Nat.zero_le, true_and], a3⟩
  unfold fb_ar_fill
  simp only [pu_al h, Option.bind_some, a1]
theorem pu_h_pairsFrom {I : Nat → Nat → Int32} (hX : pu_X s R) {i x : Nat} (hi : i ≤ 5) (hx : x < 32) : fb_h_pairsFrom 42 (nI i) (nI x) (s, I, J, R) = some (I 50 (i * 32 + x), (s, I, J, R)) := by
  have e : nI i * 32 + nI x = nI (i * 32 + x) := by rw [show (32 : Int32) = nI 32 from rfl, pu_mul, nI_add]
  unfold fb_h_pairsFrom
  simp only [e, pu_lt0 (show i * 32 + x < 2147483648 by omega), ↓reduceIte, pu_gN (pu_c42 hX), pu_f42_1 hX, Option.bind_some, pu_al (pu_c50 hX), pu_ltI (show i * 32 + x < 2147483648 by omega) (show 192 < 2147483648 by omega), show i * 32 + x < 192 by omega, pu_lI (pu_c50 hX) (show i * 32 + x < 192 by omega) (show 192 ≤ 100000 by omega)]
theorem pu_h_setPairs {I : Nat → Nat → Int32} (hX : pu_X s R) {i x : Nat} (hi : i ≤ 5) (hx : x < 32) (v : Int32) : fb_h_setPairs 42 (nI i) (nI x) v (s, I, J, R) = some (s, tb_up2 I 50 (i * 32 + x) v, J, R) := by
  have e : nI i * 32 + nI x = nI (i * 32 + x) := by rw [show (32 : Int32) = nI 32 from rfl, pu_mul, nI_add]
  unfold fb_h_setPairs
  simp only [e, pu_lt0 (show i * 32 + x < 2147483648 by omega), ↓reduceIte, pu_gN (pu_c42 hX), pu_f42_1 hX, Option.bind_some, pu_al (pu_c50 hX), pu_ltI (show i * 32 + x < 2147483648 by omega) (show 192 < 2147483648 by omega), show i * 32 + x < 192 by omega, pu_tI (pu_c50 hX) (show i * 32 + x < 192 by omega) (show 192 ≤ 100000 by omega)]
/-- even houses joined to an odd one, as bits -/
def pu_je (A : pu_A) (i : Nat) : Int32 := pu_mk (fun k => pu_nb A (pu_o1 i) (A.1 0 0 + k)) (10 - A.1 0 0)
theorem pu_je_bt (wf : pu_wf A) {i e : Nat} (hi : i < A.1 0 0) (he : e < A.1 0 0) : bt (pu_je A i) e = pu_jd A i e := by
  have h5 := wf.1
  unfold pu_je
  rw [pu_mk_bt _ _ (by omega) e (by omega), decide_eq_true (by omega), Bool.true_and, pu_nb_jd wf hi]
theorem pu_h_joinedTo {I : Nat → Nat → Int32} (hX : pu_X s R) (v : pu_V I 19 A) (wf : pu_wf A) {i : Nat} (hi : i < A.1 0 0) : fb_h_joinedTo 19 (nI i) (s, I, J, R) = some (pu_je A i, (s, I, J, R)) := by
  have h5 := wf.1
  unfold fb_h_joinedTo
  rw [pu_mk_1 (show i < 10 by omega) (by omega)]
  simp only [show (fun k => decide (k = i)) = pu_o1 i from rfl, pu_h_neighboursOf (pu_st19 hX) v wf, Option.bind_some, pu_gI (pu_c19 hX), v.1.1]
  rw [pu_shr _ (by omega)]
  rfl
/-- the table from the odd house i on -/
def pu_Tb (I : Nat → Nat → Int32) (A : pu_A) (i : Nat) : Prop := ∀ j, i ≤ j → j ≤ 5 → ∀ x, x < 32 → I 50 (j * 32 + x) = nI (pu_dp (pu_jd A) (A.1 0 0) (A.1 0 0 - j) j (fun k => x.testBit k))
theorem pu_h_fill29 {I : Nat → Nat → Int32} (hX : pu_X s R) (v : pu_V I 19 A) (wf : pu_wf A) {i x : Nat} (hi : i < A.1 0 0) (hx : x < 32) (T : pu_Tb I A (i + 1)) (m0 : Nat) (hm : m0 ≤ 100) : ∀ d e n, e + d = A.1 0 0 → d < n →
    fl_h_fillPairs_29 n 42 19 (nI i) (pu_je A i) (nI x) (nI (pu_mx (fun e => if (pu_jd A i e && x.testBit e) = true then 1 + pu_dp (pu_jd A) (A.1 0 0) (A.1 0 0 - (i + 1)) (i + 1) (pu_wo (fun k => x.testBit k) e) else 0) m0 e)) (nI e) (s, I, J, R)
    = some (42, 19, nI i, pu_je A i, nI x, nI (pu_mx (fun e => if (pu_jd A i e && x.testBit e) = true then 1 + pu_dp (pu_jd A) (A.1 0 0) (A.1 0 0 - (i + 1)) (i + 1) (pu_wo (fun k => x.testBit k) e) else 0) m0 (A.1 0 0)), (s, I, J, R)) := by
  have h5 := wf.1
  intro d
  induction d with
  | zero =>
    intro e n he hn
    obtain ⟨n, rfl⟩ : ∃ z, n = z + 1 := ⟨n - 1, by omega⟩
    rw [fl_h_fillPairs_29.eq_2]
    simp only [pu_gI (pu_c19 hX), v.1.1, Option.bind_some, pu_ltI (show e < 2147483648 by omega) (show A.1 0 0 < 2147483648 by omega), show ¬ e < A.1 0 0 by omega, ↓reduceIte]
    rw [show e = A.1 0 0 by omega]
  | succ d ih =>
    intro e n he hn
    obtain ⟨n, rfl⟩ : ∃ z, n = z + 1 := ⟨n - 1, by omega⟩
    have hih := ih (e + 1) n (by omega) (by omega)
    rw [show ∀ t, pu_mx t m0 (e + 1) = max (pu_mx t m0 e) (t e) from fun _ => rfl] at hih
    have hb : bt (pu_je A i &&& nI x) e = (pu_jd A i e && x.testBit e) := by rw [b_and, pu_je_bt wf hi (by omega), pu_bt_nI _ (by omega)]
    rw [fl_h_fillPairs_29.eq_2]
    simp only [pu_gI (pu_c19 hX), v.1.1, Option.bind_some, pu_ltI (show e < 2147483648 by omega) (show A.1 0 0 < 2147483648 by omega), show e < A.1 0 0 by omega, ↓reduceIte, pu_bit0 _ (show e < 32 by omega), hb]
    rw [← nI_succ]
    cases hc : (pu_jd A i e && x.testBit e)
    · rw [hc, if_neg (by decide), Nat.max_eq_left (Nat.zero_le _)] at hih
      simp only [↓reduceIte]
      exact hih
    · rw [hc, if_pos rfl] at hih
      have e1 : nI i + 1 = nI (i + 1) := nI_1 i
      have ht := T (i + 1) (Nat.le_refl _) (by omega) (pu_wx x e) (pu_wx_lt x e)
      rw [pu_dp_wx _ h5] at ht
      have hd := pu_dp_le (pu_jd A) (A.1 0 0) (A.1 0 0 - (i + 1)) (i + 1) (pu_wo (fun k => x.testBit k) e)
      have hmx : ∀ z, pu_mx (fun e => if (pu_jd A i e && x.testBit e) = true then 1 + pu_dp (pu_jd A) (A.1 0 0) (A.1 0 0 - (i + 1)) (i + 1) (pu_wo (fun k => x.testBit k) e) else 0) m0 z ≤ 100 := by
        intro z
        rcases pu_mx_at (fun e => if (pu_jd A i e && x.testBit e) = true then 1 + pu_dp (pu_jd A) (A.1 0 0) (A.1 0 0 - (i + 1)) (i + 1) (pu_wo (fun k => x.testBit k) e) else 0) m0 z with h | ⟨y, h1, h2⟩
        · rw [h]; exact hm
        · rw [← h2]
          have := pu_dp_le (pu_jd A) (A.1 0 0) (A.1 0 0 - (i + 1)) (i + 1) (pu_wo (fun k => x.testBit k) y)
          split <;> omega
      have hmz := hmx e
      simp only [Bool.true_eq_false, ↓reduceIte, e1, pu_wx_nI hx (show e < 5 by omega), pu_on (pu_c42 hX), pu_h_pairsFrom hX (show i + 1 ≤ 5 by omega) (pu_wx_lt x e), Option.bind_some, ht, pu_L1, fb_ma_max]
      generalize pu_mx (fun e => if (pu_jd A i e && x.testBit e) = true then 1 + pu_dp (pu_jd A) (A.1 0 0) (A.1 0 0 - (i + 1)) (i + 1) (pu_wo (fun k => x.testBit k) e) else 0) m0 e = z at hih hmz ⊢
      simp only [pu_ltI (show z < 2147483648 by omega) (show 1 + pu_dp (pu_jd A) (A.1 0 0) (A.1 0 0 - (i + 1)) (i + 1) (pu_wo (fun k => x.testBit k) e) < 2147483648 by omega)]
      by_cases hlt : z < 1 + pu_dp (pu_jd A) (A.1 0 0) (A.1 0 0 - (i + 1)) (i + 1) (pu_wo (fun k => x.testBit k) e)
      · rw [Nat.max_eq_right (by omega)] at hih
        rw [if_pos hlt]
        exact hih
      · rw [Nat.max_eq_left (by omega)] at hih
        rw [if_neg hlt]
        exact hih
theorem pu_h_fill17 (hX : pu_X s R) (wf : pu_wf A) {i : Nat} (hi : i < A.1 0 0) : ∀ d x n (I : Nat → Nat → Int32), x + d = 32 → d < n → pu_V I 19 A → pu_Tb I A (i + 1) → (∀ y, y < x → I 50 (i * 32 + y) = nI (pu_dp (pu_jd A) (A.1 0 0) (A.1 0 0 - i) i (fun k => y.testBit k))) →
    ∃ I', fl_h_fillPairs_17 n 42 19 (nI i) (pu_je A i) (nI x) (s, I, J, R) = some (42, 19, nI i, (s, I', J, R)) ∧ pu_Tb I' A i ∧ (∀ q, q ≠ 50 → I' q = I q) := by
  have h5 := wf.1
  intro d
  induction d with
  | zero =>
    intro x n I hx hn v T hy
    obtain ⟨n, rfl⟩ : ∃ z, n = z + 1 := ⟨n - 1, by omega⟩
    rw [fl_h_fillPairs_17.eq_2]
    simp only [show (32 : Int32) = nI 32 from rfl, pu_ltI (show x < 2147483648 by omega) (show 32 < 2147483648 by omega), show ¬ x < 32 by omega, ↓reduceIte]
    refine ⟨I, rfl, fun j h1 h2 y hy2 => ?_, fun _ _ => rfl⟩
    by_cases h3 : j = i
    · subst h3; exact hy y (by omega)
    · exact T j (by omega) h2 y hy2
  | succ d ih =>
    intro x n I hx hn v T hy
    obtain ⟨n, rfl⟩ : ∃ z, n = z + 1 := ⟨n - 1, by omega⟩
    have ht := T (i + 1) (Nat.le_refl _) (by omega) x (by omega)
    have hd := pu_dp_le (pu_jd A) (A.1 0 0) (A.1 0 0 - (i + 1)) (i + 1) (fun k => x.testBit k)
    have f29 := pu_h_fill29 (J := J) hX v wf hi (show x < 32 by omega) T (pu_dp (pu_jd A) (A.1 0 0) (A.1 0 0 - (i + 1)) (i + 1) (fun k => x.testBit k)) (by omega) (A.1 0 0) 0 1048576 (by omega) (by omega)
    rw [show ∀ t m, pu_mx t m 0 = m from fun _ _ => rfl, ← pu_dp_s, show A.1 0 0 - (i + 1) + 1 = A.1 0 0 - i by omega, show nI 0 = 0 from rfl] at f29
    have e1 : nI i + 1 = nI (i + 1) := nI_1 i
    rw [fl_h_fillPairs_17.eq_2]
    simp only [show (32 : Int32) = nI 32 from rfl, pu_ltI (show x < 2147483648 by omega) (show 32 < 2147483648 by omega), show x < 32 by omega, ↓reduceIte, e1, pu_on (pu_c42 hX), pu_h_pairsFrom hX (show i + 1 ≤ 5 by omega) (show x < 32 by omega), ht, Option.bind_some, f29, pu_h_setPairs hX (show i ≤ 5 by omega) (show x < 32 by omega)]
    rw [← nI_succ]
    obtain ⟨I', a1, a2, a3⟩ := ih (x + 1) n (tb_up2 I 50 (i * 32 + x) (nI (pu_dp (pu_jd A) (A.1 0 0) (A.1 0 0 - i) i (fun k => x.testBit k)))) (by omega) (by omega) (pu_V_eq (fun z hz => pu_u2p _ _ _ _ (by omega)) v) (fun j h1 h2 y hy2 => by rw [pu_u2k _ _ _ _ (by omega)]; exact T j h1 h2 y hy2) (fun y hy2 => by
      rw [pu_u2i]
      by_cases h3 : y = x
      · rw [if_pos (by omega), h3]
      · rw [if_neg (by omega)]; exact hy y (by omega))
    exact ⟨I', a1, a2, fun z hz => by rw [a3 z hz, pu_u2p _ _ _ _ hz]⟩
theorem pu_h_fill9 (hX : pu_X s R) (wf : pu_wf A) : ∀ t n (I : Nat → Nat → Int32), t ≤ A.1 0 0 → t < n → pu_V I 19 A → pu_Tb I A t → ∃ I', fl_h_fillPairs_9 n 42 19 (nI t - 1) (s, I, J, R) = some (s, I', J, R) ∧ pu_Tb I' A 0 ∧ (∀ q, q ≠ 50 → I' q = I q) := by
  have h5 := wf.1
  intro t
  induction t with
  | zero =>
    intro n I ht hn v T
    obtain ⟨n, rfl⟩ : ∃ z, n = z + 1 := ⟨n - 1, by omega⟩
    refine ⟨I, ?_, T, fun _ _ => rfl⟩
    rw [fl_h_fillPairs_9.eq_2, if_pos (by decide)]
  | succ t ih =>
    intro n I ht hn v T
    obtain ⟨n, rfl⟩ : ∃ z, n = z + 1 := ⟨n - 1, by omega⟩
    obtain ⟨I1, a1, a2, a3⟩ := pu_h_fill17 (J := J) hX wf (show t < A.1 0 0 by omega) 32 0 1048576 I (by omega) (by omega) v T (fun y hy => absurd hy (Nat.not_lt_zero _))
    rw [show nI 0 = 0 from rfl] at a1
    have v1 : pu_V I1 19 A := pu_V_eq (fun z hz => a3 _ (by omega)) v
    obtain ⟨I', b1, b2, b3⟩ := ih n I1 (by omega) (by omega) v1 a2
    refine ⟨I', ?_, b2, fun z hz => by rw [b3 z hz, a3 z hz]⟩
    rw [fl_h_fillPairs_9.eq_2, nI_pred]
    simp only [pu_lt0 (show t < 2147483648 by omega), ↓reduceIte, pu_h_joinedTo hX v wf (show t < A.1 0 0 by omega), Option.bind_some, a1]
    rw [show nI t + (-1) = nI t - 1 by rw [Int32.sub_eq_add_neg]]
    exact b1
theorem pu_h_fillPairs {I : Nat → Nat → Int32} (hX : pu_X s R) (v : pu_V I 19 A) (wf : pu_wf A) : ∃ I', fb_h_fillPairs 42 19 (s, I, J, R) = some (s, I', J, R) ∧ pu_Tb I' A 0 ∧ (∀ q, q ≠ 50 → I' q = I q) := by
  have h5 := wf.1
  obtain ⟨I1, a1, a2, a3⟩ := pu_fill (J := J) (R := R) (I := I) (pu_c50 hX) (by omega) 0
  have v1 : pu_V I1 19 A := pu_V_eq (fun z hz => a3 _ (by omega)) v
  obtain ⟨I', b1, b2, b3⟩ := pu_h_fill9 (J := J) hX wf (A.1 0 0) 1048576 I1 (Nat.le_refl _) (by omega) v1 (fun j h1 h2 x hx => by
    rw [a2, if_pos (by omega), show A.1 0 0 - j = 0 by omega]; rfl)
  refine ⟨I', ?_, b2, fun z hz => by rw [b3 z hz, a3 z hz]⟩
  unfold fb_h_fillPairs
  simp only [pu_gN (pu_c42 hX), pu_f42_1 hX, Option.bind_some, a1, pu_gI (pu_c19 hX), v1.1.1, b1]
theorem pu_h_first21 {I : Nat → Nat → Int32} (hX : pu_X s R) (v : pu_V I 19 A) (wf : pu_wf A) {i x m : Nat} (hi : i < A.1 0 0) (hx : x < 32) (hm : m ≤ 100) (T : pu_Tb I A 0) : ∀ d e n, e + d = A.1 0 0 → d < n →
    fl_h_firstPartner_21 n 42 19 (nI i) (nI x) (nI m) (pu_je A i) (nI e) (s, I, J, R) = some (if pu_ff (fun e => (pu_jd A i e && x.testBit e) && decide (1 + pu_dp (pu_jd A) (A.1 0 0) (A.1 0 0 - (i + 1)) (i + 1) (pu_wo (fun k => x.testBit k) e) = m)) d e < A.1 0 0 then nI (pu_ff (fun e => (pu_jd A i e && x.testBit e) && decide (1 + pu_dp (pu_jd A) (A.1 0 0) (A.1 0 0 - (i + 1)) (i + 1) (pu_wo (fun k => x.testBit k) e) = m)) d e) else -1, (s, I, J, R)) := by
  have h5 := wf.1
  intro d
  induction d with
  | zero =>
    intro e n he hn
    obtain ⟨n, rfl⟩ : ∃ z, n = z + 1 := ⟨n - 1, by omega⟩
    rw [fl_h_firstPartner_21.eq_2]
    simp only [pu_gI (pu_c19 hX), v.1.1, Option.bind_some, pu_ltI (show e < 2147483648 by omega) (show A.1 0 0 < 2147483648 by omega), show ¬ e < A.1 0 0 by omega, ↓reduceIte, fj_h_firstPartner_j59]
    unfold pu_ff
    rw [if_neg (by omega)]
  | succ d ih =>
    intro e n he hn
    obtain ⟨n, rfl⟩ : ∃ z, n = z + 1 := ⟨n - 1, by omega⟩
    have hih := ih (e + 1) n (by omega) (by omega)
    have hb : bt (pu_je A i &&& nI x) e = (pu_jd A i e && x.testBit e) := by rw [b_and, pu_je_bt wf hi (by omega), pu_bt_nI _ (by omega)]
    rw [fl_h_firstPartner_21.eq_2]
    simp only [pu_gI (pu_c19 hX), v.1.1, Option.bind_some, pu_ltI (show e < 2147483648 by omega) (show A.1 0 0 < 2147483648 by omega), show e < A.1 0 0 by omega, ↓reduceIte, pu_bit0 _ (show e < 32 by omega), hb]
    unfold pu_ff
    cases hc : (pu_jd A i e && x.testBit e)
    · simp only [↓reduceIte, fj_h_firstPartner_j36, Bool.false_and, Bool.false_eq_true]
      rw [← nI_succ]
      exact hih
    · have e1 : nI i + 1 = nI (i + 1) := nI_1 i
      have ht := T (i + 1) (Nat.zero_le _) (by omega) (pu_wx x e) (pu_wx_lt x e)
      rw [pu_dp_wx _ h5] at ht
      have hd := pu_dp_le (pu_jd A) (A.1 0 0) (A.1 0 0 - (i + 1)) (i + 1) (pu_wo (fun k => x.testBit k) e)
      simp only [Bool.true_eq_false, ↓reduceIte, fj_h_firstPartner_j36, show ¬ ((1 : Int32) = 0) by decide, e1, pu_wx_nI hx (show e < 5 by omega), pu_on (pu_c42 hX), pu_h_pairsFrom hX (show i + 1 ≤ 5 by omega) (pu_wx_lt x e), Option.bind_some, ht, pu_L1, pu_eqI (show 1 + pu_dp (pu_jd A) (A.1 0 0) (A.1 0 0 - (i + 1)) (i + 1) (pu_wo (fun k => x.testBit k) e) < 2147483648 by omega) (show m < 2147483648 by omega), Bool.true_and, decide_eq_true_eq, fj_h_firstPartner_j55]
      by_cases hq : 1 + pu_dp (pu_jd A) (A.1 0 0) (A.1 0 0 - (i + 1)) (i + 1) (pu_wo (fun k => x.testBit k) e) = m
      · simp only [hq, ↓reduceIte, show e < A.1 0 0 by omega]
      · simp only [hq, ↓reduceIte]
        rw [← nI_succ]
        exact hih
theorem pu_h_firstPartner {I : Nat → Nat → Int32} (hX : pu_X s R) (v : pu_V I 19 A) (wf : pu_wf A) {i x : Nat} (hi : i < A.1 0 0) (hx : x < 32) (T : pu_Tb I A 0) : fb_h_firstPartner 42 19 (nI i) (nI x) (s, I, J, R) = some (if pu_mz (pu_jd A) (A.1 0 0) (A.1 0 0 - (i + 1)) i (fun k => x.testBit k) = 0 then -1 else nI (pu_mz (pu_jd A) (A.1 0 0) (A.1 0 0 - (i + 1)) i (fun k => x.testBit k) - 1), (s, I, J, R)) := by
  have h5 := wf.1
  have e1 : nI i + 1 = nI (i + 1) := nI_1 i
  have t1 := T i (Nat.zero_le _) (by omega) x hx
  have t2 := T (i + 1) (Nat.zero_le _) (by omega) x hx
  have d1 := pu_dp_le (pu_jd A) (A.1 0 0) (A.1 0 0 - i) i (fun k => x.testBit k)
  have d2 := pu_dp_le (pu_jd A) (A.1 0 0) (A.1 0 0 - (i + 1)) (i + 1) (fun k => x.testBit k)
  have f21 := pu_h_first21 (J := J) hX v wf hi hx (show pu_dp (pu_jd A) (A.1 0 0) (A.1 0 0 - i) i (fun k => x.testBit k) ≤ 100 by omega) T (A.1 0 0) 0 1048576 (by omega) (by omega)
  rw [show nI 0 = 0 from rfl] at f21
  have es : A.1 0 0 - i = A.1 0 0 - (i + 1) + 1 := by omega
  unfold fb_h_firstPartner pu_mz
  simp only [pu_on (pu_c42 hX), pu_h_pairsFrom hX (show i ≤ 5 by omega) hx, t1, Option.bind_some, e1, pu_h_pairsFrom hX (show i + 1 ≤ 5 by omega) hx, t2, pu_eqI (show pu_dp (pu_jd A) (A.1 0 0) (A.1 0 0 - (i + 1)) (i + 1) (fun k => x.testBit k) < 2147483648 by omega) (show pu_dp (pu_jd A) (A.1 0 0) (A.1 0 0 - i) i (fun k => x.testBit k) < 2147483648 by omega)]
  rw [← es]
  by_cases h : pu_dp (pu_jd A) (A.1 0 0) (A.1 0 0 - (i + 1)) (i + 1) (fun k => x.testBit k) = pu_dp (pu_jd A) (A.1 0 0) (A.1 0 0 - i) i (fun k => x.testBit k)
  · simp only [h, ↓reduceIte]
  · have hlt := pu_mz_e (g := pu_jd A) (n := A.1 0 0) (d := A.1 0 0 - (i + 1)) (i := i) (F := fun k => x.testBit k) (by rw [← es]; exact h)
    rw [← es] at hlt
    simp only [h, ↓reduceIte, pu_h_joinedTo hX v wf hi, Option.bind_some, f21, hlt, show ∀ z, ¬ 1 + z = 0 from fun z => by omega, Nat.add_sub_cancel_left]
theorem pu_h_marry7 (hX : pu_X s R) (wf : pu_wf A) : ∀ d i n x (I : Nat → Nat → Int32) (F : Nat → Bool), i + d = A.1 0 0 → d < n → x < 32 → (∀ k, k < A.1 0 0 → x.testBit k = F k) → pu_V I 19 A → pu_Tb I A 0 →
    ∃ I', fl_h_marryAll_7 n 42 19 (nI x) (nI i) (s, I, J, R) = some (42, (s, I', J, R)) ∧ (∀ k, i ≤ k → k < A.1 0 0 → I' 51 k = pu_co (A.1 0 0) (pu_gd (pu_jd A) (A.1 0 0) d i F k)) ∧ (∀ k, k < i → I' 51 k = I 51 k) ∧ (∀ q, q ≠ 51 → I' q = I q) := by
  have h5 := wf.1
  intro d
  induction d with
  | zero =>
    intro i n x I F hi hn hx hF v T
    obtain ⟨n, rfl⟩ : ∃ z, n = z + 1 := ⟨n - 1, by omega⟩
    rw [fl_h_marryAll_7.eq_2]
    simp only [pu_gI (pu_c19 hX), v.1.1, Option.bind_some, pu_ltI (show i < 2147483648 by omega) (show A.1 0 0 < 2147483648 by omega), show ¬ i < A.1 0 0 by omega, ↓reduceIte]
    exact ⟨I, rfl, fun k h1 h2 => by omega, fun _ _ => rfl, fun _ _ => rfl⟩
  | succ d ih =>
    intro i n x I F hi hn hx hF v T
    obtain ⟨n, rfl⟩ : ∃ z, n = z + 1 := ⟨n - 1, by omega⟩
    have v1 : ∀ z, pu_V (tb_up2 I 51 i z) 19 A := fun z => pu_V_eq (fun y hy => pu_u2p _ _ _ _ (by omega)) v
    have T1 : ∀ z, pu_Tb (tb_up2 I 51 i z) A 0 := fun z j h1 h2 y hy => by rw [pu_u2p _ _ _ _ (by decide)]; exact T j h1 h2 y hy
    have hg : pu_mz (pu_jd A) (A.1 0 0) (A.1 0 0 - (i + 1)) i (fun k => x.testBit k) = pu_mz (pu_jd A) (A.1 0 0) d i F := by
      rw [show A.1 0 0 - (i + 1) = d by omega]
      unfold pu_mz
      rw [pu_dp_cong _ _ d (i + 1) _ F hF, pu_dp_cong _ _ (d + 1) i _ F hF]
      have hff : ∀ m e, e + m = A.1 0 0 → pu_ff (fun e => pu_jd A i e && x.testBit e && decide (1 + pu_dp (pu_jd A) (A.1 0 0) d (i + 1) (pu_wo (fun k => x.testBit k) e) = pu_dp (pu_jd A) (A.1 0 0) (d + 1) i F)) m e = pu_ff (fun e => pu_jd A i e && F e && decide (1 + pu_dp (pu_jd A) (A.1 0 0) d (i + 1) (pu_wo F e) = pu_dp (pu_jd A) (A.1 0 0) (d + 1) i F)) m e := by
        intro m
        induction m with
        | zero => intro e _; rfl
        | succ m ih2 =>
          intro e he
          unfold pu_ff
          rw [ih2 (e + 1) (by omega)]
          rw [hF e (by omega), pu_dp_cong _ _ d (i + 1) (pu_wo (fun k => x.testBit k) e) (pu_wo F e) (fun k hk => by unfold pu_wo; show (x.testBit k && _) = _; rw [hF k hk])]
      rw [hff (A.1 0 0) 0 (by omega)]
    have hgl := pu_mz_le (pu_jd A) (A.1 0 0) d i F
    rw [fl_h_marryAll_7.eq_2]
    simp only [pu_gI (pu_c19 hX), v.1.1, Option.bind_some, pu_ltI (show i < 2147483648 by omega) (show A.1 0 0 < 2147483648 by omega), show i < A.1 0 0 by omega, ↓reduceIte, pu_gN (pu_c42 hX), pu_f42_2 hX, pu_al (pu_c51 hX), pu_ltI (show i < 2147483648 by omega) (show 5 < 2147483648 by omega), show i < 5 by omega, pu_tI (pu_c51 hX) (show i < 5 by omega) (show 5 ≤ 100000 by omega), pu_on (pu_c42 hX), pu_h_firstPartner hX (v1 _) wf (show i < A.1 0 0 by omega) hx (T1 _), hg]
    rw [← nI_succ]
    by_cases h0 : pu_mz (pu_jd A) (A.1 0 0) d i F = 0
    · simp only [h0, ↓reduceIte]
      obtain ⟨I', a1, a2, a3, a4⟩ := ih (i + 1) n x (tb_up2 I 51 i (-1)) F (by omega) (by omega) hx hF (v1 _) (T1 _)
      refine ⟨I', a1, fun k h1 h2 => ?_, fun k hk => by rw [a3 k (by omega), pu_u2k _ _ _ _ (by omega)], fun z hz => by rw [a4 z hz, pu_u2p _ _ _ _ hz]⟩
      show _ = pu_co _ (if k = i then _ else _)
      by_cases hk : k = i
      · rw [if_pos hk, hk, a3 i (by omega), pu_u2s, h0]; rfl
      · rw [if_neg hk, a2 k (by omega) h2, h0]; rfl
    · have hne : ¬ nI (pu_mz (pu_jd A) (A.1 0 0) d i F - 1) = -1 := by
        intro h
        have := pu_lt0 (show pu_mz (pu_jd A) (A.1 0 0) d i F - 1 < 2147483648 by omega)
        rw [h] at this
        exact this (by decide)
      have e1 : tb_up2 I 51 i (-1) 19 0 = nI (A.1 0 0) := by rw [pu_u2p _ _ _ _ (by decide)]; exact v.1.1
      simp only [h0, hne, ↓reduceIte, pu_gN (pu_c42 hX), pu_f42_2 hX, pu_gI (pu_c19 hX), e1, Option.bind_some, nI_add, pu_tI (pu_c51 hX) (show i < 5 by omega) (show 5 ≤ 100000 by omega), pu_wx_nI hx (show pu_mz (pu_jd A) (A.1 0 0) d i F - 1 < 5 by omega)]
      obtain ⟨I', a1, a2, a3, a4⟩ := ih (i + 1) n (pu_wx x (pu_mz (pu_jd A) (A.1 0 0) d i F - 1)) (tb_up2 (tb_up2 I 51 i (-1)) 51 i (nI (A.1 0 0 + (pu_mz (pu_jd A) (A.1 0 0) d i F - 1)))) (pu_wo F (pu_mz (pu_jd A) (A.1 0 0) d i F - 1)) (by omega) (by omega) (pu_wx_lt _ _) (fun k hk => by
        unfold pu_wx
        rw [pu_vl_bit, decide_eq_true (by omega), Bool.true_and]
        unfold pu_wo
        show (x.testBit k && _) = _
        rw [hF k hk]) (pu_V_eq (fun y hy => by rw [pu_u2p _ _ _ _ (by omega), pu_u2p _ _ _ _ (by omega)]) v) (fun j h1 h2 y hy => by rw [pu_u2p _ _ _ _ (by decide), pu_u2p _ _ _ _ (by decide)]; exact T j h1 h2 y hy)
      refine ⟨I', a1, fun k h1 h2 => ?_, fun k hk => by rw [a3 k (by omega), pu_u2k _ _ _ _ (by omega), pu_u2k _ _ _ _ (by omega)], fun z hz => by rw [a4 z hz, pu_u2p _ _ _ _ hz, pu_u2p _ _ _ _ hz]⟩
      show _ = pu_co _ (if k = i then _ else _)
      by_cases hk : k = i
      · rw [if_pos hk, hk, a3 i (by omega), pu_u2s]
        unfold pu_co
        rw [if_neg h0]
      · rw [if_neg hk, a2 k (by omega) h2]
        unfold pu_gF
        rw [if_neg h0]
theorem pu_x_marry {I : Nat → Nat → Int32} (hX : pu_X s R) (v : pu_V I 19 A) (wf : pu_wf A) (a : Int32) : ∃ I' J', fb_x_marry 1 a (s, I, J, R) = some (pu_a_marry A a, (s, I', J', R)) ∧ pu_Cf I I' J J' := by
  have h5 := wf.1
  unfold fb_x_marry pu_a_marry
  simp only [pu_gN (pu_c1 hX), pu_f1_5 hX, Option.bind_some, pu_on (pu_c18 hX), pu_sc_isEmpty hX v wf, pu_b0, decide_eq_false_iff_not]
  by_cases h0 : A.1 0 0 = 0
  · simp only [h0, not_true, ↓reduceIte]
    exact ⟨I, J, rfl, pu_Cf.rf⟩
  · simp only [h0, not_false_eq_true, ↓reduceIte, pu_x_within, Option.bind_some, pu_b0]
    cases hw : pu_wi a (-1) 4
    · simp only [↓reduceIte]
      exact ⟨I, J, rfl, pu_Cf.rf⟩
    · simp only [Bool.true_eq_false, ↓reduceIte, pu_gN (pu_c1 hX), pu_f1_5 hX, Option.bind_some, pu_gN (pu_c18 hX), pu_f18_0 hX, pu_gI (pu_c19 hX), v.1.1]
      by_cases hl : a < nI (A.1 0 0)
      · obtain ⟨I1, a1, a2, a3⟩ := pu_h_fillPairs (J := J) hX v wf
        have v1 : pu_V I1 19 A := pu_V_eq (fun z hz => a3 _ (by omega)) v
        obtain ⟨I2, b1, b2, b3, b4⟩ := pu_h_marry7 (J := J) hX wf (A.1 0 0) 0 1048576 31 I1 (fun _ => true) (by omega) (by omega) (by omega) (fun k hk => (by decide : ∀ k, k < 5 → Nat.testBit 31 k = true) k (by omega)) v1 a2
        rw [show nI 0 = 0 from rfl, show nI 31 = 31 from rfl] at b1
        have hp := pu_h_pairsFrom (I := I2) (J := J) hX (show 0 ≤ 5 by omega) (show 31 < 32 by omega)
        have ht := a2 0 (Nat.zero_le _) (by omega) 31 (by omega)
        rw [Nat.sub_zero, pu_dp_cong _ _ (A.1 0 0) 0 _ (fun _ => true) (fun k hk => (by decide : ∀ k, k < 5 → Nat.testBit 31 k = true) k (by omega))] at ht
        rw [b4 50 (by decide), ht, show nI 0 = 0 from rfl, show nI 31 = 31 from rfl] at hp
        have fr : pu_Cf I I2 J J := ⟨fun z h1 h2 h3 => by rw [b4 z (by omega), a3 z (by omega)], fun _ _ => rfl⟩
        simp only [hl, ↓reduceIte, pu_gN (pu_c1 hX), pu_f1_9 hX, Option.bind_some, pu_on (pu_c42 hX), fb_h_marryAll, a1, b1, hp]
        by_cases ha : a = -1
        · simp only [ha, ↓reduceIte]
          exact ⟨I2, J, rfl, fr⟩
        · have hn : ¬ a < 0 := by
            unfold pu_wi at hw
            rw [Bool.and_eq_true, Bool.not_eq_true', decide_eq_false_iff_not] at hw
            intro hneg
            have h1 : a.toInt < 0 := Int32.lt_iff_toInt_lt.mp hneg
            have h2 : ¬ a.toInt < (-1 : Int32).toInt := fun h => hw.1 (Int32.lt_iff_toInt_lt.mpr h)
            rw [show (-1 : Int32).toInt = -1 from rfl] at h2
            exact ha (Int32.toInt_inj.mp (by rw [show (-1 : Int32).toInt = -1 from rfl]; omega))
          obtain ⟨k, hk, rfl⟩ := nI_of hn
          have hk : k < 2147483648 := by omega
          rw [pu_ltI hk (by omega)] at hl
          simp only [ha, ↓reduceIte, fb_h_partnerOf, pu_lt0 hk, pu_gN (pu_c42 hX), pu_f42_2 hX, Option.bind_some, pu_al (pu_c51 hX), pu_ltI hk (show 5 < 2147483648 by omega), show k < 5 by omega, pu_lI (pu_c51 hX) (show k < 5 by omega) (show 5 ≤ 100000 by omega), b2 k (Nat.zero_le _) hl, pu_cl hk]
          exact ⟨I2, J, rfl, fr⟩
      · have ha : a ≠ -1 := by
          intro h
          rw [h] at hl
          exact hl (Int32.lt_iff_toInt_lt.mpr (by rw [nI_toInt (by omega)]; show (-1 : Int) < _; omega))
        simp only [hl, ha, ↓reduceIte]
        exact ⟨I, J, rfl, pu_Cf.rf⟩
end PUA
