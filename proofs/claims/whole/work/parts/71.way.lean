/-! ===== way and blocks ===== -/
/-- a house by any number -/
def pu_ih (A : pu_A) (a : Int32) : Bool := !decide (a < 0) && decide (a.toNatClampNeg < 2 * A.1 0 0)
def pu_o1 (h k : Nat) : Bool := decide (k = h)
def pu_wy (A : pu_A) (h o n : Nat) : Bool := pu_it A (pu_o1 h) n o
def pu_a_way (A : pu_A) (a b : Int32) : Int32 := if pu_ih A a = false then -1 else if pu_ih A b = false then -1 else
  if pu_ff (pu_wy A a.toNatClampNeg b.toNatClampNeg) 10 0 < 10 then nI (pu_ff (pu_wy A a.toNatClampNeg b.toNatClampNeg) 10 0) else -2
def pu_bk (A : pu_A) (h : Nat) : Nat → Bool := pu_it A (pu_o1 h) 10
theorem pu_bit10 (f : Nat → Bool) {k : Nat} (hk : k < 10) : ((pu_mk f 10 >>> (nI k &&& 31)) &&& 1 = 1) = (f k = true) := by
  rw [pu_sh _ (by omega), pu_mk_bt f 10 (by omega) k (by omega), decide_eq_true hk, Bool.true_and, pu_b1]
section PUi
variable {s : List (Nat × Nat)} {R : Nat → Nat → Option Nat} {I : Nat → Nat → Int32} {J : Nat → Nat → Int64} {A : pu_A}
theorem pu_s_isHouseA {p : Nat} (h : pu_St s R p) (v : pu_V I p A) (wf : pu_wf A) (a : Int32) : fb_s_isHouse p a (s, I, J, R) = some (pu_b (pu_ih A a), (s, I, J, R)) := by
  unfold pu_ih
  by_cases ha : a < 0
  · rw [pu_s_isHouse_neg ha, decide_eq_true ha]; rfl
  · obtain ⟨n, hn, rfl⟩ := nI_of ha
    rw [pu_s_isHouse h v wf (by omega), decide_eq_false ha, pu_cl (by omega)]; rfl
theorem pu_m_isHouseA (hM : pu_M s R) (q : pu_Q (I 80) A) (wf : pu_wf A) (a : Int32) : fb_m_isHouse 70 a (s, I, J, R) = some (pu_b (pu_ih A a), (s, I, J, R)) := by
  unfold pu_ih
  by_cases ha : a < 0
  · rw [pu_m_isHouse_neg ha, decide_eq_true ha]; rfl
  · obtain ⟨n, hn, rfl⟩ := nI_of ha
    rw [pu_m_isHouse hM q wf (by omega), decide_eq_false ha, pu_cl (by omega)]; rfl
theorem pu_ih_n {a : Int32} (h : pu_ih A a = true) : ∃ k, k < 2 * A.1 0 0 ∧ a = nI k := by
  unfold pu_ih at h
  rw [Bool.and_eq_true, Bool.not_eq_true', decide_eq_false_iff_not, decide_eq_true_eq] at h
  obtain ⟨n, hn, rfl⟩ := nI_of h.1
  rw [pu_cl (by omega)] at h
  exact ⟨n, h.2, rfl⟩
theorem pu_h_steps_l (hX : pu_X s R) (v : pu_V I 19 A) (wf : pu_wf A) {h o : Nat} (ho : o < 10) : ∀ d i n, i + d = 10 → d < n → fl_h_stepsBetween_6 n 19 (nI o) (pu_mk (pu_it A (pu_o1 h) i) 10) (nI i) (s, I, J, R) = some (if pu_ff (pu_wy A h o) d i < 10 then nI (pu_ff (pu_wy A h o) d i) else -1, (s, I, J, R)) := by
  intro d
  induction d with
  | zero =>
    intro i n hi hn
    obtain ⟨n, rfl⟩ : ∃ z, n = z + 1 := ⟨n - 1, by omega⟩
    unfold fl_h_stepsBetween_6 pu_ff
    simp only [show (10 : Int32) = nI 10 from rfl, pu_ltI (show i < 2147483648 by omega) (show 10 < 2147483648 by omega), show ¬ i < 10 by omega, ↓reduceIte, fj_h_stepsBetween_j24]
  | succ d ih =>
    intro i n hi hn
    obtain ⟨n, rfl⟩ : ∃ z, n = z + 1 := ⟨n - 1, by omega⟩
    have hih := ih (i + 1) n (by omega) (by omega)
    rw [nI_succ, show pu_it A (pu_o1 h) (i + 1) = pu_nb A (pu_it A (pu_o1 h) i) from rfl] at hih
    unfold fl_h_stepsBetween_6 pu_ff
    simp only [show (10 : Int32) = nI 10 from rfl, pu_ltI (show i < 2147483648 by omega) (show 10 < 2147483648 by omega), show i < 10 by omega, ↓reduceIte, pu_bit10 _ ho, pu_h_neighboursOf (pu_st19 hX) v wf, Option.bind_some, fj_h_stepsBetween_j16]
    have e : pu_it A (pu_o1 h) i o = pu_wy A h o i := rfl
    rw [e]
    cases hw : pu_wy A h o i
    · simp only [Bool.false_eq_true, ↓reduceIte]
      exact hih
    · simp only [↓reduceIte, show i < 10 by omega]
theorem pu_x_way (hX : pu_X s R) (v : pu_V I 19 A) (wf : pu_wf A) (a b : Int32) : ∃ I' J', fb_x_way 1 a b (s, I, J, R) = some (pu_a_way A a b, (s, I', J', R)) ∧ pu_Cf I I' J J' := by
  have h5 := wf.1
  refine ⟨I, J, ?_, pu_Cf.rf⟩
  unfold fb_x_way pu_a_way
  simp only [pu_gN (pu_c1 hX), pu_f1_5 hX, pu_f1_9 hX, Option.bind_some, pu_gN (pu_c18 hX), pu_f18_0 hX, pu_on (pu_c19 hX), pu_s_isHouseA (pu_st19 hX) v wf, pu_b0]
  cases h1 : pu_ih A a
  · simp only [↓reduceIte]
  · simp only [Bool.true_eq_false, ↓reduceIte, pu_gN (pu_c1 hX), pu_f1_5 hX, pu_f1_9 hX, Option.bind_some, pu_gN (pu_c18 hX), pu_f18_0 hX, pu_on (pu_c19 hX), pu_s_isHouseA (pu_st19 hX) v wf, pu_b0]
    cases h2 : pu_ih A b
    · simp only [↓reduceIte]
    · obtain ⟨h, hh, rfl⟩ := pu_ih_n h1
      obtain ⟨o, ho, rfl⟩ := pu_ih_n h2
      have e := pu_h_steps_l (J := J) hX v wf (h := h) (show o < 10 by omega) 10 0 1048576 (by omega) (by omega)
      rw [show nI 0 = 0 from rfl, show pu_mk (pu_it A (pu_o1 h) 0) 10 = pu_mk (fun k => decide (k = h)) 10 from rfl, ← pu_mk_1 (show h < 10 by omega) (by omega)] at e
      simp only [Bool.true_eq_false, ↓reduceIte, pu_gN (pu_c1 hX), pu_f1_5 hX, pu_f1_9 hX, Option.bind_some, pu_gN (pu_c18 hX), pu_f18_0 hX, pu_on (pu_c42 hX), fb_h_stepsBetween, e]
      rw [pu_cl (show h < 2147483648 by omega), pu_cl (show o < 2147483648 by omega)]
      by_cases hz : pu_ff (pu_wy A h o) 10 0 < 10
      · simp only [hz, ↓reduceIte, pu_ne1 (show pu_ff (pu_wy A h o) 10 0 < 2147483648 by omega)]
      · simp only [hz, ↓reduceIte]
theorem pu_m_way_l (hM : pu_M s R) (q : pu_Q (I 80) A) (wf : pu_wf A) {h o : Nat} (hh : h < 10) (ho : o < 10) : ∀ d i n, i + d = 10 → d + 1 < n → (i = 10 → pu_wy A h o 9 = false) → fl_m_way_16 n 70 (nI o) (pu_mk (pu_it A (pu_o1 h) i) 10) (nI i) (s, I, J, R) = some (if pu_ff (pu_wy A h o) d i < 10 then nI (pu_ff (pu_wy A h o) d i) else -2, (s, I, J, R)) := by
  intro d
  induction d with
  | zero =>
    intro i n hi hn h9
    obtain ⟨n, rfl⟩ : ∃ z, n = z + 1 + 1 := ⟨n - 2, by omega⟩
    have hi : i = 10 := by omega
    subst hi
    have e10 : pu_it A (pu_o1 h) 10 o = false := by
      rw [pu_it_10 wf hh (show pu_o1 h h = true from decide_eq_true rfl) o ho]
      exact h9 rfl
    rw [fl_m_way_16.eq_2]
    unfold pu_ff
    simp only [show (10 : Int32) = nI 10 from rfl, pu_leI (show 10 < 2147483648 by omega) (show 10 < 2147483648 by omega), Nat.le_refl, ↓reduceIte, fb_m_isOf, pu_bit10 _ ho, e10, Bool.false_eq_true, Option.bind_some, pu_on (pu_m70 hM), pu_m_joined hM q wf, Nat.lt_irrefl]
    rw [← nI_succ, fl_m_way_16.eq_2]
    simp only [show (10 : Int32) = nI 10 from rfl, pu_leI (show 10 + 1 < 2147483648 by omega) (show 10 < 2147483648 by omega), show ¬ 10 + 1 ≤ 10 by omega, ↓reduceIte, fj_m_way_j31]
  | succ d ih =>
    intro i n hi hn h9
    obtain ⟨n, rfl⟩ : ∃ z, n = z + 1 := ⟨n - 1, by omega⟩
    rw [fl_m_way_16.eq_2]
    unfold pu_ff
    have e : pu_it A (pu_o1 h) i o = pu_wy A h o i := rfl
    simp only [show (10 : Int32) = nI 10 from rfl, pu_leI (show i < 2147483648 by omega) (show 10 < 2147483648 by omega), show i ≤ 10 by omega, ↓reduceIte, fb_m_isOf, pu_bit10 _ ho, e]
    cases hw : pu_wy A h o i
    · simp only [Bool.false_eq_true, ↓reduceIte, Option.bind_some, pu_on (pu_m70 hM), pu_m_joined hM q wf]
      rw [← nI_succ]
      exact ih (i + 1) n (by omega) (by omega) (fun z => by rw [show i = 9 by omega] at hw; exact hw)
    · simp only [↓reduceIte, Option.bind_some, show ¬ ((1 : Int32) = 0) by decide, fj_m_way_j23, show i < 10 by omega]
theorem pu_m_way (hM : pu_M s R) (q : pu_Q (I 80) A) (wf : pu_wf A) (a b : Int32) : ∃ I' J', fb_m_way 70 a b (s, I, J, R) = some (pu_a_way A a b, (s, I', J', R)) ∧ pu_Zf I I' J J' := by
  have h5 := wf.1
  refine ⟨I, J, ?_, pu_Zf.rf⟩
  unfold fb_m_way pu_a_way
  simp only [pu_on (pu_m70 hM), pu_m_isHouseA hM q wf, Option.bind_some, pu_b0]
  cases h1 : pu_ih A a
  · simp only [↓reduceIte]
  · simp only [Bool.true_eq_false, ↓reduceIte]
    cases h2 : pu_ih A b
    · simp only [↓reduceIte]
    · obtain ⟨h, hh, rfl⟩ := pu_ih_n h1
      obtain ⟨o, ho, rfl⟩ := pu_ih_n h2
      have e := pu_m_way_l (J := J) hM q wf (show h < 10 by omega) (show o < 10 by omega) 10 0 1048576 (by omega) (by omega) (fun z => by omega)
      rw [show nI 0 = 0 from rfl, show pu_mk (pu_it A (pu_o1 h) 0) 10 = pu_mk (fun k => decide (k = h)) 10 from rfl, ← pu_mk_1 (show h < 10 by omega) (by omega)] at e
      simp only [Bool.true_eq_false, ↓reduceIte, e, Option.bind_some]
      rw [pu_cl (show h < 2147483648 by omega), pu_cl (show o < 2147483648 by omega)]
theorem pu_h_blockOf_l (hX : pu_X s R) (v : pu_V I 19 A) (wf : pu_wf A) (h : Nat) : ∀ d i n, i + d = 10 → d < n → fl_h_blockOf_6 n 19 (pu_mk (pu_it A (pu_o1 h) i) 10) (nI i) (s, I, J, R) = some (pu_mk (pu_bk A h) 10, (s, I, J, R)) := by
  intro d
  induction d with
  | zero =>
    intro i n hi hn
    obtain ⟨n, rfl⟩ : ∃ z, n = z + 1 := ⟨n - 1, by omega⟩
    unfold fl_h_blockOf_6
    simp only [show (10 : Int32) = nI 10 from rfl, pu_ltI (show i < 2147483648 by omega) (show 10 < 2147483648 by omega), show ¬ i < 10 by omega, ↓reduceIte]
    rw [show i = 10 by omega]
    rfl
  | succ d ih =>
    intro i n hi hn
    obtain ⟨n, rfl⟩ : ∃ z, n = z + 1 := ⟨n - 1, by omega⟩
    have hih := ih (i + 1) n (by omega) (by omega)
    rw [nI_succ, show pu_it A (pu_o1 h) (i + 1) = pu_nb A (pu_it A (pu_o1 h) i) from rfl] at hih
    unfold fl_h_blockOf_6
    simp only [show (10 : Int32) = nI 10 from rfl, pu_ltI (show i < 2147483648 by omega) (show 10 < 2147483648 by omega), show i < 10 by omega, ↓reduceIte, pu_h_neighboursOf (pu_st19 hX) v wf, Option.bind_some]
    exact hih
theorem pu_h_blockOf (hX : pu_X s R) (v : pu_V I 19 A) (wf : pu_wf A) {h : Nat} (hh : h < 10) : fb_h_blockOf 42 19 (nI h) (s, I, J, R) = some (pu_mk (pu_bk A h) 10, (s, I, J, R)) := by
  have e := pu_h_blockOf_l (J := J) hX v wf h 10 0 1048576 (by omega) (by omega)
  rw [show nI 0 = 0 from rfl, show pu_mk (pu_it A (pu_o1 h) 0) 10 = pu_mk (fun k => decide (k = h)) 10 from rfl, ← pu_mk_1 hh (by omega)] at e
  unfold fb_h_blockOf
  rw [e]
  rfl
theorem pu_m_blockOf_l (hM : pu_M s R) (q : pu_Q (I 80) A) (wf : pu_wf A) (h : Nat) : ∀ d i n, i + d = 10 → d < n → fl_m_blockOf_6 n 70 (pu_mk (pu_it A (pu_o1 h) i) 10) (nI i) (s, I, J, R) = some (pu_mk (pu_bk A h) 10, (s, I, J, R)) := by
  intro d
  induction d with
  | zero =>
    intro i n hi hn
    obtain ⟨n, rfl⟩ : ∃ z, n = z + 1 := ⟨n - 1, by omega⟩
    unfold fl_m_blockOf_6
    simp only [show (10 : Int32) = nI 10 from rfl, pu_ltI (show i < 2147483648 by omega) (show 10 < 2147483648 by omega), show ¬ i < 10 by omega, ↓reduceIte]
    rw [show i = 10 by omega]
    rfl
  | succ d ih =>
    intro i n hi hn
    obtain ⟨n, rfl⟩ : ∃ z, n = z + 1 := ⟨n - 1, by omega⟩
    have hih := ih (i + 1) n (by omega) (by omega)
    rw [nI_succ, show pu_it A (pu_o1 h) (i + 1) = pu_nb A (pu_it A (pu_o1 h) i) from rfl] at hih
    unfold fl_m_blockOf_6
    simp only [show (10 : Int32) = nI 10 from rfl, pu_ltI (show i < 2147483648 by omega) (show 10 < 2147483648 by omega), show i < 10 by omega, ↓reduceIte, pu_on (pu_m70 hM), pu_m_joined hM q wf, Option.bind_some]
    exact hih
theorem pu_m_blockOf (hM : pu_M s R) (q : pu_Q (I 80) A) (wf : pu_wf A) {h : Nat} (hh : h < 10) : fb_m_blockOf 70 (nI h) (s, I, J, R) = some (pu_mk (pu_bk A h) 10, (s, I, J, R)) := by
  have e := pu_m_blockOf_l (J := J) hM q wf h 10 0 1048576 (by omega) (by omega)
  rw [show nI 0 = 0 from rfl, show pu_mk (pu_it A (pu_o1 h) 0) 10 = pu_mk (fun k => decide (k = h)) 10 from rfl, ← pu_mk_1 hh (by omega)] at e
  unfold fb_m_blockOf
  rw [e]
  rfl
end PUi
