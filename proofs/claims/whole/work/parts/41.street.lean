/-! ===== A street as numbers and truths; the class's Street at a place ===== -/
/-- rows of numbers: 0 size, fades, year, lines; 1 lean; 2 foot; 3 odd; 4 even; 5 pull. Rows of truths: 0 up, 1 standing -/
abbrev pu_A : Type := (Nat → Nat → Nat) × (Nat → Nat → Bool)
def pu_wf (A : pu_A) : Prop := A.1 0 0 ≤ 5 ∧ A.1 0 1 ≤ 9 ∧ A.1 0 3 ≤ 8 ∧ (∀ h, A.1 1 h ≤ 1000 ∧ A.1 2 h ≤ 1000) ∧ (∀ l, A.1 5 l ≤ 100) ∧
  (∀ l, l < A.1 0 3 → A.1 3 l < A.1 0 0 ∧ A.1 0 0 ≤ A.1 4 l ∧ A.1 4 l < 2 * A.1 0 0) ∧ (∀ l, A.2 0 l = true → l < A.1 0 3) ∧ (∀ h, A.2 1 h = true → h < 2 * A.1 0 0)
/-- the shapes of a Street at p -/
def pu_St (s : List (Nat × Nat)) (R : Nat → Nat → Option Nat) (p : Nat) : Prop :=
  s[p]? = some (17, 12) ∧ (s[p + 1]? = some (1, 10) ∧ s[p + 2]? = some (1, 10) ∧ s[p + 3]? = some (1, 8) ∧ s[p + 4]? = some (1, 8) ∧ s[p + 5]? = some (1, 8) ∧ s[p + 6]? = some (1, 10)) ∧
  (R p 6 = some (p + 1) ∧ R p 7 = some (p + 2) ∧ R p 8 = some (p + 3) ∧ R p 9 = some (p + 4) ∧ R p 10 = some (p + 5) ∧ R p 11 = some (p + 6))
/-- what a Street at p tells -/
def pu_V (I : Nat → Nat → Int32) (p : Nat) (A : pu_A) : Prop :=
  (I p 0 = nI (A.1 0 0) ∧ I p 1 = nI (A.1 0 1) ∧ I p 2 = nI (A.1 0 2) ∧ I p 3 = nI (A.1 0 3) ∧ I p 4 = pu_mk (A.2 0) 8 ∧ I p 5 = pu_mk (A.2 1) 10) ∧
  (∀ h, h < 10 → I (p + 1) h = nI (A.1 1 h) ∧ I (p + 2) h = nI (A.1 2 h)) ∧ (∀ l, l < A.1 0 3 → I (p + 3) l = nI (A.1 3 l) ∧ I (p + 4) l = nI (A.1 4 l) ∧ (A.2 0 l = true → I (p + 5) l = nI (A.1 5 l)))
section PUS
variable {s : List (Nat × Nat)} {I : Nat → Nat → Int32} {J : Nat → Nat → Int64} {R : Nat → Nat → Option Nat} {p : Nat} {A : pu_A}
theorem pu_s_houses (h : pu_St s R p) (v : pu_V I p A) : fb_s_houses p (s, I, J, R) = some (nI (2 * A.1 0 0), (s, I, J, R)) := by
  unfold fb_s_houses
  simp only [pu_gI h.1, Option.bind_some, v.1.1, pu_M2]
theorem pu_s_isHouse (h : pu_St s R p) (v : pu_V I p A) (wf : pu_wf A) {k : Nat} (hk : k < 2147483648) : fb_s_isHouse p (nI k) (s, I, J, R) = some (pu_b (decide (k < 2 * A.1 0 0)), (s, I, J, R)) := by
  have h5 := wf.1
  unfold fb_s_isHouse
  simp only [pu_gI h.1, Option.bind_some, v.1.1, pu_M2, pu_lt0 hk, pu_ltI hk (show 2 * A.1 0 0 < 2147483648 by omega), show ((10 : Int32) = nI 10) from rfl, pu_ltI hk (show 10 < 2147483648 by omega), ↓reduceIte]
  by_cases hx : k < 2 * A.1 0 0
  · simp only [hx, show k < 10 by omega, ↓reduceIte, decide_true, pu_bt]
  · simp only [hx, ↓reduceIte, decide_false, pu_bf]
theorem pu_s_isHouse_neg {a : Int32} (ha : a < 0) {w : tb_Hp} : fb_s_isHouse p a w = some (0, w) := by
  unfold fb_s_isHouse
  simp only [ha, ↓reduceIte]
theorem pu_s_isLine (h : pu_St s R p) (v : pu_V I p A) (wf : pu_wf A) {k : Nat} (hk : k < 2147483648) : fb_s_isLine p (nI k) (s, I, J, R) = some (pu_b (decide (k < A.1 0 3)), (s, I, J, R)) := by
  have h5 := wf.2.2.1
  unfold fb_s_isLine
  simp only [pu_gI h.1, Option.bind_some, v.1.2.2.2.1, pu_lt0 hk, pu_ltI hk (show A.1 0 3 < 2147483648 by omega), show ((8 : Int32) = nI 8) from rfl, pu_ltI hk (show 8 < 2147483648 by omega), ↓reduceIte]
  by_cases hx : k < A.1 0 3
  · simp only [hx, show k < 8 by omega, ↓reduceIte, decide_true, pu_bt]
  · simp only [hx, ↓reduceIte, decide_false, pu_bf]
theorem pu_s_isLine_neg {a : Int32} (ha : a < 0) {w : tb_Hp} : fb_s_isLine p a w = some (0, w) := by
  unfold fb_s_isLine
  simp only [ha, ↓reduceIte]
theorem pu_upbt (v : pu_V I p A) {k : Nat} (hk : k < 8) : bt (I p 4) k = A.2 0 k := by
  rw [v.1.2.2.2.2.1, pu_mk_bt _ 8 (by omega) k (by omega), decide_eq_true hk, Bool.true_and]
theorem pu_stbt (v : pu_V I p A) {k : Nat} (hk : k < 10) : bt (I p 5) k = A.2 1 k := by
  rw [v.1.2.2.2.2.2, pu_mk_bt _ 10 (by omega) k (by omega), decide_eq_true hk, Bool.true_and]
theorem pu_s_isUp (h : pu_St s R p) (v : pu_V I p A) (wf : pu_wf A) {k : Nat} (hk : k < 2147483648) : fb_s_isUp p (nI k) (s, I, J, R) = some (pu_b (A.2 0 k), (s, I, J, R)) := by
  have h5 := wf.2.2.1
  unfold fb_s_isUp
  simp only [pu_gI h.1, Option.bind_some, v.1.2.2.2.1, pu_lt0 hk, pu_ltI hk (show A.1 0 3 < 2147483648 by omega), show ((8 : Int32) = nI 8) from rfl, pu_ltI hk (show 8 < 2147483648 by omega), ↓reduceIte]
  by_cases hx : k < A.1 0 3
  · simp only [hx, show k < 8 by omega, ↓reduceIte, pu_sh (I p 4) (show k < 32 by omega), pu_upbt v (show k < 8 by omega), pu_b1]
    cases A.2 0 k <;> rfl
  · have : A.2 0 k = false := by
      cases e : A.2 0 k
      · rfl
      · exact absurd (wf.2.2.2.2.2.2.1 k e) hx
    simp only [hx, ↓reduceIte, this, pu_bf]
theorem pu_s_isUp_neg {a : Int32} (ha : a < 0) {w : tb_Hp} : fb_s_isUp p a w = some (0, w) := by
  unfold fb_s_isUp
  simp only [ha, ↓reduceIte]
theorem pu_s_stands (h : pu_St s R p) (v : pu_V I p A) (wf : pu_wf A) {k : Nat} (hk : k < 2147483648) : fb_s_stands p (nI k) (s, I, J, R) = some (pu_b (A.2 1 k), (s, I, J, R)) := by
  have h5 := wf.1
  unfold fb_s_stands
  simp only [pu_on h.1, pu_s_isHouse h v wf hk, Option.bind_some, pu_gI h.1, pu_b0, decide_eq_false_iff_not]
  by_cases hx : k < 2 * A.1 0 0
  · simp only [hx, not_true, ↓reduceIte, pu_sh (I p 5) (show k < 32 by omega), pu_stbt v (show k < 10 by omega), pu_b1]
    cases A.2 1 k <;> rfl
  · have : A.2 1 k = false := by
      cases e : A.2 1 k
      · rfl
      · exact absurd (wf.2.2.2.2.2.2.2 k e) hx
    simp only [hx, not_false_eq_true, ↓reduceIte, this, pu_bf]
theorem pu_s_stands_neg (h : pu_St s R p) {a : Int32} (ha : a < 0) : fb_s_stands p a (s, I, J, R) = some (0, (s, I, J, R)) := by
  unfold fb_s_stands
  simp only [pu_on h.1, pu_s_isHouse_neg ha, Option.bind_some, ↓reduceIte]
theorem pu_s_leanOf (h : pu_St s R p) (v : pu_V I p A) (wf : pu_wf A) {k : Nat} (hk : k < 2 * A.1 0 0) : fb_s_leanOf p (nI k) (s, I, J, R) = some (nI (A.1 1 k), (s, I, J, R)) := by
  have h5 := wf.1
  unfold fb_s_leanOf
  simp only [pu_on h.1, pu_s_isHouse h v wf (show k < 2147483648 by omega), Option.bind_some, pu_gN h.1, h.2.2.1, pu_b0, decide_eq_false_iff_not, hk, not_true, ↓reduceIte, pu_lI h.2.1.1 (show k < 10 by omega) (by omega), (v.2.1 k (by omega)).1]
theorem pu_s_footOf (h : pu_St s R p) (v : pu_V I p A) (wf : pu_wf A) {k : Nat} (hk : k < 2 * A.1 0 0) : fb_s_footOf p (nI k) (s, I, J, R) = some (nI (A.1 2 k), (s, I, J, R)) := by
  have h5 := wf.1
  unfold fb_s_footOf
  simp only [pu_on h.1, pu_s_isHouse h v wf (show k < 2147483648 by omega), Option.bind_some, pu_gN h.1, h.2.2.2.1, pu_b0, decide_eq_false_iff_not, hk, not_true, ↓reduceIte, pu_lI h.2.1.2.1 (show k < 10 by omega) (by omega), (v.2.1 k (by omega)).2]
theorem pu_s_oddOf (h : pu_St s R p) (v : pu_V I p A) (wf : pu_wf A) {k : Nat} (hk : k < A.1 0 3) : fb_s_oddOf p (nI k) (s, I, J, R) = some (nI (A.1 3 k), (s, I, J, R)) := by
  have h5 := wf.2.2.1
  unfold fb_s_oddOf
  simp only [pu_on h.1, pu_s_isLine h v wf (show k < 2147483648 by omega), Option.bind_some, pu_gN h.1, h.2.2.2.2.1, pu_b0, decide_eq_false_iff_not, hk, not_true, ↓reduceIte, pu_lI h.2.1.2.2.1 (show k < 8 by omega) (by omega), (v.2.2 k hk).1]
theorem pu_s_evenOf (h : pu_St s R p) (v : pu_V I p A) (wf : pu_wf A) {k : Nat} (hk : k < A.1 0 3) : fb_s_evenOf p (nI k) (s, I, J, R) = some (nI (A.1 4 k), (s, I, J, R)) := by
  have h5 := wf.2.2.1
  unfold fb_s_evenOf
  simp only [pu_on h.1, pu_s_isLine h v wf (show k < 2147483648 by omega), Option.bind_some, pu_gN h.1, h.2.2.2.2.2.1, pu_b0, decide_eq_false_iff_not, hk, not_true, ↓reduceIte, pu_lI h.2.1.2.2.2.1 (show k < 8 by omega) (by omega), (v.2.2 k hk).2.1]
theorem pu_s_pullOf (h : pu_St s R p) (v : pu_V I p A) (wf : pu_wf A) {k : Nat} (hk : k < A.1 0 3) : fb_s_pullOf p (nI k) (s, I, J, R) = some (I (p + 5) k, (s, I, J, R)) := by
  have h5 := wf.2.2.1
  unfold fb_s_pullOf
  simp only [pu_on h.1, pu_s_isLine h v wf (show k < 2147483648 by omega), Option.bind_some, pu_gN h.1, h.2.2.2.2.2.2.1, pu_b0, decide_eq_false_iff_not, hk, not_true, ↓reduceIte, pu_lI h.2.1.2.2.2.2.1 (show k < 8 by omega) (by omega)]
theorem pu_s_endsOf (h : pu_St s R p) (v : pu_V I p A) (wf : pu_wf A) {k : Nat} (hk : k < A.1 0 3) : fb_s_endsOf p (nI k) (s, I, J, R) = some (pu_mk (fun i => decide (i = A.1 3 k) || decide (i = A.1 4 k)) 10, (s, I, J, R)) := by
  have h5 := wf.2.2.1
  have h6 := wf.2.2.2.2.2.1 k hk
  have h7 := wf.1
  unfold fb_s_endsOf
  simp only [pu_on h.1, pu_s_isLine h v wf (show k < 2147483648 by omega), Option.bind_some, pu_gN h.1, h.2.2.2.2.1, h.2.2.2.2.2.1, pu_b0, decide_eq_false_iff_not, hk, not_true, ↓reduceIte, pu_lI h.2.1.2.2.1 (show k < 8 by omega) (show 8 ≤ 100000 by omega), pu_lI h.2.1.2.2.2.1 (show k < 8 by omega) (show 8 ≤ 100000 by omega), (v.2.2 k hk).1, (v.2.2 k hk).2.1]
  rw [pu_mk_1 (show A.1 3 k < 10 by omega) (by omega), pu_mk_1 (show A.1 4 k < 10 by omega) (by omega), pu_mk_or _ _ (by omega)]
end PUS
