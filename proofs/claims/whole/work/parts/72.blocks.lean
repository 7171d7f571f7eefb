/-! ===== blocks: how many ===== -/
theorem pu_jn_ex {A : pu_A} {f : Nat → Bool} (n : Nat) : ∀ h, pu_jn A f n h = true → f h = true ∨ ∃ l, l < n ∧ A.2 0 l = true ∧ ((A.1 4 l = h ∧ f (A.1 3 l) = true) ∨ (A.1 3 l = h ∧ f (A.1 4 l) = true)) := by
  induction n with
  | zero => intro h hf; exact Or.inl hf
  | succ n ih =>
    intro h hf
    rw [pu_jn_s, Bool.or_eq_true] at hf
    rcases hf with hf | hf
    · rcases ih h hf with z | ⟨l, h1, h2, h3⟩
      · exact Or.inl z
      · exact Or.inr ⟨l, by omega, h2, h3⟩
    · simp only [Bool.and_eq_true, Bool.or_eq_true, decide_eq_true_eq] at hf
      exact Or.inr ⟨n, by omega, hf.1, hf.2⟩
theorem pu_jn_in {A : pu_A} {f : Nat → Bool} {l : Nat} (hu : A.2 0 l = true) (n : Nat) : l < n → (f (A.1 3 l) = true → pu_jn A f n (A.1 4 l) = true) ∧ (f (A.1 4 l) = true → pu_jn A f n (A.1 3 l) = true) := by
  induction n with
  | zero => intro h; omega
  | succ n ih =>
    intro h
    by_cases e : l = n
    · subst e
      constructor
      · intro hf
        rw [pu_jn_s, hu, hf, decide_eq_true rfl]; simp
      · intro hf
        rw [pu_jn_s, hu, hf, decide_eq_true rfl]; simp
    · have := ih (by omega)
      constructor
      · intro hf
        rw [pu_jn_s, this.1 hf, Bool.true_or]
      · intro hf
        rw [pu_jn_s, this.2 hf, Bool.true_or]
/-- alike along every line that is up -/
def pu_cl2 (A : pu_A) (g : Nat → Bool) : Prop := ∀ l, A.2 0 l = true → g (A.1 3 l) = g (A.1 4 l)
theorem pu_it_min {A : pu_A} {g : Nat → Bool} (hg : pu_cl2 A g) {h : Nat} (hh : g h = true) (n : Nat) : ∀ k, pu_it A (pu_o1 h) n k = true → g k = true := by
  induction n with
  | zero =>
    intro k hk
    have hk : decide (k = h) = true := hk
    rw [decide_eq_true_eq] at hk
    rw [hk]; exact hh
  | succ n ih =>
    intro k hk
    rcases pu_jn_ex (A.1 0 3) k hk with z | ⟨l, h1, h2, h3⟩
    · exact ih k z
    · rcases h3 with ⟨e, z⟩ | ⟨e, z⟩
      · have := ih _ z
        rw [hg l h2, e] at this
        exact this
      · have := ih _ z
        rw [← hg l h2, e] at this
        exact this
theorem pu_bk_self (A : pu_A) (h : Nat) : pu_bk A h h = true := pu_it_0 10 (show pu_o1 h h = true from decide_eq_true rfl)
theorem pu_bk_cl {A : pu_A} (wf : pu_wf A) {h : Nat} (hh : h < 10) : pu_cl2 A (pu_bk A h) := by
  intro l hu
  have h5 := wf.1
  have hl := wf.2.2.2.2.2.2.1 l hu
  obtain ⟨g1, g2, g3⟩ := wf.2.2.2.2.2.1 l hl
  have e9 := pu_it_10 wf hh (show pu_o1 h h = true from decide_eq_true rfl)
  have e11 : ∀ k, k < 10 → pu_it A (pu_o1 h) 11 k = pu_bk A h k := fun k hk => by
    have := pu_it_st wf e9 2 k hk
    rw [show 9 + 2 = 11 by omega] at this
    rw [this]
    exact (e9 k hk).symm
  have hi := pu_jn_in (f := pu_bk A h) hu (A.1 0 3) hl
  cases e3 : pu_bk A h (A.1 3 l)
  · cases e4 : pu_bk A h (A.1 4 l)
    · rfl
    · have := hi.2 e4
      have h2 : pu_it A (pu_o1 h) 11 (A.1 3 l) = true := this
      rw [e11 _ (by omega), e3] at h2
      exact h2
  · have := hi.1 e3
    have h2 : pu_it A (pu_o1 h) 11 (A.1 4 l) = true := this
    rw [e11 _ (by omega)] at h2
    rw [h2]
theorem pu_bk_sym {A : pu_A} (wf : pu_wf A) {h k : Nat} (hk : k < 10) (e : pu_bk A h k = true) : pu_bk A k h = true := by
  cases e2 : pu_bk A k h
  · have hc : pu_cl2 A (fun x => !pu_bk A k x) := fun l hu => by
      show (!pu_bk A k (A.1 3 l)) = (!pu_bk A k (A.1 4 l))
      rw [pu_bk_cl wf hk l hu]
    have := pu_it_min hc (show (!pu_bk A k h) = true by rw [e2]; rfl) 10 k e
    have : (!pu_bk A k k) = true := this
    rw [pu_bk_self] at this
    cases this
  · rfl
theorem pu_bk_eq {A : pu_A} (wf : pu_wf A) {h k : Nat} (hh : h < 10) (hk : k < 10) (e : pu_bk A h k = true) : ∀ x, pu_bk A k x = pu_bk A h x := by
  intro x
  cases e1 : pu_bk A h x
  · cases e2 : pu_bk A k x
    · rfl
    · exact absurd (pu_it_min (pu_bk_cl wf hh) e 10 x e2) (by rw [e1]; decide)
  · exact pu_it_min (pu_bk_cl wf hk) (pu_bk_sym wf hk e) 10 x e1
theorem pu_bk_st {A : pu_A} (we : pu_we A) {h k : Nat} (hs : A.2 1 h = true) (e : pu_bk A h k = true) : A.2 1 k = true := by
  have hc : pu_cl2 A (A.2 1) := fun l hu => by rw [(we l hu).1, (we l hu).2]
  exact pu_it_min hc hs 10 k e
theorem pu_ff_cong {f g : Nat → Bool} (n : Nat) : ∀ i, (∀ k, f k = g k) → pu_ff f n i = pu_ff g n i := by
  induction n with
  | zero => intro i _; rfl
  | succ n ih =>
    intro i e
    show (if f i = true then i else pu_ff f n (i + 1)) = (if g i = true then i else pu_ff g n (i + 1))
    rw [e i, ih (i + 1) e]
/-- the least of a block stands for it -/
def pu_cb (A : pu_A) (j : Nat) : Bool := A.2 1 j && decide (pu_ff (pu_bk A j) 10 0 = j)
def pu_lf (A : pu_A) : Nat → Nat → Bool
  | 0, k => A.2 1 k
  | i + 1, k => pu_lf A i k && !(pu_cb A i && pu_bk A i k)
theorem pu_lf_iff {A : pu_A} {k : Nat} (i : Nat) : pu_lf A i k = true ↔ A.2 1 k = true ∧ ∀ j, j < i → pu_cb A j = true → pu_bk A j k = false := by
  induction i with
  | zero =>
    constructor
    · intro h; exact ⟨h, fun j hj => absurd hj (Nat.not_lt_zero j)⟩
    · intro h; exact h.1
  | succ i ih =>
    show (pu_lf A i k && !(pu_cb A i && pu_bk A i k)) = true ↔ _
    rw [Bool.and_eq_true, ih, Bool.not_eq_true']
    constructor
    · intro ⟨⟨h1, h2⟩, h3⟩
      refine ⟨h1, fun j hj hc => ?_⟩
      by_cases e : j = i
      · subst e
        rw [hc, Bool.true_and] at h3
        exact h3
      · exact h2 j (by omega) hc
    · intro ⟨h1, h2⟩
      refine ⟨⟨h1, fun j hj hc => h2 j (by omega) hc⟩, ?_⟩
      cases hc : pu_cb A i
      · rfl
      · rw [h2 i (by omega) hc]; rfl
theorem pu_lf_cb {A : pu_A} (wf : pu_wf A) (we : pu_we A) {i : Nat} (hi : i < 10) : pu_lf A i i = pu_cb A i := by
  have hself := pu_bk_self A i
  cases hc : pu_cb A i
  · cases hl : pu_lf A i i
    · rfl
    · exfalso
      obtain ⟨h1, h2⟩ := (pu_lf_iff i).mp hl
      have hm : pu_ff (pu_bk A i) 10 0 ≤ i := by
        rcases Nat.lt_or_ge i (pu_ff (pu_bk A i) 10 0) with h | h
        · have := pu_ff_no (pu_bk A i) 10 0 i (by omega) h
          rw [hself] at this
          cases this
        · exact h
      have hy := pu_ff_yes (pu_bk A i) 10 0 (by omega)
      by_cases e : pu_ff (pu_bk A i) 10 0 = i
      · unfold pu_cb at hc
        rw [h1, decide_eq_true e] at hc
        cases hc
      · have hst := pu_bk_st we h1 hy
        have heq := pu_bk_eq wf hi (show pu_ff (pu_bk A i) 10 0 < 10 by omega) hy
        have hcm : pu_cb A (pu_ff (pu_bk A i) 10 0) = true := by
          unfold pu_cb
          rw [hst, decide_eq_true (pu_ff_cong 10 0 heq)]
          rfl
        have := h2 _ (by omega) hcm
        rw [heq i, hself] at this
        cases this
  · unfold pu_cb at hc
    rw [Bool.and_eq_true, decide_eq_true_eq] at hc
    refine (pu_lf_iff i).mpr ⟨hc.1, fun j hj hcj => ?_⟩
    cases e : pu_bk A j i
    · rfl
    · have h2 := pu_bk_sym wf hi e
      have := pu_ff_no (pu_bk A i) 10 0 j (by omega) (by omega)
      rw [h2] at this
      cases this
def pu_a_blocks (A : pu_A) (a : Int32) : Int32 := if A.1 0 0 = 0 then -2 else if a = -1 then nI (pu_ct (pu_cb A) (2 * A.1 0 0)) else if pu_hs A a = false then -2 else pu_mk (pu_bk A a.toNatClampNeg) 10
section PUj
variable {s : List (Nat × Nat)} {R : Nat → Nat → Option Nat} {I : Nat → Nat → Int32} {J : Nat → Nat → Int64} {A : pu_A}
theorem pu_h_blockCount_l (hX : pu_X s R) (v : pu_V I 19 A) (wf : pu_wf A) (we : pu_we A) : ∀ d i n, i + d = 2 * A.1 0 0 → d < n → fl_h_blockCount_7 n 42 19 (pu_mk (pu_lf A i) 10) (nI (pu_ct (pu_cb A) i)) (nI i) (s, I, J, R) = some (nI (pu_ct (pu_cb A) (2 * A.1 0 0)), (s, I, J, R)) := by
  intro d
  have h5 := wf.1
  induction d with
  | zero =>
    intro i n hi hn
    obtain ⟨n, rfl⟩ : ∃ z, n = z + 1 := ⟨n - 1, by omega⟩
    unfold fl_h_blockCount_7
    simp only [pu_on (pu_c19 hX), pu_s_houses (pu_st19 hX) v, Option.bind_some, pu_ltI (show i < 2147483648 by omega) (show 2 * A.1 0 0 < 2147483648 by omega), show ¬ i < 2 * A.1 0 0 by omega, ↓reduceIte]
    rw [show i = 2 * A.1 0 0 by omega]
  | succ d ih =>
    intro i n hi hn
    obtain ⟨n, rfl⟩ : ∃ z, n = z + 1 := ⟨n - 1, by omega⟩
    have hih := ih (i + 1) n (by omega) (by omega)
    have ect : pu_ct (pu_cb A) (i + 1) = pu_ct (pu_cb A) i + (if pu_cb A i then 1 else 0) := rfl
    rw [nI_succ, ect] at hih
    unfold fl_h_blockCount_7
    simp only [pu_on (pu_c19 hX), pu_s_houses (pu_st19 hX) v, Option.bind_some, pu_ltI (show i < 2147483648 by omega) (show 2 * A.1 0 0 < 2147483648 by omega), show i < 2 * A.1 0 0 by omega, ↓reduceIte, pu_bit10 _ (show i < 10 by omega), pu_lf_cb wf we (show i < 10 by omega), pu_on (pu_c42 hX), pu_h_blockOf hX v wf (show i < 10 by omega)]
    cases hc : pu_cb A i
    · have e : pu_mk (pu_lf A (i + 1)) 10 = pu_mk (pu_lf A i) 10 := pu_mk_cong 10 (fun k _ => by
        show (pu_lf A i k && !(pu_cb A i && pu_bk A i k)) = _
        rw [hc]; simp)
      simp only [hc, Bool.false_eq_true, ↓reduceIte, Nat.add_zero, e] at hih ⊢
      exact hih
    · have e : pu_mk (pu_lf A i) 10 &&& (pu_mk (pu_bk A i) 10 ^^^ (-1)) = pu_mk (pu_lf A (i + 1)) 10 := by
        rw [pu_mk_no _ _ (by omega) (by omega)]
        exact pu_mk_cong 10 (fun k hk => by
          show _ = (pu_lf A i k && !(pu_cb A i && pu_bk A i k))
          rw [hc, decide_eq_true hk])
      simp only [hc, ↓reduceIte, e, pu_R1] at hih ⊢
      exact hih
theorem pu_x_blocks (hX : pu_X s R) (v : pu_V I 19 A) (wf : pu_wf A) (we : pu_we A) (a : Int32) : ∃ I' J', fb_x_blocks 1 a (s, I, J, R) = some (pu_a_blocks A a, (s, I', J', R)) ∧ pu_Cf I I' J J' := by
  have h5 := wf.1
  refine ⟨I, J, ?_, pu_Cf.rf⟩
  unfold fb_x_blocks pu_a_blocks
  by_cases ha : a = -1
  · simp only [ha, ↓reduceIte, pu_gN (pu_c1 hX), pu_f1_5 hX, pu_f1_9 hX, Option.bind_some, pu_on (pu_c18 hX), pu_sc_isEmpty hX v wf, pu_b0, decide_eq_false_iff_not]
    by_cases h0 : A.1 0 0 = 0
    · simp only [h0, not_true, ↓reduceIte]
    · have e := pu_h_blockCount_l (J := J) hX v wf we (2 * A.1 0 0) 0 1048576 (by omega) (by omega)
      rw [show nI 0 = 0 from rfl, show pu_mk (pu_lf A 0) 10 = pu_mk (A.2 1) 10 from rfl, show nI (pu_ct (pu_cb A) 0) = 0 from rfl] at e
      simp only [h0, not_false_eq_true, ↓reduceIte, pu_gN (pu_c18 hX), pu_f18_0 hX, Option.bind_some, pu_on (pu_c42 hX), fb_h_blockCount, pu_gI (pu_c19 hX), v.1.2.2.2.2.2, e]
  · simp only [ha, ↓reduceIte, pu_gN (pu_c1 hX), pu_f1_5 hX, pu_f1_9 hX, Option.bind_some, pu_gN (pu_c18 hX), pu_f18_0 hX, pu_on (pu_c19 hX), pu_s_standsA (pu_st19 hX) v wf, pu_b0]
    cases h1 : pu_hs A a
    · simp only [↓reduceIte, ite_self]
    · obtain ⟨k, hk, rfl, -⟩ := pu_hs_n wf h1
      simp only [Bool.true_eq_false, ↓reduceIte, pu_gN (pu_c1 hX), pu_f1_5 hX, pu_f1_9 hX, Option.bind_some, pu_gN (pu_c18 hX), pu_f18_0 hX, pu_on (pu_c42 hX), pu_h_blockOf hX v wf (show k < 10 by omega), show ¬ A.1 0 0 = 0 by omega]
      rw [pu_cl (show k < 2147483648 by omega)]
theorem pu_m_blocks_l (hM : pu_M s R) (q : pu_Q (I 80) A) (wf : pu_wf A) : ∀ d i n, i + d = 2 * A.1 0 0 → d < n → fl_m_blocks_22 n 70 (nI (pu_ct (pu_cb A) i)) (nI i) (s, I, J, R) = some (nI (pu_ct (pu_cb A) (2 * A.1 0 0)), (s, I, J, R)) := by
  intro d
  have h5 := wf.1
  induction d with
  | zero =>
    intro i n hi hn
    obtain ⟨n, rfl⟩ : ∃ z, n = z + 1 := ⟨n - 1, by omega⟩
    unfold fl_m_blocks_22
    simp only [pu_on (pu_m70 hM), pu_m_houses hM q, Option.bind_some, pu_ltI (show i < 2147483648 by omega) (show 2 * A.1 0 0 < 2147483648 by omega), show ¬ i < 2 * A.1 0 0 by omega, ↓reduceIte]
    rw [show i = 2 * A.1 0 0 by omega]
  | succ d ih =>
    intro i n hi hn
    obtain ⟨n, rfl⟩ : ∃ z, n = z + 1 := ⟨n - 1, by omega⟩
    have hih := ih (i + 1) n (by omega) (by omega)
    have ect : pu_ct (pu_cb A) (i + 1) = pu_ct (pu_cb A) i + (if pu_cb A i then 1 else 0) := rfl
    rw [nI_succ, ect] at hih
    have hne : pu_mk (pu_bk A i) 10 ≠ 0 := by
      rw [Ne, pu_mk0 (by omega)]
      intro hall
      have := hall i (by omega)
      rw [pu_bk_self] at this
      cases this
    have hlt := pu_ff_lt hne
    unfold fl_m_blocks_22
    simp only [pu_on (pu_m70 hM), pu_m_houses hM q, Option.bind_some, pu_ltI (show i < 2147483648 by omega) (show 2 * A.1 0 0 < 2147483648 by omega), show i < 2 * A.1 0 0 by omega, ↓reduceIte, pu_m_isStanding hM q wf (show i < 2147483648 by omega), pu_b0]
    cases h1 : A.2 1 i
    · have hc : pu_cb A i = false := by unfold pu_cb; rw [h1]; rfl
      simp only [hc, Bool.false_eq_true, ↓reduceIte, Nat.add_zero] at hih ⊢
      rw [Int32.add_zero]
      exact hih
    · simp only [Bool.true_eq_false, ↓reduceIte, pu_on (pu_m70 hM), pu_m_blockOf hM q wf (show i < 10 by omega), Option.bind_some, pu_m_leastOf hne, pu_eqI (show pu_ff (pu_bk A i) 10 0 < 2147483648 by omega) (show i < 2147483648 by omega)]
      by_cases h2 : pu_ff (pu_bk A i) 10 0 = i
      · have hc : pu_cb A i = true := by unfold pu_cb; rw [h1, decide_eq_true h2]; rfl
        simp only [hc, h2, ↓reduceIte, pu_R1] at hih ⊢
        exact hih
      · have hc : pu_cb A i = false := by unfold pu_cb; rw [decide_eq_false h2, Bool.and_false]
        simp only [hc, h2, Bool.false_eq_true, ↓reduceIte, Nat.add_zero] at hih ⊢
        rw [Int32.add_zero]
        exact hih
theorem pu_m_blocks (hM : pu_M s R) (q : pu_Q (I 80) A) (wf : pu_wf A) (a : Int32) : ∃ I' J', fb_m_blocks 70 a (s, I, J, R) = some (pu_a_blocks A a, (s, I', J', R)) ∧ pu_Zf I I' J J' := by
  have h5 := wf.1
  refine ⟨I, J, ?_, pu_Zf.rf⟩
  unfold fb_m_blocks pu_a_blocks
  simp only [pu_on (pu_m70 hM), pu_m_isStreet hM q, Option.bind_some, pu_b0, decide_eq_false_iff_not]
  by_cases h0 : A.1 0 0 = 0
  · simp only [h0, Nat.lt_irrefl, not_false_eq_true, ↓reduceIte]
  · simp only [show 0 < A.1 0 0 by omega, not_true, ↓reduceIte, h0]
    by_cases ha : a = -1
    · have e := pu_m_blocks_l (J := J) hM q wf (2 * A.1 0 0) 0 1048576 (by omega) (by omega)
      rw [show nI 0 = 0 from rfl, show nI (pu_ct (pu_cb A) 0) = 0 from rfl] at e
      simp only [ha, ↓reduceIte, e, Option.bind_some]
    · simp only [ha, ↓reduceIte, pu_m_isStandingA hM q wf, Option.bind_some, pu_b0]
      cases h1 : pu_hs A a
      · simp only [↓reduceIte]
      · obtain ⟨k, hk, rfl, -⟩ := pu_hs_n wf h1
        simp only [Bool.true_eq_false, ↓reduceIte, pu_on (pu_m70 hM), pu_m_blockOf hM q wf (show k < 10 by omega), Option.bind_some]
        rw [pu_cl (show k < 2147483648 by omega)]
end PUj
