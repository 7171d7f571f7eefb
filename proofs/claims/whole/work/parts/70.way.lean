/-! ===== way: hand over hand ===== -/
def pu_jn (A : pu_A) (f : Nat → Bool) : Nat → Nat → Bool
  | 0, h => f h
  | n + 1, h => pu_jn A f n h || (A.2 0 n && ((decide (A.1 4 n = h) && f (A.1 3 n)) || (decide (A.1 3 n = h) && f (A.1 4 n))))
def pu_nb (A : pu_A) (f : Nat → Bool) : Nat → Bool := pu_jn A f (A.1 0 3)
def pu_it (A : pu_A) (f : Nat → Bool) : Nat → Nat → Bool
  | 0 => f
  | n + 1 => pu_nb A (pu_it A f n)
theorem pu_jn_s (A : pu_A) (f : Nat → Bool) (n h : Nat) : pu_jn A f (n + 1) h = (pu_jn A f n h || (A.2 0 n && ((decide (A.1 4 n = h) && f (A.1 3 n)) || (decide (A.1 3 n = h) && f (A.1 4 n))))) := rfl
theorem pu_jn_m {A : pu_A} {f : Nat → Bool} (n : Nat) : ∀ h, f h = true → pu_jn A f n h = true := by
  induction n with
  | zero => intro h hf; exact hf
  | succ n ih => intro h hf; rw [pu_jn_s, ih h hf, Bool.true_or]
theorem pu_it_m {A : pu_A} {f : Nat → Bool} {n h : Nat} (hf : pu_it A f n h = true) : pu_it A f (n + 1) h = true := pu_jn_m _ h hf
theorem pu_it_0 {A : pu_A} {f : Nat → Bool} (n : Nat) {h : Nat} (hf : f h = true) : pu_it A f n h = true := by
  induction n with
  | zero => exact hf
  | succ n ih => exact pu_it_m ih
theorem pu_jn_cong {A : pu_A} (wf : pu_wf A) {f g : Nat → Bool} (e : ∀ k, k < 10 → f k = g k) (n : Nat) : ∀ h, h < 10 → pu_jn A f n h = pu_jn A g n h := by
  have h5 := wf.1
  induction n with
  | zero => intro h hh; exact e h hh
  | succ n ih =>
    intro h hh
    rw [pu_jn_s, pu_jn_s, ih h hh]
    cases hu : A.2 0 n
    · rfl
    · have hl := wf.2.2.2.2.2.2.1 n hu
      obtain ⟨g1, g2, g3⟩ := wf.2.2.2.2.2.1 n hl
      rw [e (A.1 3 n) (by omega), e (A.1 4 n) (by omega)]
/-- once nothing is new, nothing is new any more -/
theorem pu_it_st {A : pu_A} (wf : pu_wf A) {f : Nat → Bool} {n : Nat} (e : ∀ k, k < 10 → pu_it A f (n + 1) k = pu_it A f n k) : ∀ m k, k < 10 → pu_it A f (n + m) k = pu_it A f n k := by
  intro m
  induction m with
  | zero => intro k _; rfl
  | succ m ih =>
    intro k hk
    show pu_nb A (pu_it A f (n + m)) k = _
    have := pu_jn_cong wf ih (A.1 0 3) k hk
    show pu_jn A (pu_it A f (n + m)) (A.1 0 3) k = _
    rw [this]
    exact e k hk
theorem pu_ct_all {f : Nat → Bool} : ∀ n, pu_ct f n = n → ∀ k, k < n → f k = true
  | 0, _, k, hk => absurd hk (Nat.not_lt_zero k)
  | n + 1, h, k, hk => by
    have e : pu_ct f (n + 1) = pu_ct f n + (if f n then 1 else 0) := rfl
    rw [e] at h
    have h1 := pu_ct_le f n
    have h2 : f n = true := by
      cases e2 : f n
      · rw [e2, if_neg (by decide)] at h; omega
      · rfl
    rw [h2, if_pos rfl] at h
    by_cases hk2 : k = n
    · rw [hk2]; exact h2
    · exact pu_ct_all n (by omega) k (by omega)
theorem pu_ct_pos {f : Nat → Bool} {n k : Nat} (hk : k < n) (h : f k = true) : 0 < pu_ct f n := by
  have := pu_ct_lt (f := f) (g := fun _ => false) n (fun _ _ h => by cases h) ⟨k, hk, h, rfl⟩
  omega
/-- it grows, or it stands still -/
theorem pu_it_gr {A : pu_A} (wf : pu_wf A) {f : Nat → Bool} {h0 : Nat} (hh : h0 < 10) (hf : f h0 = true) (n : Nat) : n + 1 ≤ pu_ct (pu_it A f n) 10 ∨ ∀ k, k < 10 → pu_it A f (n + 1) k = pu_it A f n k := by
  induction n with
  | zero => exact Or.inl (pu_ct_pos hh hf)
  | succ n ih =>
    rcases ih with h | h
    · by_cases hx : ∀ k, k < 10 → pu_it A f (n + 1) k = pu_it A f n k
      · refine Or.inr (fun k hk => ?_)
        have e1 := pu_it_st wf hx 2 k hk
        have e2 := hx k hk
        rw [show n + 1 + 1 = n + 2 by omega, e1, e2]
      · left
        obtain ⟨k, hk⟩ := Classical.not_forall.mp hx
        obtain ⟨hk10, hk2⟩ := Classical.not_imp.mp hk
        have := pu_ct_lt (f := pu_it A f (n + 1)) (g := pu_it A f n) 10 (fun z _ hz => pu_it_m hz) ⟨k, hk10, by
          cases e1 : pu_it A f (n + 1) k
          · cases e2 : pu_it A f n k
            · exact absurd (e1.trans e2.symm) hk2
            · exact absurd (pu_it_m e2) (by rw [e1]; decide)
          · rfl, by
          cases e2 : pu_it A f n k
          · rfl
          · exact absurd ((pu_it_m e2).trans e2.symm) hk2⟩
        omega
    · refine Or.inr (fun k hk => ?_)
      have e1 := pu_it_st wf h 2 k hk
      have e2 := h k hk
      rw [show n + 1 + 1 = n + 2 by omega, e1, e2]
theorem pu_it_10 {A : pu_A} (wf : pu_wf A) {f : Nat → Bool} {h0 : Nat} (hh : h0 < 10) (hf : f h0 = true) : ∀ k, k < 10 → pu_it A f 10 k = pu_it A f 9 k := by
  rcases pu_it_gr wf hh hf 9 with h | h
  · intro k hk
    have hle := pu_ct_le (pu_it A f 9) 10
    have := pu_ct_all 10 (show pu_ct (pu_it A f 9) 10 = 10 by omega) k hk
    rw [this]
    exact pu_it_m this
  · exact h
section PUh
variable {s : List (Nat × Nat)} {R : Nat → Nat → Option Nat} {I : Nat → Nat → Int32} {J : Nat → Nat → Int64} {A : pu_A}
theorem pu_h_neighbours_l {p : Nat} (h : pu_St s R p) (v : pu_V I p A) (wf : pu_wf A) (f : Nat → Bool) : ∀ d i n, i + d = A.1 0 3 → d < n → fl_h_neighboursOf_4 n p (pu_mk f 10) (pu_mk (pu_jn A f i) 10) (nI i) (s, I, J, R) = some (pu_mk (pu_nb A f) 10, (s, I, J, R)) := by
  intro d
  have h5 := wf.2.2.1
  have h7 := wf.1
  induction d with
  | zero =>
    intro i n hi hn
    obtain ⟨n, rfl⟩ : ∃ z, n = z + 1 := ⟨n - 1, by omega⟩
    unfold fl_h_neighboursOf_4
    simp only [pu_gI h.1, Option.bind_some, v.1.2.2.2.1, pu_ltI (show i < 2147483648 by omega) (show A.1 0 3 < 2147483648 by omega), show ¬ i < A.1 0 3 by omega, ↓reduceIte]
    rw [show i = A.1 0 3 by omega]
    rfl
  | succ d ih =>
    intro i n hi hn
    obtain ⟨n, rfl⟩ : ∃ z, n = z + 1 := ⟨n - 1, by omega⟩
    have hil : i < A.1 0 3 := by omega
    obtain ⟨g1, g2, g3⟩ := wf.2.2.2.2.2.1 i hil
    have hih := ih (i + 1) n (by omega) (by omega)
    rw [nI_succ] at hih
    unfold fl_h_neighboursOf_4
    simp only [pu_gI h.1, Option.bind_some, v.1.2.2.2.1, pu_ltI (show i < 2147483648 by omega) (show A.1 0 3 < 2147483648 by omega), hil, ↓reduceIte, pu_on h.1, pu_s_isUp h v wf (show i < 2147483648 by omega), pu_s_endsOf h v wf hil, pu_b0, pu_mk_and _ _ (show 10 ≤ 32 by omega), pu_mk_or _ _ (show 10 ≤ 32 by omega)]
    cases hu : A.2 0 i
    · have e : pu_mk (pu_jn A f (i + 1)) 10 = pu_mk (pu_jn A f i) 10 := pu_mk_cong 10 (fun k _ => by rw [pu_jn_s, hu, Bool.false_and, Bool.or_false])
      rw [e] at hih
      simp only [↓reduceIte]
      exact hih
    · simp only [Bool.true_eq_false, ↓reduceIte]
      by_cases hz : f (A.1 3 i) = true ∨ f (A.1 4 i) = true
      · rw [if_neg]
        · have e : pu_mk (fun k => pu_jn A f i k || (decide (k = A.1 3 i) || decide (k = A.1 4 i))) 10 = pu_mk (pu_jn A f (i + 1)) 10 := pu_mk_cong 10 (fun k _ => by
            rw [pu_jn_s, hu, Bool.true_and]
            by_cases k3 : k = A.1 3 i
            · subst k3
              have n4 : ¬ A.1 4 i = A.1 3 i := by omega
              cases e3 : f (A.1 3 i)
              · rcases hz with hz | hz
                · rw [e3] at hz; cases hz
                · simp [hz]
              · simp [pu_jn_m i _ e3]
            · by_cases k4 : k = A.1 4 i
              · subst k4
                cases e4 : f (A.1 4 i)
                · rcases hz with hz | hz
                  · simp [hz]
                  · rw [e4] at hz; cases hz
                · simp [pu_jn_m i _ e4]
              · have n3 : ¬ A.1 3 i = k := fun z => k3 z.symm
                have n4 : ¬ A.1 4 i = k := fun z => k4 z.symm
                simp [k3, k4, n3, n4])
          simp only [pu_on h.1, pu_s_endsOf h v wf hil, Option.bind_some, pu_mk_or _ _ (show 10 ≤ 32 by omega), e]
          exact hih
        · rw [pu_mk0 (by omega)]
          intro hall
          rcases hz with hz | hz
          · have := hall (A.1 3 i) (by omega)
            simp [hz] at this
          · have := hall (A.1 4 i) (by omega)
            simp [hz] at this
      · rw [if_pos]
        · have e : pu_mk (pu_jn A f (i + 1)) 10 = pu_mk (pu_jn A f i) 10 := pu_mk_cong 10 (fun k _ => by
            rw [pu_jn_s]
            rw [not_or] at hz
            simp [hz.1, hz.2])
          rw [e] at hih
          exact hih
        · rw [pu_mk0 (by omega)]
          intro k _
          rw [not_or] at hz
          by_cases k1 : k = A.1 3 i
          · subst k1; simp [hz.1]
          · by_cases k2 : k = A.1 4 i
            · subst k2; simp [hz.2]
            · simp [k1, k2]
theorem pu_h_neighboursOf {p : Nat} (h : pu_St s R p) (v : pu_V I p A) (wf : pu_wf A) (f : Nat → Bool) : fb_h_neighboursOf p (pu_mk f 10) (s, I, J, R) = some (pu_mk (pu_nb A f) 10, (s, I, J, R)) := by
  have h5 := wf.2.2.1
  have e := pu_h_neighbours_l (J := J) h v wf f (A.1 0 3) 0 1048576 (by omega) (by omega)
  rw [show pu_jn A f 0 = f from rfl, show nI 0 = 0 from rfl] at e
  unfold fb_h_neighboursOf
  rw [e]
  rfl
theorem pu_m_joined_l (hM : pu_M s R) (q : pu_Q (I 80) A) (wf : pu_wf A) (f : Nat → Bool) : ∀ d i n, i + d = A.1 0 3 → d < n → fl_m_joined_4 n 70 (pu_mk f 10) (pu_mk (pu_jn A f i) 10) (nI i) (s, I, J, R) = some (pu_mk (pu_nb A f) 10, (s, I, J, R)) := by
  intro d
  have h5 := wf.2.2.1
  have h7 := wf.1
  induction d with
  | zero =>
    intro i n hi hn
    obtain ⟨n, rfl⟩ : ∃ z, n = z + 1 := ⟨n - 1, by omega⟩
    unfold fl_m_joined_4
    simp only [pu_gN (pu_m70 hM), pu_r20 hM, Option.bind_some, pu_cell' hM (show (11 : Int32) = nI 11 from rfl) (show 11 < 149 by omega), q.1.2.2.2.2, pu_ltI (show i < 2147483648 by omega) (show A.1 0 3 < 2147483648 by omega), show ¬ i < A.1 0 3 by omega, ↓reduceIte]
    rw [show i = A.1 0 3 by omega]
    rfl
  | succ d ih =>
    intro i n hi hn
    obtain ⟨n, rfl⟩ : ∃ z, n = z + 1 := ⟨n - 1, by omega⟩
    have hil : i < A.1 0 3 := by omega
    obtain ⟨g1, g2, g3⟩ := wf.2.2.2.2.2.1 i hil
    have hih := ih (i + 1) n (by omega) (by omega)
    rw [nI_succ] at hih
    have hb : ∀ k, k < 10 → ((pu_mk f 10 >>> (nI k &&& 31)) &&& 1 = 1) = (f k = true) := fun k hk => by
      rw [pu_sh _ (by omega), pu_mk_bt f 10 (by omega) k (by omega), decide_eq_true hk, Bool.true_and, pu_b1]
    unfold fl_m_joined_4
    simp only [pu_gN (pu_m70 hM), pu_r20 hM, Option.bind_some, pu_cell' hM (show (11 : Int32) = nI 11 from rfl) (show 11 < 149 by omega), q.1.2.2.2.2, pu_ltI (show i < 2147483648 by omega) (show A.1 0 3 < 2147483648 by omega), hil, ↓reduceIte, pu_on (pu_m70 hM), pu_m_isUp hM q wf (show i < 2147483648 by omega), pu_b0]
    cases hu : A.2 0 i
    · have e : pu_mk (pu_jn A f (i + 1)) 10 = pu_mk (pu_jn A f i) 10 := pu_mk_cong 10 (fun k _ => by rw [pu_jn_s, hu, Bool.false_and, Bool.or_false])
      rw [e] at hih
      simp only [↓reduceIte]
      exact hih
    · simp only [Bool.true_eq_false, ↓reduceIte, pu_m_oddOf hM q wf hil, Option.bind_some, fb_m_isOf, hb (A.1 3 i) (by omega)]
      have one : ∀ k, k < 10 → (1 : Int32) <<< (nI k &&& 31) = pu_mk (fun z => decide (z = k)) 10 := fun k hk => pu_mk_1 hk (by omega)
      cases e3 : f (A.1 3 i)
      · simp only [Bool.false_eq_true, ↓reduceIte, Option.bind_some, fj_m_joined_j29, pu_on (pu_m70 hM), pu_m_evenOf hM q wf hil, pu_m_oddOf hM q wf hil, fb_m_isOf, hb (A.1 4 i) (by omega)]
        cases e4 : f (A.1 4 i)
        · have e : pu_mk (pu_jn A f (i + 1)) 10 = pu_mk (pu_jn A f i) 10 := pu_mk_cong 10 (fun k _ => by rw [pu_jn_s, e3, e4]; simp)
          rw [e] at hih
          simp only [Bool.false_eq_true, ↓reduceIte, Option.bind_some]
          exact hih
        · have e : pu_mk (pu_jn A f i) 10 ||| (1 : Int32) <<< (nI (A.1 3 i) &&& 31) = pu_mk (pu_jn A f (i + 1)) 10 := by
            rw [one _ (by omega), pu_mk_or _ _ (by omega)]
            exact pu_mk_cong 10 (fun k _ => by
              rw [pu_jn_s, e3, e4, hu]
              by_cases z : k = A.1 3 i
              · subst z; simp
              · have z2 : ¬ A.1 3 i = k := fun y => z y.symm
                simp [z, z2])
          simp only [↓reduceIte, Option.bind_some, show ¬ ((1 : Int32) = 0) by decide, pu_on (pu_m70 hM), pu_m_oddOf hM q wf hil, e]
          exact hih
      · simp only [↓reduceIte, Option.bind_some, show ¬ ((1 : Int32) = 0) by decide, fj_m_joined_j29, pu_on (pu_m70 hM), pu_m_evenOf hM q wf hil, pu_m_oddOf hM q wf hil, fb_m_isOf, hb (A.1 4 i) (by omega)]
        cases e4 : f (A.1 4 i)
        · have e : pu_mk (pu_jn A f i) 10 ||| (1 : Int32) <<< (nI (A.1 4 i) &&& 31) = pu_mk (pu_jn A f (i + 1)) 10 := by
            rw [one _ (by omega), pu_mk_or _ _ (by omega)]
            exact pu_mk_cong 10 (fun k _ => by
              rw [pu_jn_s, e3, e4, hu]
              by_cases z : k = A.1 4 i
              · subst z; simp
              · have z2 : ¬ A.1 4 i = k := fun y => z y.symm
                simp [z, z2])
          simp only [Bool.false_eq_true, ↓reduceIte, Option.bind_some, e]
          exact hih
        · have e : pu_mk (pu_jn A f i) 10 ||| (1 : Int32) <<< (nI (A.1 4 i) &&& 31) ||| (1 : Int32) <<< (nI (A.1 3 i) &&& 31) = pu_mk (pu_jn A f (i + 1)) 10 := by
            rw [one _ (show A.1 4 i < 10 by omega), one _ (show A.1 3 i < 10 by omega), pu_mk_or _ _ (by omega), pu_mk_or _ _ (by omega)]
            exact pu_mk_cong 10 (fun k _ => by
              rw [pu_jn_s, e3, e4, hu]
              by_cases z : k = A.1 4 i
              · subst z; simp
              · have z2 : ¬ A.1 4 i = k := fun y => z y.symm
                by_cases y : k = A.1 3 i
                · subst y; simp
                · have y2 : ¬ A.1 3 i = k := fun x => y x.symm
                  simp [z, z2, y, y2])
          simp only [↓reduceIte, Option.bind_some, show ¬ ((1 : Int32) = 0) by decide, pu_on (pu_m70 hM), pu_m_oddOf hM q wf hil, e]
          exact hih
theorem pu_m_joined (hM : pu_M s R) (q : pu_Q (I 80) A) (wf : pu_wf A) (f : Nat → Bool) : fb_m_joined 70 (pu_mk f 10) (s, I, J, R) = some (pu_mk (pu_nb A f) 10, (s, I, J, R)) := by
  have h5 := wf.2.2.1
  have e := pu_m_joined_l (J := J) hM q wf f (A.1 0 3) 0 1048576 (by omega) (by omega)
  rw [show pu_jn A f 0 = f from rfl, show nI 0 = 0 from rfl] at e
  unfold fb_m_joined
  rw [e]
  rfl
end PUh
