/-! ===== Marrying: choices in their order; the most pairs, reckoned from behind ===== -/
/-- without one -/
def pu_wo (F : Nat → Bool) (e : Nat) : Nat → Bool := fun k => F k && !decide (k = e)
/-- how many pairs a choice D is (0 nobody, c + 1 the even house c), from the odd house i on, d of them, F free -/
def pu_mn (g : Nat → Nat → Bool) (D : Nat → Nat) : Nat → Nat → (Nat → Bool) → Option Nat
  | 0, _, _ => some 0
  | d + 1, i, F => if D i = 0 then pu_mn g D d (i + 1) F else if (F (D i - 1) && g i (D i - 1)) = true then (pu_mn g D d (i + 1) (pu_wo F (D i - 1))).map (· + 1) else none
def pu_mx (t : Nat → Nat) (m : Nat) : Nat → Nat
  | 0 => m
  | e + 1 => max (pu_mx t m e) (t e)
theorem pu_mx_m (t : Nat → Nat) (m : Nat) : ∀ n, m ≤ pu_mx t m n
  | 0 => Nat.le_refl _
  | n + 1 => Nat.le_trans (pu_mx_m t m n) (Nat.le_max_left _ _)
theorem pu_mx_t (t : Nat → Nat) (m : Nat) : ∀ n e, e < n → t e ≤ pu_mx t m n
  | n + 1, e, h => by
    show t e ≤ max (pu_mx t m n) (t n)
    by_cases h1 : e = n
    · rw [h1]; exact Nat.le_max_right _ _
    · exact Nat.le_trans (pu_mx_t t m n e (by omega)) (Nat.le_max_left _ _)
theorem pu_mx_at (t : Nat → Nat) (m : Nat) : ∀ n, pu_mx t m n = m ∨ ∃ e, e < n ∧ t e = pu_mx t m n
  | 0 => Or.inl rfl
  | n + 1 => by
    show max (pu_mx t m n) (t n) = m ∨ ∃ e, e < n + 1 ∧ t e = max (pu_mx t m n) (t n)
    rcases Nat.le_total (pu_mx t m n) (t n) with h | h
    · rw [Nat.max_eq_right h]; exact Or.inr ⟨n, by omega, rfl⟩
    · rw [Nat.max_eq_left h]
      rcases pu_mx_at t m n with h1 | ⟨e, h1, h2⟩
      · exact Or.inl h1
      · exact Or.inr ⟨e, by omega, h2⟩
theorem pu_mx_cong {t u : Nat → Nat} {m : Nat} : ∀ n, (∀ e, e < n → t e = u e) → pu_mx t m n = pu_mx u m n
  | 0, _ => rfl
  | n + 1, h => by show max _ _ = max _ _; rw [pu_mx_cong n (fun e he => h e (by omega)), h n (by omega)]
def pu_dp (g : Nat → Nat → Bool) (n : Nat) : Nat → Nat → (Nat → Bool) → Nat
  | 0, _, _ => 0
  | d + 1, i, F => pu_mx (fun e => if (g i e && F e) = true then 1 + pu_dp g n d (i + 1) (pu_wo F e) else 0) (pu_dp g n d (i + 1) F) n
theorem pu_dp_s (g : Nat → Nat → Bool) (n d i : Nat) (F : Nat → Bool) : pu_dp g n (d + 1) i F = pu_mx (fun e => if (g i e && F e) = true then 1 + pu_dp g n d (i + 1) (pu_wo F e) else 0) (pu_dp g n d (i + 1) F) n := rfl
theorem pu_dp_cong (g : Nat → Nat → Bool) (n : Nat) : ∀ d i (F G : Nat → Bool), (∀ k, k < n → F k = G k) → pu_dp g n d i F = pu_dp g n d i G := by
  intro d
  induction d with
  | zero => intro i F G h; rfl
  | succ d ih =>
    intro i F G h
    rw [pu_dp_s, pu_dp_s, ih (i + 1) F G h]
    refine pu_mx_cong n (fun e he => ?_)
    rw [h e he, ih (i + 1) (pu_wo F e) (pu_wo G e) (fun k hk => by unfold pu_wo; rw [h k hk])]
theorem pu_dp_le (g : Nat → Nat → Bool) (n : Nat) : ∀ d i (F : Nat → Bool), pu_dp g n d i F ≤ d := by
  intro d
  induction d with
  | zero => intro i F; exact Nat.le_refl _
  | succ d ih =>
    intro i F
    rw [pu_dp_s]
    rcases pu_mx_at (fun e => if (g i e && F e) = true then 1 + pu_dp g n d (i + 1) (pu_wo F e) else 0) (pu_dp g n d (i + 1) F) n with h | ⟨e, h1, h2⟩
    · rw [h]; have := ih (i + 1) F; omega
    · rw [← h2]
      have := ih (i + 1) (pu_wo F e)
      split <;> omega
theorem pu_mn_le {g : Nat → Nat → Bool} {n : Nat} {D : Nat → Nat} (hD : ∀ k, D k ≤ n) : ∀ d i F m, pu_mn g D d i F = some m → m ≤ pu_dp g n d i F := by
  intro d
  induction d with
  | zero => intro i F m h; cases h; exact Nat.le_refl _
  | succ d ih =>
    intro i F m h
    unfold pu_mn at h
    rw [pu_dp_s]
    split at h
    · exact Nat.le_trans (ih _ _ _ h) (pu_mx_m _ _ _)
    · rename_i h0
      split at h
      · rename_i h1
        cases hc : pu_mn g D d (i + 1) (pu_wo F (D i - 1)) with
        | none => rw [hc] at h; cases h
        | some m1 =>
          rw [hc] at h
          cases h
          have := ih _ _ _ hc
          refine Nat.le_trans ?_ (pu_mx_t _ _ n (D i - 1) (by have := hD i; omega))
          dsimp only
          rw [if_pos (by rw [Bool.and_comm]; exact h1)]
          omega
      · cases h
theorem pu_mn_cong {g : Nat → Nat → Bool} {D E : Nat → Nat} : ∀ d i F, (∀ k, i ≤ k → k < i + d → D k = E k) → pu_mn g D d i F = pu_mn g E d i F := by
  intro d
  induction d with
  | zero => intro i F _; rfl
  | succ d ih =>
    intro i F h
    unfold pu_mn
    rw [h i (by omega) (by omega), ih (i + 1) F (fun k h1 h2 => h k (by omega) (by omega)), ih (i + 1) (pu_wo F (E i - 1)) (fun k h1 h2 => h k (by omega) (by omega))]
/-- the first choice that comes to the most -/
def pu_mz (g : Nat → Nat → Bool) (n d i : Nat) (F : Nat → Bool) : Nat := if pu_dp g n d (i + 1) F = pu_dp g n (d + 1) i F then 0 else 1 + pu_ff (fun e => (g i e && F e) && decide (1 + pu_dp g n d (i + 1) (pu_wo F e) = pu_dp g n (d + 1) i F)) n 0
def pu_gF (F : Nat → Bool) (c : Nat) : Nat → Bool := if c = 0 then F else pu_wo F (c - 1)
def pu_gd (g : Nat → Nat → Bool) (n : Nat) : Nat → Nat → (Nat → Bool) → Nat → Nat
  | 0, _, _ => fun _ => 0
  | d + 1, i, F => fun k => if k = i then pu_mz g n d i F else pu_gd g n d (i + 1) (pu_gF F (pu_mz g n d i F)) k
theorem pu_mz_e {g : Nat → Nat → Bool} {n d i : Nat} {F : Nat → Bool} (h : pu_dp g n d (i + 1) F ≠ pu_dp g n (d + 1) i F) : pu_ff (fun e => (g i e && F e) && decide (1 + pu_dp g n d (i + 1) (pu_wo F e) = pu_dp g n (d + 1) i F)) n 0 < n := by
  rcases pu_mx_at (fun e => if (g i e && F e) = true then 1 + pu_dp g n d (i + 1) (pu_wo F e) else 0) (pu_dp g n d (i + 1) F) n with h1 | ⟨e, h1, h2⟩
  · exact absurd h1.symm h
  · rcases Nat.lt_or_ge (pu_ff (fun e => (g i e && F e) && decide (1 + pu_dp g n d (i + 1) (pu_wo F e) = pu_dp g n (d + 1) i F)) n 0) n with h3 | h3
    · exact h3
    · exfalso
      have h4 := pu_ff_no (fun e => (g i e && F e) && decide (1 + pu_dp g n d (i + 1) (pu_wo F e) = pu_dp g n (d + 1) i F)) n 0 e (Nat.zero_le _) (by omega)
      cases hc : (g i e && F e)
      · rw [hc, if_neg (by decide)] at h2
        have := pu_mx_m (fun e => if (g i e && F e) = true then 1 + pu_dp g n d (i + 1) (pu_wo F e) else 0) (pu_dp g n d (i + 1) F) n
        rw [← h2] at this
        exact h (by rw [pu_dp_s, ← h2]; omega)
      · rw [hc, if_pos rfl] at h2
        rw [hc, Bool.true_and, decide_eq_false_iff_not] at h4
        exact h4 h2
theorem pu_mz_le (g : Nat → Nat → Bool) (n d i : Nat) (F : Nat → Bool) : pu_mz g n d i F ≤ n := by
  unfold pu_mz
  split
  · omega
  · rename_i h
    have := pu_mz_e h
    omega
theorem pu_gd_le (g : Nat → Nat → Bool) (n : Nat) : ∀ d i F k, pu_gd g n d i F k ≤ n := by
  intro d
  induction d with
  | zero => intro i F k; exact Nat.zero_le _
  | succ d ih =>
    intro i F k
    unfold pu_gd
    split
    · exact pu_mz_le g n d i F
    · exact ih _ _ _
theorem pu_mn_gd (g : Nat → Nat → Bool) (n : Nat) : ∀ d i F, pu_mn g (pu_gd g n d i F) d i F = some (pu_dp g n d i F) := by
  intro d
  induction d with
  | zero => intro i F; rfl
  | succ d ih =>
    intro i F
    have e1 : ∀ G, pu_mn g (pu_gd g n (d + 1) i F) d (i + 1) G = pu_mn g (pu_gd g n d (i + 1) (pu_gF F (pu_mz g n d i F))) d (i + 1) G := fun G => pu_mn_cong d (i + 1) G (fun k h1 h2 => by
      show (if k = i then _ else _) = _
      rw [if_neg (by omega)])
    have e2 : pu_gd g n (d + 1) i F i = pu_mz g n d i F := if_pos rfl
    unfold pu_mn
    rw [e2, e1, e1]
    unfold pu_mz
    by_cases h : pu_dp g n d (i + 1) F = pu_dp g n (d + 1) i F
    · rw [if_pos h, if_pos rfl, show pu_gF F 0 = F from rfl, ih, h]
    · rw [if_neg h]
      have h2 := pu_mz_e h
      have h3 := pu_ff_yes (fun e => (g i e && F e) && decide (1 + pu_dp g n d (i + 1) (pu_wo F e) = pu_dp g n (d + 1) i F)) n 0 (by omega)
      generalize pu_ff (fun e => (g i e && F e) && decide (1 + pu_dp g n d (i + 1) (pu_wo F e) = pu_dp g n (d + 1) i F)) n 0 = z at h2 h3 ⊢
      rw [Bool.and_eq_true, decide_eq_true_eq] at h3
      rw [if_neg (by omega), show 1 + z - 1 = z by omega, if_pos (by rw [Bool.and_comm]; exact h3.1)]
      have : pu_gF F (1 + z) = pu_wo F z := by unfold pu_gF; rw [if_neg (by omega), show 1 + z - 1 = z by omega]
      rw [this, ih, ← h3.2]
      show some (_ + 1) = some (1 + _)
      rw [Nat.add_comm]
/-- the place of a choice in the order -/
def pu_vs (n : Nat) (D : Nat → Nat) : Nat → Nat → Nat
  | 0, _ => 0
  | d + 1, i => D i * (n + 1) ^ d + pu_vs n D d (i + 1)
theorem pu_vs_cong {n : Nat} {D E : Nat → Nat} : ∀ d i, (∀ k, i ≤ k → k < i + d → D k = E k) → pu_vs n D d i = pu_vs n E d i := by
  intro d
  induction d with
  | zero => intro i _; rfl
  | succ d ih =>
    intro i h
    unfold pu_vs
    rw [h i (by omega) (by omega), ih (i + 1) (fun k h1 h2 => h k (by omega) (by omega))]
theorem pu_vs_lt {n : Nat} {D : Nat → Nat} (hD : ∀ k, D k ≤ n) : ∀ d i, pu_vs n D d i < (n + 1) ^ d := by
  intro d
  induction d with
  | zero => intro i; exact Nat.one_pos
  | succ d ih =>
    intro i
    unfold pu_vs
    have h1 := ih (i + 1)
    have h2 : D i * (n + 1) ^ d ≤ n * (n + 1) ^ d := Nat.mul_le_mul_right _ (hD i)
    rw [Nat.pow_succ, Nat.mul_comm _ (n + 1), Nat.add_mul, Nat.one_mul]
    omega
theorem pu_lex {P a b x y : Nat} (hx : x < P) (hy : y < P) (h : a * P + x ≤ b * P + y) : a < b ∨ (a = b ∧ x ≤ y) := by
  rcases Nat.lt_trichotomy a b with h1 | h1 | h1
  · exact Or.inl h1
  · subst h1; exact Or.inr ⟨rfl, by omega⟩
  · exfalso
    have : (b + 1) * P ≤ a * P := Nat.mul_le_mul_right _ h1
    rw [Nat.add_mul, Nat.one_mul] at this
    omega
theorem pu_vs_inj {n : Nat} {D E : Nat → Nat} (hD : ∀ k, D k ≤ n) (hE : ∀ k, E k ≤ n) : ∀ d i, pu_vs n D d i = pu_vs n E d i → ∀ k, i ≤ k → k < i + d → D k = E k := by
  intro d
  induction d with
  | zero => intro i _ k h1 h2; omega
  | succ d ih =>
    intro i h k h1 h2
    unfold pu_vs at h
    have a := pu_lex (pu_vs_lt hD d (i + 1)) (pu_vs_lt hE d (i + 1)) (Nat.le_of_eq h)
    have b := pu_lex (pu_vs_lt hE d (i + 1)) (pu_vs_lt hD d (i + 1)) (Nat.le_of_eq h.symm)
    have e : D i = E i := by omega
    by_cases hk : k = i
    · rw [hk]; exact e
    · exact ih (i + 1) (by rw [e] at h; omega) k (by omega) (by omega)
theorem pu_mn_lt {g : Nat → Nat → Bool} {n : Nat} {D : Nat → Nat} (hD : ∀ k, D k ≤ n) : ∀ d i F, pu_vs n D d i < pu_vs n (pu_gd g n d i F) d i → pu_mn g D d i F ≠ some (pu_dp g n d i F) := by
  intro d
  induction d with
  | zero => intro i F h; exact absurd h (Nat.lt_irrefl _)
  | succ d ih =>
    intro i F h hc
    have e1 : pu_vs n (pu_gd g n (d + 1) i F) (d + 1) i = pu_mz g n d i F * (n + 1) ^ d + pu_vs n (pu_gd g n d (i + 1) (pu_gF F (pu_mz g n d i F))) d (i + 1) := by
      show pu_gd g n (d + 1) i F i * _ + _ = _
      rw [show pu_gd g n (d + 1) i F i = pu_mz g n d i F from if_pos rfl, pu_vs_cong (D := pu_gd g n (d + 1) i F) d (i + 1) (fun k h1 h2 => show (if k = i then _ else _) = pu_gd g n d (i + 1) (pu_gF F (pu_mz g n d i F)) k from if_neg (by omega))]
    rw [e1, show pu_vs n D (d + 1) i = D i * (n + 1) ^ d + pu_vs n D d (i + 1) from rfl] at h
    rcases pu_lex (pu_vs_lt hD d (i + 1)) (pu_vs_lt (pu_gd_le g n d (i + 1) (pu_gF F (pu_mz g n d i F))) d (i + 1)) (Nat.le_of_lt h) with h1 | ⟨h1, h2⟩
    · -- an earlier choice here
      unfold pu_mn at hc
      unfold pu_mz at h1
      by_cases h0 : pu_dp g n d (i + 1) F = pu_dp g n (d + 1) i F
      · rw [if_pos h0] at h1; omega
      · rw [if_neg h0] at h1
        by_cases hz : D i = 0
        · rw [if_pos hz] at hc
          have := pu_mn_le hD _ _ _ _ hc
          have h3 := pu_mx_m (fun e => if (g i e && F e) = true then 1 + pu_dp g n d (i + 1) (pu_wo F e) else 0) (pu_dp g n d (i + 1) F) n
          rw [← pu_dp_s] at h3
          omega
        · rw [if_neg hz] at hc
          split at hc
          · rename_i hy
            have h4 := pu_ff_no (fun e => (g i e && F e) && decide (1 + pu_dp g n d (i + 1) (pu_wo F e) = pu_dp g n (d + 1) i F)) n 0 (D i - 1) (Nat.zero_le _) (by omega)
            rw [Bool.and_comm] at hy
            rw [hy, Bool.true_and, decide_eq_false_iff_not] at h4
            cases hm : pu_mn g D d (i + 1) (pu_wo F (D i - 1)) with
            | none => rw [hm] at hc; cases hc
            | some m1 =>
              rw [hm] at hc
              have hc : m1 + 1 = pu_dp g n (d + 1) i F := Option.some.inj hc
              have h5 := pu_mn_le hD _ _ _ _ hm
              have h6 := pu_mx_t (fun e => if (g i e && F e) = true then 1 + pu_dp g n d (i + 1) (pu_wo F e) else 0) (pu_dp g n d (i + 1) F) n (D i - 1) (by have := hD i; omega)
              rw [← pu_dp_s] at h6
              rw [if_pos hy] at h6
              omega
          · cases hc
    · -- the same choice here
      have h3 : pu_vs n D d (i + 1) < pu_vs n (pu_gd g n d (i + 1) (pu_gF F (pu_mz g n d i F))) d (i + 1) := by
        rw [h1] at h; omega
      refine ih (i + 1) (pu_gF F (pu_mz g n d i F)) h3 ?_
      unfold pu_mn at hc
      rw [h1] at hc
      unfold pu_mz at hc ⊢
      by_cases h0 : pu_dp g n d (i + 1) F = pu_dp g n (d + 1) i F
      · rw [if_pos h0] at hc ⊢
        rw [if_pos rfl] at hc
        rw [show pu_gF F 0 = F from rfl, hc, h0]
      · rw [if_neg h0] at hc ⊢
        have h2 := pu_mz_e h0
        have h3 := pu_ff_yes (fun e => (g i e && F e) && decide (1 + pu_dp g n d (i + 1) (pu_wo F e) = pu_dp g n (d + 1) i F)) n 0 (by omega)
        generalize pu_ff (fun e => (g i e && F e) && decide (1 + pu_dp g n d (i + 1) (pu_wo F e) = pu_dp g n (d + 1) i F)) n 0 = z at h2 h3 hc ⊢
        rw [Bool.and_eq_true, decide_eq_true_eq] at h3
        rw [if_neg (by omega), show 1 + z - 1 = z by omega, if_pos (by rw [Bool.and_comm]; exact h3.1)] at hc
        have : pu_gF F (1 + z) = pu_wo F z := by unfold pu_gF; rw [if_neg (by omega), show 1 + z - 1 = z by omega]
        rw [this]
        cases hm : pu_mn g D d (i + 1) (pu_wo F z) with
        | none => rw [hm] at hc; cases hc
        | some m1 =>
          rw [hm] at hc
          have hc : m1 + 1 = pu_dp g n (d + 1) i F := Option.some.inj hc
          congr 1
          omega
/-- the first of the best is the one that is reckoned -/
theorem pu_first {g : Nat → Nat → Bool} {n d : Nat} {F : Nat → Bool} {B : Nat → Nat} {m : Nat} (hB : ∀ k, B k ≤ n) (hc : pu_mn g B d 0 F = some m) (hl : ∀ D : Nat → Nat, (∀ k, D k ≤ n) → ∀ m', pu_mn g D d 0 F = some m' → m' ≤ m ∧ (pu_vs n D d 0 < pu_vs n B d 0 → m' < m)) : m = pu_dp g n d 0 F ∧ ∀ k, k < d → B k = pu_gd g n d 0 F k := by
  have h1 := hl _ (pu_gd_le g n d 0 F) _ (pu_mn_gd g n d 0 F)
  have h2 := pu_mn_le hB _ _ _ _ hc
  have hm : m = pu_dp g n d 0 F := by omega
  refine ⟨hm, fun k hk => ?_⟩
  refine pu_vs_inj hB (pu_gd_le g n d 0 F) d 0 ?_ k (Nat.zero_le _) (by omega)
  rcases Nat.lt_trichotomy (pu_vs n B d 0) (pu_vs n (pu_gd g n d 0 F) d 0) with h | h | h
  · exact absurd (hm ▸ hc) (pu_mn_lt hB d 0 F h)
  · exact h
  · have := h1.2 h; omega
