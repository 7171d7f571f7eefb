/-! ===== The reference's words ===== -/
/-- letters as one number -/
def pu_fv (b : Nat → Nat) (p : Nat) : Nat → Nat
  | 0 => 0
  | n + 1 => 256 * pu_fv b p n + b (p + n)
def pu_wv (l : List Nat) : Nat := pu_fv (fun i => l.getD i 0) 0 l.length
theorem pu_fv_lt {b : Nat → Nat} {p : Nat} : ∀ n, (∀ i, i < n → b (p + i) < 256) → pu_fv b p n < 256 ^ n
  | 0, _ => Nat.one_pos
  | n + 1, h => by
    have h1 := pu_fv_lt n (fun i hi => h i (by omega))
    have h2 := h n (by omega)
    show 256 * pu_fv b p n + b (p + n) < 256 ^ (n + 1)
    rw [Nat.pow_succ]
    omega
theorem pu_fv_pos {b : Nat → Nat} {p n : Nat} (h : ∀ i, i < n + 1 → 0 < b (p + i)) : 0 < pu_fv b p (n + 1) := by
  have := h n (by omega)
  show 0 < 256 * pu_fv b p n + b (p + n)
  omega
theorem pu_fv_inj {b c : Nat → Nat} {p q : Nat} : ∀ n m, (∀ i, i < n → 0 < b (p + i) ∧ b (p + i) < 256) → (∀ i, i < m → 0 < c (q + i) ∧ c (q + i) < 256) → pu_fv b p n = pu_fv c q m → n = m ∧ ∀ i, i < n → b (p + i) = c (q + i) := by
  intro n
  induction n with
  | zero =>
    intro m hb hc e
    cases m with
    | zero => exact ⟨rfl, fun i hi => absurd hi (Nat.not_lt_zero _)⟩
    | succ m =>
      have := pu_fv_pos (b := c) (p := q) (n := m) (fun i hi => (hc i hi).1)
      have e : 0 = pu_fv c q (m + 1) := e
      omega
  | succ n ih =>
    intro m hb hc e
    cases m with
    | zero =>
      have := pu_fv_pos (b := b) (p := p) (n := n) (fun i hi => (hb i hi).1)
      have e : pu_fv b p (n + 1) = 0 := e
      omega
    | succ m =>
      have e : 256 * pu_fv b p n + b (p + n) = 256 * pu_fv c q m + c (q + m) := e
      have h1 := (hb n (by omega)).2
      have h2 := (hc m (by omega)).2
      obtain ⟨i1, i2⟩ := ih m (fun i hi => hb i (by omega)) (fun i hi => hc i (by omega)) (by omega)
      subst i1
      refine ⟨rfl, fun i hi => ?_⟩
      by_cases hin : i = n
      · subst hin; omega
      · exact i2 i (by omega)
theorem pu_wl_pos : ∀ k, k < 19 → ∀ i, i < (pu_wl.getD k []).length → 0 < (pu_wl.getD k []).getD i 0 ∧ (pu_wl.getD k []).getD i 0 < 256 := by
  intro k hk i hi
  have hk2 : ∀ k, k < 19 → ∀ x ∈ pu_wl.getD k [], 0 < x ∧ x < 256 := by decide
  have : (pu_wl.getD k []).getD i 0 ∈ pu_wl.getD k [] := by
    revert hi
    generalize pu_wl.getD k [] = l
    intro hi
    rw [List.getD_eq_getElem?_getD, List.getElem?_eq_getElem hi]
    exact List.getElem_mem hi
  exact hk2 k hk _ this
theorem pu_fr_iff {f : Nat → Bool} : ∀ d i, pu_fr f d i = true ↔ ∀ k, i ≤ k → k < i + d → f k = true
  | 0, i => ⟨fun _ k h1 h2 => by omega, fun _ => rfl⟩
  | d + 1, i => by
    show (f i && pu_fr f d (i + 1)) = true ↔ _
    rw [Bool.and_eq_true, pu_fr_iff d (i + 1)]
    constructor
    · rintro ⟨h1, h2⟩ k h3 h4
      by_cases e : k = i
      · rw [e]; exact h1
      · exact h2 k (by omega) (by omega)
    · intro h
      exact ⟨h i (by omega) (by omega), fun k h1 h2 => h k (by omega) (by omega)⟩
/-- a word stands here: its letters as a number -/
theorem pu_isw_fv {b : Nat → Nat} {p e k : Nat} (hk : k < 19) (hl : ∀ i, i < e - p → 0 < b (p + i) ∧ b (p + i) < 256) : (pu_isw b p e k = true) ↔ pu_fv b p (e - p) = pu_wv (pu_wl.getD k []) := by
  unfold pu_isw pu_spl pu_wv
  rw [Bool.and_eq_true, decide_eq_true_eq, pu_fr_iff]
  constructor
  · rintro ⟨h1, h2⟩
    rw [h1]
    have : ∀ n, n ≤ e - p → pu_fv b p n = pu_fv (fun i => (pu_wl.getD k []).getD i 0) 0 n := by
      intro n
      induction n with
      | zero => intro _; rfl
      | succ n ih =>
        intro hn
        have := h2 n (by omega) (by omega)
        rw [decide_eq_true_eq] at this
        show 256 * pu_fv b p n + b (p + n) = 256 * pu_fv _ 0 n + (pu_wl.getD k []).getD (0 + n) 0
        rw [ih (by omega), Nat.zero_add, this]
    exact this _ (Nat.le_refl _)
  · intro h
    obtain ⟨h1, h2⟩ := pu_fv_inj (e - p) (pu_wl.getD k []).length hl (fun i hi => by rw [Nat.zero_add]; exact pu_wl_pos k hk i hi) h
    refine ⟨h1.symm, fun i _ hi => ?_⟩
    rw [decide_eq_true_eq]
    have := h2 i (by omega)
    rw [Nat.zero_add] at this
    exact this.symm
/-- which word it is: no two are the same -/
theorem pu_wk_iff {b : Nat → Nat} {p e : Nat} (hl : ∀ i, i < e - p → 0 < b (p + i) ∧ b (p + i) < 256) {k : Nat} (hk : k < 19) : pu_wk b p e 19 = 20 + k ↔ pu_isw b p e k = true := by
  have uniq : ∀ j, j < 19 → pu_isw b p e j = true → pu_isw b p e k = true → j = k := by
    intro j hj h1 h2
    rw [pu_isw_fv hj hl] at h1
    rw [pu_isw_fv hk hl, h1] at h2
    exact (by decide : ∀ j, j < 19 → ∀ k, k < 19 → pu_wv (pu_wl.getD j []) = pu_wv (pu_wl.getD k []) → j = k) j hj k hk h2
  have gen : ∀ n, n ≤ 19 → (pu_wk b p e n = 20 + k ↔ (k < n ∧ pu_isw b p e k = true)) := by
    intro n
    induction n with
    | zero =>
      intro _
      show (1 = 20 + k) ↔ _
      constructor
      · intro h; omega
      · intro h; omega
    | succ n ih =>
      intro hn
      show (if pu_isw b p e n then 20 + n else pu_wk b p e n) = 20 + k ↔ _
      cases hw : pu_isw b p e n
      · rw [if_neg (by decide), ih (by omega)]
        constructor
        · rintro ⟨h1, h2⟩; exact ⟨by omega, h2⟩
        · rintro ⟨h1, h2⟩
          refine ⟨?_, h2⟩
          by_cases e2 : k = n
          · rw [e2, hw] at h2; cases h2
          · omega
      · rw [if_pos rfl]
        constructor
        · intro h
          have : n = k := by omega
          exact ⟨by omega, by rw [← this]; exact hw⟩
        · rintro ⟨h1, h2⟩
          have := uniq n (by omega) hw h2
          omega
  rw [gen 19 (Nat.le_refl _)]
  exact ⟨fun h => h.2, fun h => ⟨hk, h⟩⟩
theorem pu_l64 {m c : Nat} (hm : m < 2 ^ 55) (hc : c < 256) : ((lN m <<< (Int32.toInt64 8 &&& 63)) ||| (Int32.toInt64 (nI c))) = lN (256 * m + c) := by
  have e1 : (Int32.toInt64 (nI c)) = lN c := nI_l (by omega)
  rw [e1]
  have e2 : 256 * m + c = (m <<< 8) ||| c := by
    have := Nat.two_pow_add_eq_or_of_lt (i := 8) (b := c) (by omega) m
    rw [Nat.shiftLeft_eq, Nat.mul_comm m]
    exact this
  rw [e2]
  apply Int64.toBitVec_inj.mp
  rw [Int64.toBitVec_or, Int64.toBitVec_shiftLeft]
  apply BitVec.eq_of_toNat_eq
  have l1 : ∀ x, x < 2 ^ 63 → (lN x).toBitVec.toNat = x := fun x hx => by
    show (BitVec.ofNat 64 x).toNat = x
    rw [BitVec.toNat_ofNat]
    exact Nat.mod_eq_of_lt (by omega)
  have h8 : ((Int32.toInt64 8 &&& 63).toBitVec.smod 64) = 8#64 := by decide
  show (((lN m).toBitVec <<< ((Int32.toInt64 8 &&& 63).toBitVec.smod 64).toNat) ||| (lN c).toBitVec).toNat = _
  rw [h8, BitVec.toNat_or, BitVec.toNat_shiftLeft, l1 m (by omega), l1 c (by omega)]
  have h3 : m <<< 8 < 2 ^ 63 := by rw [Nat.shiftLeft_eq]; omega
  have h4 : (m <<< 8 ||| c) < 2 ^ 63 := Nat.or_lt_two_pow h3 (by omega)
  rw [l1 _ h4, show (8#64).toNat = 8 from rfl, Nat.mod_eq_of_lt (by omega)]
