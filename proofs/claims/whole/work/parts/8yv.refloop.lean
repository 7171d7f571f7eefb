/-! ===== Loops over tokens do not depend on their bound ===== -/
theorem pz_em_r (z : pz_Z) (k v : Nat) : (pz_em z k v).2 = z.2 := by unfold pz_em; split <;> rfl
theorem pz_vl_len (z : pz_Z) : (pz_vl z).2.2.1.length ≤ z.2.2.1.length := by
  unfold pz_vl
  cases hr : z.2.2.1 with
  | nil => exact Nat.le_refl _
  | cons t r =>
    dsimp only
    by_cases hv : t.1 = 2 ∨ (20 ≤ t.1 ∧ t.1 ≤ 31)
    · rw [if_pos hv]
      unfold pz_tp
      have e : (pz_em z (pz_st t).1 (pz_st t).2).2.2.1 = t :: r := by rw [pz_em_r, hr]
      split
      · show (pz_em z (pz_st t).1 (pz_st t).2).2.2.1.tail.length ≤ _
        rw [e]
        show r.length ≤ r.length + 1
        omega
      · exact Nat.zero_le _
    · rw [if_neg hv]; exact Nat.zero_le _
theorem pz_hk_len {r : List (Nat × Nat × Nat)} (h : pu_hk r ≠ 0) : r.tail.length + 1 = r.length := by
  cases r with
  | nil => exact absurd rfl h
  | cons t r => rfl
theorem pz_tl_ind : ∀ m d d' (z : pz_Z), z.2.2.1.length ≤ m → m ≤ d → m ≤ d' → pz_tl d z = pz_tl d' z := by
  intro m
  induction m with
  | zero =>
    intro d d' z h1 h2 h3
    have hr : z.2.2.1 = [] := List.length_eq_zero_iff.mp (by omega)
    have e : ∀ d, pz_tl d z = z := fun d => by
      cases d with
      | zero => rfl
      | succ d =>
        show (if _ then _ else _) = _
        rw [if_neg (by rw [hr]; decide)]
    rw [e d, e d']
  | succ m ih =>
    intro d d' z h1 h2 h3
    obtain ⟨d, rfl⟩ : ∃ x, d = x + 1 := ⟨d - 1, by omega⟩
    obtain ⟨d', rfl⟩ : ∃ x, d' = x + 1 := ⟨d' - 1, by omega⟩
    show (if _ then _ else _) = (if _ then _ else _)
    by_cases hj : 9 ≤ pu_hk z.2.2.1 ∧ pu_hk z.2.2.1 ≤ 11
    · rw [if_pos hj, if_pos hj]
      refine ih d d' _ ?_ (by omega) (by omega)
      rw [pz_em_r]
      have := pz_vl_len (pz_ad z)
      have e : (pz_ad z).2.2.1.length = z.2.2.1.tail.length := rfl
      have := pz_hk_len (r := z.2.2.1) (by omega)
      omega
    · rw [if_neg hj, if_neg hj]
theorem pz_tl_len : ∀ d (z : pz_Z), (pz_tl d z).2.2.1.length ≤ z.2.2.1.length := by
  intro d
  induction d with
  | zero => intro z; exact Nat.le_refl _
  | succ d ih =>
    intro z
    show (if _ then _ else _ : pz_Z).2.2.1.length ≤ _
    by_cases hj : 9 ≤ pu_hk z.2.2.1 ∧ pu_hk z.2.2.1 ≤ 11
    · rw [if_pos hj]
      have h1 := ih (pz_em (pz_vl (pz_ad z)) (pz_jo (pu_hk z.2.2.1)) 0)
      rw [pz_em_r] at h1
      have := pz_vl_len (pz_ad z)
      have e : (pz_ad z).2.2.1.length = z.2.2.1.tail.length := rfl
      have := pz_hk_len (r := z.2.2.1) (by omega)
      omega
    · rw [if_neg hj]; exact Nat.le_refl _
