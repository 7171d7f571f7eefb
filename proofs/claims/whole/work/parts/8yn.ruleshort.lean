/-! ===== A rule that is read has fewer steps than the class has room for ===== -/
theorem pz_ts_len (b : Nat → Nat) (tl : Nat) : ∀ n p, (pu_ts b tl n p).length ≤ tl - p := by
  intro n
  induction n with
  | zero => intro p; exact Nat.zero_le _
  | succ n ih =>
    intro p
    show (if p < tl then _ else [] : List (Nat × Nat × Nat)).length ≤ tl - p
    by_cases hp : p < tl
    · rw [if_pos hp]
      have hg := pu_t1_gt b hp
      have := ih (pu_t1 b tl p).2
      cases (pu_t1 b tl p).1 with
      | none => show (pu_ts b tl n (pu_t1 b tl p).2).length ≤ tl - p; omega
      | some t => show (pu_ts b tl n (pu_t1 b tl p).2).length + 1 ≤ tl - p; omega
    · rw [if_neg hp]; exact Nat.zero_le _
theorem pz_tt_len (b : Nat → Nat) (tl p : Nat) : (pu_tt b tl p).length ≤ tl - p + 1 := by
  have := pz_ts_len b tl tl p
  unfold pu_tt pu_tk
  rw [List.length_append]
  show _ + 1 ≤ _
  omega
theorem pz_wk_is (b : Nat → Nat) (p e j : Nat) : ∀ k, pu_wk b p e k = 20 + j → pu_isw b p e j = true := by
  intro k
  induction k with
  | zero => intro h; have h : 1 = 20 + j := h; omega
  | succ k ih =>
    intro h
    have h : (if pu_isw b p e k then 20 + k else pu_wk b p e k) = 20 + j := h
    by_cases hk : pu_isw b p e k = true
    · rw [if_pos hk] at h
      obtain rfl : k = j := by omega
      exact hk
    · rw [if_neg hk] at h; exact ih h
theorem pz_keep_len {b : Nat → Nat} {tl : Nat} (h : pu_hk (pu_tt b tl 0) = 34) : (pu_tt b tl 0).length + 2 ≤ tl := by
  have hs := pu_sp_le b (Nat.zero_le tl)
  have h32 : pu_sp b tl 0 < tl → b (pu_sp b tl 0) ≠ 32 := fun hx => pu_sp_ne (Nat.zero_le tl) hx
  rw [pu_tt_sp b (Nat.zero_le tl)] at h ⊢
  generalize pu_sp b tl 0 = p at *
  by_cases hp : p < tl
  · obtain ⟨t, ht, e⟩ := pu_tt_s b hp (h32 hp)
    have h34 : t.1 = 34 := by rw [e] at h; exact h
    have hlen := pz_tt_len b tl (pu_t1 b tl p).2
    have hg := pu_t1_gt b hp
    rw [e, List.length_cons]
    have e4 : (pu_t1 b tl p).2 = p + 4 := by
      unfold pu_t1 at ht ⊢
      rw [if_neg (h32 hp)] at ht ⊢
      by_cases hd : pu_isd (b p) = true
      · rw [if_pos hd] at ht
        cases ht
        have h34 : (if 5 < pu_de b tl p - p then 3 else 2) = 34 := h34
        split at h34 <;> omega
      · rw [if_neg hd] at ht ⊢
        by_cases hl : pu_isl (b p) = true
        · rw [if_pos hl] at ht ⊢
          cases ht
          have h34 : pu_wk b p (pu_le b tl p) 19 = 20 + 14 := h34
          have hw := pz_wk_is b p (pu_le b tl p) 14 19 h34
          unfold pu_isw at hw
          have h4 := of_decide_eq_true ((Bool.and_eq_true _ _).mp hw).1
          have hlen4 : (pu_wl.getD 14 []).length = 4 := by decide
          show pu_le b tl p = p + 4
          omega
        · rw [if_neg hl] at ht
          have := pu_sg_le (b p)
          by_cases h4 : (p + 1 < tl ∧ b (p + 1) = 61) ∧ (pu_sg (b p) = 12 ∨ pu_sg (b p) = 16)
          · rw [if_pos h4] at ht
            cases ht
            have h34 : (if pu_sg (b p) = 12 then 13 else 15) = 34 := h34
            split at h34 <;> omega
          · rw [if_neg h4] at ht
            cases ht
            have h34 : pu_sg (b p) = 34 := h34
            omega
    omega
  · rw [pu_tt_e b (by omega)] at h
    have h : (0 : Nat) = 34 := h
    omega
/-- read without a fault: fewer than 400 steps -/
theorem pz_short {I : Nat → Nat → Int32} {b : Nat → Nat} {tl : Nat} (h400 : tl ≤ 400) {y : pz_Y} (hy : pz_rr 13 0 ([], 0, pu_tt b tl 0, 0) = y) (h : pz_RY I (pu_tt b tl 0) y) (h0 : y.2.2.2 = 0) : pu_rl y.1 < 399 ∧ y.1.length ≤ 12 := by
  refine ⟨?_, by rw [← hy]; exact pz_rr_len 13 0 _ (Nat.zero_le _) (by omega)⟩
  have hk : pu_hk (pu_tt b tl 0) = 34 := by
    refine Classical.byContradiction fun hn => ?_
    have e : pz_rr 13 0 ([], 0, pu_tt b tl 0, 0) = ([], 0, [], pu_ft (pu_tt b tl 0) 0 (if pu_hk (pu_tt b tl 0) = 34 then 4 else 0)) := by
      show (if _ then _ else _ : pz_Y) = _
      rw [if_neg (fun x => hn x.1)]
    rw [← hy, e] at h0
    have h0 : pu_ft (pu_tt b tl 0) 0 (if pu_hk (pu_tt b tl 0) = 34 then 4 else 0) = 0 := h0
    unfold pu_ft at h0
    rw [if_pos rfl] at h0
    cases hr : pu_tt b tl 0 with
    | nil => exact pu_tt_ne b tl 0 hr
    | cons t r => rw [hr] at h0; dsimp only at h0; omega
  have := pz_keep_len hk
  have := (h.2.2.2 h0).2.2.2.2.1
  omega
