/-! ===== Signs of one byte ===== -/
theorem pz_sgc (c : Nat) : (pu_sg c = 9 ↔ c = 42) ∧ (pu_sg c = 10 ↔ c = 47) ∧ (pu_sg c = 11 ↔ c = 37) ∧ (pu_sg c = 7 ↔ c = 43) ∧ (pu_sg c = 8 ↔ c = 45) ∧ (pu_sg c = 5 ↔ c = 91) ∧ (pu_sg c = 6 ↔ c = 93) ∧ (pu_sg c = 4 ↔ c = 59) := by
  unfold pu_sg
  repeat (split; · (refine ⟨?_, ?_, ?_, ?_, ?_, ?_, ?_, ?_⟩ <;> omega))
  refine ⟨?_, ?_, ?_, ?_, ?_, ?_, ?_, ?_⟩ <;> omega
theorem pz_sgd {c k : Nat} (h : pu_sg c = k) (h1 : 4 ≤ k) (h2 : k ≤ 11) : pu_isd c = false ∧ pu_isl c = false := by
  obtain ⟨a1, a2, a3, a4, a5, a6, a7, a8⟩ := pz_sgc c
  have : c = 42 ∨ c = 47 ∨ c = 37 ∨ c = 43 ∨ c = 45 ∨ c = 91 ∨ c = 93 ∨ c = 59 := by
    have : k = 4 ∨ k = 5 ∨ k = 6 ∨ k = 7 ∨ k = 8 ∨ k = 9 ∨ k = 10 ∨ k = 11 := by omega
    rcases this with x | x | x | x | x | x | x | x <;> subst x <;> omega
  rcases this with x | x | x | x | x | x | x | x <;> subst x <;> decide
/-- a sign of one byte stands here -/
theorem pz_sgn {b : Nat → Nat} {tl p k : Nat} (hp : p < tl) (h32 : b p ≠ 32) (h1 : 4 ≤ k) (h2 : k ≤ 11) : (pu_hk (pu_tt b tl p) = k ↔ pu_sg (b p) = k) ∧ (pu_sg (b p) = k → pu_tt b tl p = (k, p, 0) :: pu_tt b tl (p + 1)) := by
  obtain ⟨t, ht, e⟩ := pu_tt_s b hp h32
  have hk : pu_hk (pu_tt b tl p) = t.1 := by rw [e]; rfl
  have hg : pu_sg (b p) = k → (pu_t1 b tl p) = (some (k, p, 0), p + 1) := by
    intro h
    obtain ⟨d1, d2⟩ := pz_sgd h h1 h2
    unfold pu_t1
    rw [if_neg h32, if_neg (by rw [d1]; decide), if_neg (by rw [d2]; decide), if_neg (fun x => by have := x.2; omega), h]
  refine ⟨⟨fun h4 => ?_, fun h => ?_⟩, fun h => ?_⟩
  · rw [hk] at h4
    unfold pu_t1 at ht
    rw [if_neg h32] at ht
    split at ht
    · cases ht
      have h4 : (if 5 < pu_de b tl p - p then 3 else 2) = k := h4
      split at h4 <;> omega
    · split at ht
      · cases ht
        have h4 : pu_wk b p (pu_le b tl p) 19 = k := h4
        have := pu_wk_ge b p (pu_le b tl p) 19
        omega
      · split at ht
        · cases ht
          have h4 : (if pu_sg (b p) = 12 then 13 else 15) = k := h4
          split at h4 <;> omega
        · cases ht
          exact h4
  · rw [hk]
    rw [hg h] at ht
    cases ht; rfl
  · rw [e]
    rw [hg h] at ht ⊢
    cases ht; rfl
