/-! ===== The reference reads a rule: what it writes; values ===== -/
theorem pz_dig {b : Nat → Nat} {tl p : Nat} (hp : p ≤ tl) (h32 : p < tl → b p ≠ 32) : (decide (p < tl) && pu_isd (b p)) = decide (pu_hk (pu_tt b tl p) = 2 ∨ pu_hk (pu_tt b tl p) = 3) := by
  by_cases hlt : p < tl
  · rw [decide_eq_true hlt, Bool.true_and]
    obtain ⟨t, ht, e⟩ := pu_tt_s b hlt (h32 hlt)
    have hk : pu_hk (pu_tt b tl p) = t.1 := by rw [e]; rfl
    rw [hk]
    unfold pu_t1 at ht
    rw [if_neg (h32 hlt)] at ht
    by_cases hd : pu_isd (b p) = true
    · rw [if_pos hd] at ht
      cases ht
      rw [hd]
      refine (decide_eq_true ?_).symm
      show (if 5 < pu_de b tl p - p then 3 else 2) = 2 ∨ (if 5 < pu_de b tl p - p then 3 else 2) = 3
      split
      · exact Or.inr rfl
      · exact Or.inl rfl
    · rw [if_neg hd] at ht
      have hd : pu_isd (b p) = false := by cases h : pu_isd (b p); rfl; exact absurd h hd
      rw [hd]
      refine (decide_eq_false ?_).symm
      by_cases hl : pu_isl (b p) = true
      · rw [if_pos hl] at ht
        cases ht
        show ¬ (pu_wk b p (pu_le b tl p) 19 = 2 ∨ pu_wk b p (pu_le b tl p) 19 = 3)
        have := pu_wk_ge b p (pu_le b tl p) 19
        omega
      · rw [if_neg hl] at ht
        by_cases h4 : (p + 1 < tl ∧ b (p + 1) = 61) ∧ (pu_sg (b p) = 12 ∨ pu_sg (b p) = 16)
        · rw [if_pos h4] at ht
          cases ht
          show ¬ ((if pu_sg (b p) = 12 then 13 else 15) = 2 ∨ (if pu_sg (b p) = 12 then 13 else 15) = 3)
          split <;> omega
        · rw [if_neg h4] at ht
          cases ht
          show ¬ (pu_sg (b p) = 2 ∨ pu_sg (b p) = 3)
          have hs : pu_sg (b p) ≠ 2 ∧ pu_sg (b p) ≠ 3 := by
            unfold pu_sg
            repeat (split; · (constructor <;> decide))
            constructor <;> decide
          omega
  · rw [decide_eq_false hlt, Bool.false_and, pu_tt_e b (by omega)]
    refine (decide_eq_false ?_).symm
    show ¬ ((0 : Nat) = 2 ∨ (0 : Nat) = 3)
    omega
section PUR1
variable {s : List (Nat × Nat)} {R : Nat → Nat → Option Nat} {b : Nat → Nat} {tl : Nat}
theorem pz_puts {I : Nat → Nat → Int32} {J : Nat → Nat → Int64} (hM : pu_M s R) {t n k v : Nat} {x y : Int32} (ht : t < 6) (h11 : I 70 11 = nI t) (h73 : I 73 t = nI n) (hn : n < 400) (hx : x = nI k) (hy : y = nI v) : fb_m_puts 70 x y (s, I, J, R) = some (s, tb_up2 (tb_up2 I 72 (400 * t + n) (nI (k + 16 * v))) 73 t (nI (n + 1)), J, R) := by
  have e1 : (400 : Int32) * nI t + nI n = nI (400 * t + n) := by rw [pu_M400, nI_add]
  have e2 : nI k + 16 * nI v = nI (k + 16 * v) := by rw [pu_M16, nI_add]
  have u11 : tb_up2 I 72 (400 * t + n) (nI (k + 16 * v)) 70 11 = nI t := by rw [pu_u2p _ _ _ _ (by decide)]; exact h11
  have u73 : tb_up2 I 72 (400 * t + n) (nI (k + 16 * v)) 73 t = nI n := by rw [pu_u2p _ _ _ _ (by decide)]; exact h73
  subst hx hy
  unfold fb_m_puts
  simp only [pu_gN (pu_m70 hM), pu_r3 hM, pu_r4 hM, Option.bind_some, pu_gI (pu_m70 hM), h11, pu_lI (pu_m73 hM) (show t < 7 by omega) (show 7 ≤ 100000 by omega), h73, e1, e2, pu_tI (pu_m72 hM) (show 400 * t + n < 2400 by omega) (show 2400 ≤ 100000 by omega), u11, u73, pu_R1, pu_tI (pu_m73 hM) (show t < 7 by omega) (show 7 ≤ 100000 by omega)]
theorem pz_makes {I : Nat → Nat → Int32} {J : Nat → Nat → Int64} (hM : pu_M s R) {n p : Nat} (h12 : I 70 12 = nI n) (hn : n ≤ 60) (h9 : I 70 9 = 0) : fb_m_makes 70 (nI p) (s, I, J, R) = if n < 60 then some (1, (s, tb_up2 I 70 12 (nI (n + 1)), J, R)) else some (0, (s, tb_up2 I 70 9 (nI (1 + 8 * p + 3)), J, R)) := by
  have e60 : (nI n = (60 : Int32)) = (n = 60) := pu_eqI (b := 60) (by omega) (by omega)
  have hf := pu_m_fails (J := J) hM h9 3 p
  rw [show nI 3 = 3 from rfl] at hf
  unfold fb_m_makes
  simp only [pu_gI (pu_m70 hM), h12, Option.bind_some, e60]
  by_cases x : n < 60
  · rw [if_pos x, if_neg (by omega), pu_R1, pu_pI (pu_m70 hM), Option.bind_some]
  · rw [if_neg x, if_pos (by omega), pu_on (pu_m70 hM), hf, Option.bind_some]
    rfl
end PUR1
