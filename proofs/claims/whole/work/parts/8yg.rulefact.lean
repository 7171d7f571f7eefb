/-! ===== The class reads a rule: facts ===== -/
theorem pz_sg_en {k : Nat} (h1 : 12 ≤ k) (h2 : k ≤ 16) : -(nI k) = pu_en (k - 6) 0 := by
  have : k = 12 ∨ k = 13 ∨ k = 14 ∨ k = 15 ∨ k = 16 := by omega
  rcases this with x | x | x | x | x <;> subst x <;> decide +kernel
section PUG1
variable {s : List (Nat × Nat)} {R : Nat → Nat → Option Nat} {l : List (Nat × Nat × Nat)} {b : Nat}
theorem pz_fact (hX : pu_X s R) (hg : pu_Tg l) (he : pu_En l) : ∀ n p, p ≤ 10 → 11 ≤ p + n → pz_Sp s R l b (fb_rr_readFactN n 15 (nI p)) (pz_fa n p) := by
  intro n
  induction n with
  | zero => intro p h1 h2; omega
  | succ n ih =>
    intro p hp hn I J z e h400 h
    have hk38 := pu_hk_le h.1 hg
    have ek : ∀ m : Nat, m ≤ 100 → (nI (pu_hk z.2.2.1) = nI m) = (pu_hk z.2.2.1 = m) := fun m hm => pu_eqI (by omega) (by omega)
    have e38 : (nI (pu_hk z.2.2.1) = (38 : Int32)) = (pu_hk z.2.2.1 = 38) := ek 38 (by omega)
    have e5 : (nI (pu_hk z.2.2.1) = (5 : Int32)) = (pu_hk z.2.2.1 = 5) := ek 5 (by omega)
    have e10 : (nI p < (10 : Int32)) = (p < 10) := pu_ltI (b := 10) (by omega) (by omega)
    show ∃ I', fb_rr_readFactO (fb_rr_readFactN n) 15 (nI p) (s, I, J, R) = _ ∧ _
    have open0 : (pu_hk z.2.2.1 = 38 ∨ pu_hk z.2.2.1 = 5) → fb_rr_readFactO (fb_rr_readFactN n) 15 (nI p) (s, I, J, R) = fj_rr_readFactO_j10 (fb_rr_readFactN n) 15 (nI p) (nI (pu_hk z.2.2.1)) (s, I, J, R) := by
      intro ho
      unfold fb_rr_readFactO
      simp only [pu_gN (pu_c15 hX), pu_f15_0 hX, Option.bind_some, pu_gI (pu_c2 hX), h.kd, e38, e5]
      by_cases x : pu_hk z.2.2.1 = 38
      · rw [if_pos x]
      · rw [if_neg x, if_pos (by omega)]
    by_cases ho : pu_hk z.2.2.1 = 38 ∨ pu_hk z.2.2.1 = 5
    · rw [open0 ho]
      by_cases h10 : 10 ≤ p
      · have ez : pz_fa (n + 1) p z = pz_fz z 2 := by
          show (if _ then _ else _) = _
          rw [if_pos ho, if_pos h10]
        rw [ez]
        obtain ⟨I1, a1, a2, a3⟩ := pz_fail (J := J) (why := 2) hX hg h (by omega)
        rw [show nI 2 = 2 from rfl] at a1
        refine ⟨I1, ?_, a2 _, a3⟩
        unfold fj_rr_readFactO_j10
        simp only [e10, show ¬ p < 10 by omega, ↓reduceIte, pu_gN (pu_c15 hX), pu_f15_0 hX, Option.bind_some, pu_on (pu_c2 hX), a1]
      · obtain ⟨I1, a1, a2, a3, a4⟩ := pz_adv (J := J) hX he h (by omega)
        have hp1 := a2.p1 a4
        obtain ⟨e, rfl⟩ : ∃ x, e = x + 1 := ⟨e - 1, by omega⟩
        by_cases h38 : pu_hk z.2.2.1 = 38
        · have ez : pz_fa (n + 1) p z = pz_em (pz_fa n (p + 1) (pz_ad z)) 11 0 := by
            show (if _ then _ else _) = _
            rw [if_pos ho, if_neg h10, if_pos h38]
          rw [ez]
          obtain ⟨I2, b1, b2, b3⟩ := ih (p + 1) (by omega) (by omega) I1 J _ e (by omega) a2
          obtain ⟨I3, c1, c2, c3⟩ := pz_emit (J := J) (k := 11) (v := 0) (a := -38) hX b2 (b2.lt (by omega)) (by decide) (by omega) (by omega) (fun x => by omega)
          refine ⟨I3, ?_, c2, (a3.tr b3).tr c3⟩
          unfold fj_rr_readFactO_j10 fj_rr_readFactO_j18
          simp only [e10, show p < 10 by omega, ↓reduceIte, e38, if_pos h38, pu_gN (pu_c15 hX), pu_f15_0 hX, Option.bind_some, pu_on (pu_c2 hX), a1, pu_on (pu_c15 hX), pu_R1, b1, c1]
        · have h5 : pu_hk z.2.2.1 = 5 := by omega
          have ez : pz_fa (n + 1) p z = pz_cl (pz_te (pz_fa n (p + 1)) (pz_ad z)) := by
            show (if _ then _ else _) = _
            rw [if_pos ho, if_neg h10, if_neg h38]
          rw [ez]
          obtain ⟨I2, b1, b2, b3⟩ := pz_test hX hg he (gh := fb_rr_readFactN n) (ih (p + 1) (by omega) (by omega)) I1 J _ e (by omega) a2
          generalize pz_te (pz_fa n (p + 1)) (pz_ad z) = y at *
          have hy38 := pu_hk_le b2.1 hg
          have e6 : (nI (pu_hk y.2.2.1) = (6 : Int32)) = (pu_hk y.2.2.1 = 6) := pu_eqI (b := 6) (by omega) (by omega)
          have hj : fj_rr_readFactO_j10 (fb_rr_readFactN n) 15 (nI p) (nI (pu_hk z.2.2.1)) (s, I, J, R) = (if pu_hk y.2.2.1 = 6 then (fb_t_advance 2 (s, I2, J, R)).bind fun x13 => some x13 else (fb_t_fail 2 0 (s, I2, J, R)).bind fun x15 => some x15) := by
            unfold fj_rr_readFactO_j10 fj_rr_readFactO_j18
            simp only [e10, show p < 10 by omega, ↓reduceIte, e38, e5, if_neg h38, if_pos h5, pu_gN (pu_c15 hX), pu_f15_0 hX, Option.bind_some, pu_on (pu_c2 hX), a1, pu_on (pu_c15 hX), pu_R1, b1, pu_gI (pu_c2 hX), b2.kd, e6]
          rw [hj]
          unfold pz_cl
          by_cases h6 : pu_hk y.2.2.1 = 6
          · rw [if_pos h6, if_pos h6]
            obtain ⟨I3, c1, c2, c3, _⟩ := pz_adv (J := J) hX he b2 (by omega)
            exact ⟨I3, by rw [c1, Option.bind_some], c2.dn.dn, (a3.tr b3).tr c3⟩
          · rw [if_neg h6, if_neg h6]
            obtain ⟨I3, c1, c2, c3⟩ := pz_fail (J := J) (why := 0) hX hg b2 (by omega)
            rw [show nI 0 = 0 from rfl] at c1
            exact ⟨I3, by rw [c1, Option.bind_some], c2 _, (a3.tr b3).tr c3⟩
    · have n38 : ¬ pu_hk z.2.2.1 = 38 := fun x => ho (Or.inl x)
      have n5 : ¬ pu_hk z.2.2.1 = 5 := fun x => ho (Or.inr x)
      have ez : pz_fa (n + 1) p z = pz_cm z := by
        show (if _ then _ else _) = _
        rw [if_neg ho]
      rw [ez]
      obtain ⟨I1, a1, a2, a3⟩ := pz_sum (J := J) hX hg he h400 h
      unfold pz_cm
      generalize pz_su z = y at *
      have hy38 := pu_hk_le a2.1 hg
      have ew := fun w => pz_within (k := pu_hk y.2.2.1) (lo := 12) (hi := 16) (x := 12) (y := 16) rfl rfl (by omega) (by omega) (by omega) w
      have hj : fb_rr_readFactO (fb_rr_readFactN n) 15 (nI p) (s, I, J, R) = (if 12 ≤ pu_hk y.2.2.1 ∧ pu_hk y.2.2.1 ≤ 16 then (fb_rr_takePart 15 (s, I1, J, R)).bind fun x22 => (tb_on 14 15 x22 (fb_rr_readSum 15 x22)).bind fun x23 => (tb_on 14 15 x23 (fb_rr_emit 15 (-(nI (pu_hk y.2.2.1))) x23)).bind fun x24 => some x24 else (fb_t_fail 2 0 (s, I1, J, R)).bind fun x21 => some x21) := by
        unfold fb_rr_readFactO fj_rr_readFactO_j18
        simp only [pu_gN (pu_c15 hX), pu_f15_0 hX, Option.bind_some, pu_gI (pu_c2 hX), h.kd, e38, e5, n38, n5, ↓reduceIte, pu_on (pu_c15 hX), a1, a2.kd, ew, pu_b0, decide_eq_false_iff_not, pu_on (pu_c2 hX)]
        by_cases x : 12 ≤ pu_hk y.2.2.1 ∧ pu_hk y.2.2.1 ≤ 16
        · rw [if_neg (fun g => g x), if_pos x]
        · rw [if_pos x, if_neg x]
      rw [hj]
      by_cases x : 12 ≤ pu_hk y.2.2.1 ∧ pu_hk y.2.2.1 ≤ 16
      · rw [if_pos x, if_pos x]
        obtain ⟨I2, b1, b2, b3⟩ := pz_take (J := J) hX hg he a2 (by omega)
        have hp1 : 1 ≤ e := by
          obtain ⟨_, _, _, a4, a5⟩ := pz_adv (J := J) hX he a2 (by omega)
          have := a4
          exact pz_RZ.p1 (by assumption) (by assumption)
        obtain ⟨e, rfl⟩ : ∃ x, e = x + 1 := ⟨e - 1, by omega⟩
        obtain ⟨I3, c1, c2, c3⟩ := pz_sum (J := J) hX hg he (by omega) b2
        obtain ⟨I4, d1, d2, d3⟩ := pz_emit (J := J) hX c2 (c2.lt (by omega)) (pz_sg_en x.1 x.2) (by omega) (by omega) (fun x => by omega)
        exact ⟨I4, by rw [b1, Option.bind_some, pu_on (pu_c15 hX), c1, Option.bind_some, pu_on (pu_c15 hX), d1, Option.bind_some], d2, ((a3.tr b3).tr c3).tr d3⟩
      · rw [if_neg x, if_neg x]
        obtain ⟨I2, b1, b2, b3⟩ := pz_fail (J := J) (why := 0) hX hg a2 (by omega)
        rw [show nI 0 = 0 from rfl] at b1
        exact ⟨I2, by rw [b1, Option.bind_some], b2 _, a3.tr b3⟩
end PUG1
