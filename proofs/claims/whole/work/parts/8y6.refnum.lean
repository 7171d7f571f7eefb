/-! ===== The reference reads numbers ===== -/
/-- only fields 8, 9, 10 of the reference change -/
def pu_Of (I I' : Nat → Nat → Int32) : Prop := (∀ q, q ≠ 70 → I' q = I q) ∧ (∀ k, k ≠ 8 → k ≠ 9 → k ≠ 10 → I' 70 k = I 70 k)
theorem pu_Of.rf {I : Nat → Nat → Int32} : pu_Of I I := ⟨fun _ _ => rfl, fun _ _ _ _ => rfl⟩
theorem pu_Of.tr {I I' I2 : Nat → Nat → Int32} (a : pu_Of I I') (b : pu_Of I' I2) : pu_Of I I2 := ⟨fun q h => (b.1 q h).trans (a.1 q h), fun k h1 h2 h3 => (b.2 k h1 h2 h3).trans (a.2 k h1 h2 h3)⟩
theorem pu_Of.nf {I I' : Nat → Nat → Int32} (a : pu_Nf I I') : pu_Of I I' := ⟨a.1, fun k h1 _ _ => a.2 k h1⟩
theorem pu_MB.of {I I' : Nat → Nat → Int32} {b : Nat → Nat} {tl : Nat} (h : pu_MB I b tl) (a : pu_Of I I') : pu_MB I' b tl := ⟨by rw [a.2 1 (by decide) (by decide) (by decide)]; exact h.1, h.2.1, fun k hk => by rw [a.1 71 (by decide)]; exact h.2.2 k hk⟩
/-- the reference reads on at r, with no fault so far -/
def pu_RS (I : Nat → Nat → Int32) (b : Nat → Nat) (tl : Nat) (r : List (Nat × Nat × Nat)) : Prop := pu_MB I b tl ∧ I 70 9 = 0 ∧ ∃ q, q ≤ tl ∧ I 70 8 = nI q ∧ r = pu_tt b tl q
section PUR6
variable {s : List (Nat × Nat)} {R : Nat → Nat → Option Nat} {b : Nat → Nat} {tl : Nat}
theorem pu_m_fails {I : Nat → Nat → Int32} {J : Nat → Nat → Int64} (hM : pu_M s R) (h : I 70 9 = 0) (k p : Nat) : fb_m_fails 70 (nI k) (nI p) (s, I, J, R) = some (0, (s, tb_up2 I 70 9 (nI (1 + 8 * p + k)), J, R)) := by
  have ev : (1 : Int32) + 8 * nI p + nI k = nI (1 + 8 * p + k) := by rw [show (8 : Int32) = nI 8 from rfl, pu_mul, pu_L1, nI_add]
  unfold fb_m_fails
  simp only [pu_gI (pu_m70 hM), h, Option.bind_some, ↓reduceIte, ev, pu_pI (pu_m70 hM)]
theorem pu_m_num_l (hM : pu_M s R) {p : Nat} (v1 v2 : Int32) : ∀ d k n (I : Nat → Nat → Int32) (J : Nat → Nat → Int64), p + k + d = tl → d < n → pu_MB I b tl → I 70 8 = nI (p + k) → (∀ i, i < k → pu_isd (b (p + i)) = true) → ∃ I', fl_m_numberHere_19 n 70 v1 v2 (nI p) (nI (pu_dv b p k)) (s, I, J, R) = some (70, v1, v2, nI p, nI (pu_dv b p (pu_ff (fun z => !pu_isd (b z)) d (p + k) - p)), (s, I', J, R)) ∧ I' 70 8 = nI (pu_ff (fun z => !pu_isd (b z)) d (p + k)) ∧ pu_Nf I I' := by
  intro d
  induction d with
  | zero =>
    intro k n I J hk hn h e hd
    obtain ⟨n, rfl⟩ : ∃ z, n = z + 1 := ⟨n - 1, by omega⟩
    have h4 := h.2.1
    rw [fl_m_numberHere_19.eq_2]
    simp only [pu_gI (pu_m70 hM), e, Option.bind_some, pu_on (pu_m70 hM), pu_m_isDigit hM h (show p + k ≤ 1000 by omega), show ¬ p + k < tl by omega, decide_false, Bool.false_and, pu_bf, ↓reduceIte]
    refine ⟨I, ?_, e, pu_Nf.rf⟩
    rw [show pu_ff (fun z => !pu_isd (b z)) 0 (p + k) = p + k from rfl, Nat.add_sub_cancel_left]
  | succ d ih =>
    intro k n I J hk hn h e hd
    obtain ⟨n, rfl⟩ : ∃ z, n = z + 1 := ⟨n - 1, by omega⟩
    have h4 := h.2.1
    obtain ⟨hb, hb2⟩ := h.2.2 (p + k) (by omega)
    have e5 : (nI (p + k) - nI p < (5 : Int32)) = (k < 5) := by rw [pu_sub (by omega), Nat.add_sub_cancel_left]; exact pu_ltI (b := 5) (by omega) (by omega)
    have ed := pu_dv_le hd
    rw [fl_m_numberHere_19.eq_2, show pu_ff (fun z => !pu_isd (b z)) (d + 1) (p + k) = if (!pu_isd (b (p + k))) = true then p + k else pu_ff (fun z => !pu_isd (b z)) d (p + k + 1) from rfl]
    simp only [pu_gI (pu_m70 hM), e, Option.bind_some, pu_on (pu_m70 hM), pu_m_isDigit hM h (show p + k ≤ 1000 by omega), show p + k < tl by omega, decide_true, Bool.true_and, pu_b0, e5, pu_gN (pu_m70 hM), pu_r0 hM, pu_lB0 (pu_m71 hM) (show p + k < 400 by omega) (show 400 ≤ 100000 by omega), hb2, fj_m_numberHere_j42, pu_R1, pu_pI (pu_m70 hM)]
    cases hc : pu_isd (b (p + k))
    · refine ⟨I, ?_, ?_, pu_Nf.rf⟩
      · simp only [↓reduceIte, Bool.not_false, Nat.add_sub_cancel_left]
      · simp only [Bool.not_false, ↓reduceIte]; exact e
    · obtain ⟨I', a1, a2, a3⟩ := ih (k + 1) n (tb_up2 I 70 8 (nI (p + k + 1))) J (by omega) (by omega) (h.nf pu_Nf.u) (pu_u2s _ _ _ _) (fun i hi => by
        by_cases e : i = k
        · rw [e]; exact hc
        · exact hd i (by omega))
      have h48 : 48 ≤ b (p + k) := by
        unfold pu_isd at hc
        rw [Bool.and_eq_true, decide_eq_true_eq] at hc
        exact hc.1
      rw [show pu_dv b p (k + 1) = if k < 5 then 10 * pu_dv b p k + (b (p + k) - 48) else pu_dv b p k from rfl, show p + (k + 1) = p + k + 1 by omega] at a1
      rw [show p + (k + 1) = p + k + 1 by omega] at a2
      refine ⟨I', ?_, by rw [if_neg (by decide)]; exact a2, pu_Nf.u.tr a3⟩
      simp only [Bool.true_eq_false, ↓reduceIte, Bool.not_true, Bool.false_eq_true]
      by_cases h5 : k < 5
      · rw [if_pos h5] at a1 ⊢
        have ev : (10 : Int32) * nI (pu_dv b p k) + pu_sby (b (p + k)) - 48 = nI (10 * pu_dv b p k + (b (p + k) - 48)) := by
          rw [pu_sby_isd _ hb hc, show (10 : Int32) = nI 10 from rfl, pu_mul, nI_add, show (48 : Int32) = nI 48 from rfl, pu_sub (by omega)]
          congr 1
          omega
        rw [ev]
        exact a1
      · rw [if_neg h5] at a1 ⊢
        exact a1
theorem pu_hk_d {p : Nat} (hp : p < tl) (h : pu_isd (b p) = true) : pu_tt b tl p = (if 5 < pu_de b tl p - p then 3 else 2, p, pu_dv b p (pu_de b tl p - p)) :: pu_tt b tl (pu_de b tl p) := by
  have h32 : b p ≠ 32 := by
    intro e
    rw [e] at h
    cases h
  obtain ⟨t, ht, e⟩ := pu_tt_s b hp h32
  have e1 : pu_t1 b tl p = (some (if 5 < pu_de b tl p - p then 3 else 2, p, pu_dv b p (pu_de b tl p - p)), pu_de b tl p) := by unfold pu_t1; rw [if_neg h32, if_pos h]
  rw [e1] at ht e
  have ht : some (if 5 < pu_de b tl p - p then 3 else 2, p, pu_dv b p (pu_de b tl p - p)) = some t := ht
  rw [e, ← Option.some.inj ht]
/-- the head where no digit stands: no number, and its place is here -/
theorem pu_hk_nd {p : Nat} (hp : p ≤ tl) (h32 : p < tl → b p ≠ 32) (h : (decide (p < tl) && pu_isd (b p)) = false) : ∃ t r, pu_tt b tl p = t :: r ∧ t.1 ≠ 2 ∧ t.1 ≠ 3 ∧ t.2.1 = p := by
  by_cases hlt : p < tl
  · rw [decide_eq_true hlt, Bool.true_and] at h
    obtain ⟨t, ht, e⟩ := pu_tt_s b hlt (h32 hlt)
    refine ⟨t, _, e, ?_⟩
    unfold pu_t1 at ht
    rw [if_neg (h32 hlt), h, if_neg (by decide)] at ht
    split at ht
    · cases ht
      have hw : ∀ n, n ≤ 19 → pu_wk b p (pu_le b tl p) n = 1 ∨ 20 ≤ pu_wk b p (pu_le b tl p) n := by
        intro n
        induction n with
        | zero => intro _; exact Or.inl rfl
        | succ n ih =>
          intro hn
          show (if pu_isw b p (pu_le b tl p) n then 20 + n else pu_wk b p (pu_le b tl p) n) = 1 ∨ _ ≤ (if pu_isw b p (pu_le b tl p) n then 20 + n else pu_wk b p (pu_le b tl p) n)
          split
          · exact Or.inr (by omega)
          · exact ih (by omega)
      have := hw 19 (Nat.le_refl _)
      exact ⟨by show pu_wk b p (pu_le b tl p) 19 ≠ 2; omega, by show pu_wk b p (pu_le b tl p) 19 ≠ 3; omega, rfl⟩
    · have hsg : pu_sg (b p) ≠ 2 ∧ pu_sg (b p) ≠ 3 := by
        unfold pu_sg
        repeat' split
        all_goals exact ⟨by decide, by decide⟩
      split at ht
      · cases ht
        refine ⟨?_, ?_, rfl⟩
        · show (if pu_sg (b p) = 12 then 13 else 15) ≠ 2
          split <;> decide
        · show (if pu_sg (b p) = 12 then 13 else 15) ≠ 3
          split <;> decide
      · cases ht
        exact ⟨hsg.1, hsg.2, rfl⟩
  · rw [pu_tt_e b (by omega)]
    exact ⟨_, _, rfl, by show (0 : Nat) ≠ 2; decide, by show (0 : Nat) ≠ 3; decide, by show tl = p; omega⟩
/-- a number from lo, below hi; or the fault that the class tells, too -/
theorem pu_m_number {I : Nat → Nat → Int32} {J : Nat → Nat → Int64} (hM : pu_M s R) {r : List (Nat × Nat × Nat)} (h : pu_RS I b tl r) {lo hi : Nat} {a2 : Int32} (hlo : lo < 1000) (hhi : hi < 1000000) (hh0 : 0 < hi) (ha : a2 = nI (hi - 1)) :
    ∃ I', fb_m_numberHere 70 (nI lo) a2 (s, I, J, R) = some (pu_b (decide ((pu_rn lo hi r 0).2.2 = 0)), (s, I', J, R)) ∧ pu_Of I I' ∧ ((pu_rn lo hi r 0).2.2 = 0 → pu_RS I' b tl (pu_rn lo hi r 0).2.1 ∧ I' 70 10 = nI (pu_rn lo hi r 0).1) ∧ ((pu_rn lo hi r 0).2.2 ≠ 0 → I' 70 9 = nI (pu_rn lo hi r 0).2.2) := by
  obtain ⟨hb, h9, q, hq, e8, rfl⟩ := h
  have h400 := hb.2.1
  obtain ⟨I1, a1, a2', a3⟩ := pu_m_see (J := J) hM hb hq e8
  have hs := pu_sp_le b hq
  have hb1 := hb.nf a3
  have h32 : pu_sp b tl q < tl → b (pu_sp b tl q) ≠ 32 := fun hx => pu_sp_ne hq hx
  have h91 : I1 70 9 = 0 := by rw [a3.2 9 (by decide)]; exact h9
  rw [pu_tt_sp b hq]
  generalize pu_sp b tl q = p at *
  unfold fb_m_numberHere
  simp only [pu_on (pu_m70 hM), a1, Option.bind_some, pu_gI (pu_m70 hM), a2', pu_m_isDigit hM hb1 (show p ≤ 1000 by omega), pu_b0]
  cases hd : (decide (p < tl) && pu_isd (b p))
  · obtain ⟨t, r', et, t2, t3, tp⟩ := pu_hk_nd hs.1 h32 hd
    have er : pu_rn lo hi (pu_tt b tl p) 0 = (0, [], 1 + 8 * p + 0) := by
      rw [et]
      unfold pu_rn
      dsimp only
      rw [if_neg (fun hx => t2 hx.1), if_neg (by omega)]
      unfold pu_ft
      rw [if_pos rfl]
      dsimp only
      rw [tp]
    have hf := pu_m_fails (J := J) hM h91 0 p
    rw [show nI 0 = 0 from rfl] at hf
    rw [er]
    refine ⟨tb_up2 I1 70 9 (nI (1 + 8 * p + 0)), ?_, ⟨fun z hz => by rw [pu_u2p _ _ _ _ hz, a3.1 z hz], fun k h1 h2 _ => by rw [pu_u2k _ _ _ _ h2, a3.2 k h1]⟩, fun hx => ?_, fun _ => pu_u2s _ _ _ _⟩
    · simp only [↓reduceIte, hf, Option.bind_some, tb_z, true_or, show ¬ (1 + 8 * p + 0 = 0) by omega, decide_false, pu_bf]
    · have hx : 1 + 8 * p + 0 = 0 := hx
      omega
  · rw [Bool.and_eq_true, decide_eq_true_eq] at hd
    obtain ⟨hlt, hdig⟩ := hd
    have et := pu_hk_d hlt hdig
    have hle : pu_de b tl p ≤ tl := by have := pu_ff_le (fun k => !pu_isd (b k)) (tl - p) p; unfold pu_de; omega
    have hge : p < pu_de b tl p := pu_ff_gt (by rw [hdig]; rfl) (by omega)
    obtain ⟨I2, b1, b2, b3⟩ := pu_m_num_l (b := b) (tl := tl) hM (p := p) (nI lo) a2 (tl - p) 0 1048576 I1 J (by omega) (by omega) hb1 a2' (fun i hi => absurd hi (Nat.not_lt_zero _))
    rw [show nI (pu_dv b p 0) = 0 from rfl, Nat.add_zero, show pu_ff (fun z => !pu_isd (b z)) (tl - p) p = pu_de b tl p from rfl] at b1
    rw [Nat.add_zero, show pu_ff (fun z => !pu_isd (b z)) (tl - p) p = pu_de b tl p from rfl] at b2
    have hv : pu_dv b p (pu_de b tl p - p) ≤ 99999 := pu_dv_le pu_de_d
    have e5 : (nI (pu_de b tl p) - nI p ≤ (5 : Int32)) = (pu_de b tl p - p ≤ 5) := by rw [pu_sub (by omega)]; exact pu_leI (b := 5) (by omega) (by omega)
    have x8 : tb_up2 I2 70 10 (nI (pu_dv b p (pu_de b tl p - p))) 70 8 = nI (pu_de b tl p) := by rw [pu_u2k _ _ _ _ (by decide)]; exact b2
    have x9 : tb_up2 I2 70 10 (nI (pu_dv b p (pu_de b tl p - p))) 70 9 = 0 := by rw [pu_u2k _ _ _ _ (by decide), b3.2 9 (by decide)]; exact h91
    have hw : pu_wi (nI (pu_dv b p (pu_de b tl p - p))) (nI lo) a2 = decide (lo ≤ pu_dv b p (pu_de b tl p - p) ∧ pu_dv b p (pu_de b tl p - p) < hi) := by
      unfold pu_wi
      rw [ha]
      have e4 : (nI (pu_dv b p (pu_de b tl p - p)) ≤ nI (hi - 1)) = (pu_dv b p (pu_de b tl p - p) < hi) := by rw [pu_leI (by omega) (by omega)]; exact propext (by omega)
      have e6 : decide (nI (pu_dv b p (pu_de b tl p - p)) < nI lo) = decide (pu_dv b p (pu_de b tl p - p) < lo) := by simp only [pu_ltI (show pu_dv b p (pu_de b tl p - p) < 2147483648 by omega) (show lo < 2147483648 by omega)]
      simp only [e4, e6]
      by_cases x1 : pu_dv b p (pu_de b tl p - p) < lo
      · rw [decide_eq_true x1, decide_eq_false (show ¬ (lo ≤ pu_dv b p (pu_de b tl p - p) ∧ pu_dv b p (pu_de b tl p - p) < hi) by omega)]; rfl
      · rw [decide_eq_false x1]
        by_cases x2 : pu_dv b p (pu_de b tl p - p) < hi
        · rw [decide_eq_true x2, decide_eq_true (show lo ≤ pu_dv b p (pu_de b tl p - p) ∧ pu_dv b p (pu_de b tl p - p) < hi by omega)]; rfl
        · rw [decide_eq_false x2, decide_eq_false (show ¬ (lo ≤ pu_dv b p (pu_de b tl p - p) ∧ pu_dv b p (pu_de b tl p - p) < hi) by omega)]; rfl
    have of2 : pu_Of I (tb_up2 I2 70 10 (nI (pu_dv b p (pu_de b tl p - p)))) := ⟨fun z hz => by rw [pu_u2p _ _ _ _ hz, b3.1 z hz, a3.1 z hz], fun k h1 h2 h3 => by rw [pu_u2k _ _ _ _ h3, b3.2 k h1, a3.2 k h1]⟩
    simp only [Bool.true_eq_false, ↓reduceIte, b1, Option.bind_some, pu_pI (pu_m70 hM), pu_gI (pu_m70 hM), x8, e5, pu_m_in (nI (pu_dv b p (pu_de b tl p - p))) (nI lo) a2 rfl rfl, hw, pu_b0]
    by_cases cok : pu_de b tl p - p ≤ 5 ∧ lo ≤ pu_dv b p (pu_de b tl p - p) ∧ pu_dv b p (pu_de b tl p - p) < hi
    · have er : pu_rn lo hi (pu_tt b tl p) 0 = (pu_dv b p (pu_de b tl p - p), pu_tt b tl (pu_de b tl p), 0) := by
        rw [et]
        unfold pu_rn
        dsimp only
        rw [if_neg (show ¬ 5 < pu_de b tl p - p by omega), if_pos ⟨rfl, cok.2⟩]
      rw [er]
      refine ⟨_, ?_, of2, fun _ => ⟨⟨hb.of of2, x9, pu_de b tl p, hle, x8, rfl⟩, pu_u2s _ _ _ _⟩, fun hx => absurd rfl hx⟩
      rw [if_pos cok.1, decide_eq_true cok.2, if_neg (by decide)]
      rfl
    · have er : pu_rn lo hi (pu_tt b tl p) 0 = (0, [], 1 + 8 * p + 1) := by
        rw [et]
        unfold pu_rn
        dsimp only
        have : ¬ ((if 5 < pu_de b tl p - p then 3 else 2) = 2 ∧ lo ≤ pu_dv b p (pu_de b tl p - p) ∧ pu_dv b p (pu_de b tl p - p) < hi) := by
          by_cases c5 : 5 < pu_de b tl p - p
          · rw [if_pos c5]; rintro ⟨hx, _⟩; cases hx
          · rw [if_neg c5]; rintro ⟨_, hx⟩; exact cok ⟨by omega, hx⟩
        have h23 : (if 5 < pu_de b tl p - p then 3 else 2) = 2 ∨ (if 5 < pu_de b tl p - p then 3 else 2) = 3 := by
          split
          · exact Or.inr rfl
          · exact Or.inl rfl
        rw [if_neg this, if_pos h23]
        unfold pu_ft
        rw [if_pos rfl]
      have hf := pu_m_fails (J := J) hM x9 1 p
      rw [show nI 1 = 1 from rfl] at hf
      rw [er]
      have j66 : fj_m_numberHere_j66 70 (nI p) (s, tb_up2 I2 70 10 (nI (pu_dv b p (pu_de b tl p - p))), J, R) = some (pu_b (decide (1 + 8 * p + 1 = 0)), (s, tb_up2 (tb_up2 I2 70 10 (nI (pu_dv b p (pu_de b tl p - p)))) 70 9 (nI (1 + 8 * p + 1)), J, R)) := by
        unfold fj_m_numberHere_j66
        simp only [pu_on (pu_m70 hM), hf, Option.bind_some, ↓reduceIte, show ¬ (1 + 8 * p + 1 = 0) by omega, decide_false, pu_bf]
      refine ⟨tb_up2 (tb_up2 I2 70 10 (nI (pu_dv b p (pu_de b tl p - p)))) 70 9 (nI (1 + 8 * p + 1)), ?_, ⟨fun z hz => by rw [pu_u2p _ _ _ _ hz]; exact of2.1 z hz, fun k h1 h2 h3 => by rw [pu_u2k _ _ _ _ h2]; exact of2.2 k h1 h2 h3⟩, fun hx => ?_, fun _ => pu_u2s _ _ _ _⟩
      · by_cases c5 : pu_de b tl p - p ≤ 5
        · rw [if_pos c5, decide_eq_false (fun hx => cok ⟨c5, hx⟩), if_pos rfl]
          exact j66
        · rw [if_neg c5]
          exact j66
      · have hx : 1 + 8 * p + 1 = 0 := hx
        omega
end PUR6
