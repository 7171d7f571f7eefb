/-! ===== The reference: giving way ===== -/
theorem pu_gw_s (n : Nat) (A : pu_A) : pu_gw (n + 1) A = if pu_mk (pu_weak A) 10 = 0 then A else pu_gw n (pu_fell A (pu_weak A)) := rfl
theorem pu_gw_sub (n : Nat) : ∀ (A : pu_A) (k : Nat), (pu_gw n A).2 1 k = true → A.2 1 k = true := by
  induction n with
  | zero => intro A k h; exact h
  | succ n ih =>
    intro A k h
    rw [pu_gw_s] at h
    split at h
    · exact h
    · have h2 := ih _ k h
      have h2 : (A.2 1 k && !pu_weak A k) = true := h2
      rw [Bool.and_eq_true] at h2
      exact h2.1
theorem pu_gw_up (n : Nat) : ∀ (A : pu_A) (k : Nat), (pu_gw n A).2 0 k = true → A.2 0 k = true := by
  induction n with
  | zero => intro A k h; exact h
  | succ n ih =>
    intro A k h
    rw [pu_gw_s] at h
    split at h
    · exact h
    · have h2 := ih _ k h
      have h2 : (A.2 0 k && !(pu_weak A (A.1 3 k) || pu_weak A (A.1 4 k))) = true := h2
      rw [Bool.and_eq_true] at h2
      exact h2.1
theorem pu_ct_lt {f g : Nat → Bool} : ∀ n, (∀ k, k < n → g k = true → f k = true) → (∃ k, k < n ∧ f k = true ∧ g k = false) → pu_ct g n < pu_ct f n
  | 0, _, ⟨k, hk, _⟩ => absurd hk (Nat.not_lt_zero k)
  | n + 1, hs, ⟨k, hk, h1, h2⟩ => by
    have e1 : pu_ct g (n + 1) = pu_ct g n + (if g n then 1 else 0) := rfl
    have e2 : pu_ct f (n + 1) = pu_ct f n + (if f n then 1 else 0) := rfl
    rw [e1, e2]
    by_cases hn : ∃ k, k < n ∧ f k = true ∧ g k = false
    · have := pu_ct_lt n (fun k hk => hs k (by omega)) hn
      have h3 := hs n (by omega)
      cases hg : g n
      · rw [if_neg (by decide)]; omega
      · rw [if_pos rfl, h3 hg, if_pos rfl]; omega
    · have hle : ∀ m, m ≤ n → pu_ct g m ≤ pu_ct f m := by
        intro m
        induction m with
        | zero => intro _; exact Nat.le_refl _
        | succ m ih =>
          intro hm
          have := ih (by omega)
          have h3 := hs m (by omega)
          have e1 : pu_ct g (m + 1) = pu_ct g m + (if g m then 1 else 0) := rfl
          have e2 : pu_ct f (m + 1) = pu_ct f m + (if f m then 1 else 0) := rfl
          rw [e1, e2]
          cases hg : g m
          · rw [if_neg (by decide)]; omega
          · rw [if_pos rfl, h3 hg, if_pos rfl]; omega
      have hkn : k = n := by
        rcases Nat.lt_or_ge k n with h | h
        · exact absurd ⟨k, h, h1, h2⟩ hn
        · omega
      subst hkn
      rw [h1, h2, if_pos rfl, if_neg (by decide)]
      have := hle k (Nat.le_refl _)
      omega
section PUF
variable {s : List (Nat × Nat)} {J : Nat → Nat → Int64} {R : Nat → Nat → Option Nat}
theorem pu_m_givesWay_h {A : pu_A} (hM : pu_M s R) (wf : pu_wf A) (g : Nat → Bool) (v1 : Int32) : ∀ d i n I, i + d = 2 * A.1 0 0 → d < n → pu_Q (I 80) (pu_fell A (fun k => decide (k < i) && g k)) →
    ∃ I', fl_m_givesWay_9 n 70 v1 (pu_mk g 10) (nI i) (s, I, J, R) = some (70, v1, pu_mk g 10, (s, I', J, R)) ∧ pu_Q (I' 80) (pu_fell A (fun k => decide (k < 2 * A.1 0 0) && g k)) ∧ pu_Mf I I' := by
  intro d
  have h5 := wf.1
  induction d with
  | zero =>
    intro i n I hi hn q
    obtain ⟨n, rfl⟩ : ∃ z, n = z + 1 := ⟨n - 1, by omega⟩
    have hh := pu_m_houses (J := J) hM q
    rw [show (pu_fell A (fun k => decide (k < i) && g k)).1 = A.1 from rfl] at hh
    unfold fl_m_givesWay_9
    simp only [pu_on (pu_m70 hM), hh, Option.bind_some, pu_ltI (show i < 2147483648 by omega) (show 2 * A.1 0 0 < 2147483648 by omega), show ¬ i < 2 * A.1 0 0 by omega, ↓reduceIte]
    rw [show i = 2 * A.1 0 0 by omega] at q
    exact ⟨I, rfl, q, pu_Mf.rf⟩
  | succ d ih =>
    intro i n I hi hn q
    obtain ⟨n, rfl⟩ : ∃ z, n = z + 1 := ⟨n - 1, by omega⟩
    have hil : i < 2 * A.1 0 0 := by omega
    have hh := pu_m_houses (J := J) hM q
    rw [show (pu_fell A (fun k => decide (k < i) && g k)).1 = A.1 from rfl] at hh
    unfold fl_m_givesWay_9
    simp only [pu_on (pu_m70 hM), hh, Option.bind_some, pu_ltI (show i < 2147483648 by omega) (show 2 * A.1 0 0 < 2147483648 by omega), hil, ↓reduceIte, fb_m_isOf, pu_sh (pu_mk g 10) (show i < 32 by omega), pu_mk_bt g 10 (by omega) i (by omega), show i < 10 by omega, decide_true, Bool.true_and, pu_b1]
    rw [← nI_succ]
    cases hg : g i
    · simp only [Bool.false_eq_true, ↓reduceIte, Option.bind_some]
      refine ih (i + 1) n I (by omega) (by omega) ?_
      have : (fun k => decide (k < i + 1) && g k) = (fun k => decide (k < i) && g k) := by
        funext l
        by_cases e : l = i
        · subst e; simp [hg]
        · have : (l < i + 1) = (l < i) := propext (by omega)
          simp only [this]
      rw [this]
      exact q
    · simp only [↓reduceIte, Option.bind_some, show ¬ ((1 : Int32) = 0) by decide, pu_gN (pu_m70 hM), pu_r20 hM, pu_put' hM (pu_L32 i) (show 32 + i < 149 by omega)]
      have wfi := pu_fell_wf wf (fun k => decide (k < i) && g k)
      have q2 : pu_Q ((tb_up2 I 80 (32 + i) 0) 80) (pu_t2 (pu_fell A (fun k => decide (k < i) && g k)) ((pu_fell A (fun k => decide (k < i) && g k)).2 0) (fun k => (pu_fell A (fun k => decide (k < i) && g k)).2 1 k && !decide (k = i))) := by
        obtain ⟨⟨a0, a1, a2, a3, a4⟩, b, c, dd⟩ := q
        refine ⟨⟨?_, ?_, ?_, ?_, ?_⟩, ?_, ?_, ?_⟩
        · simp (disch := omega) only [pu_u2k]; exact a0
        · simp (disch := omega) only [pu_u2k]; exact a1
        · simp (disch := omega) only [pu_u2k]; exact a2
        · simp (disch := omega) only [pu_u2k]; exact a3
        · simp (disch := omega) only [pu_u2k]; exact a4
        · intro h hx
          simp (disch := omega) only [pu_u2k]; exact b h hx
        · intro h hx
          have hx : h < 2 * A.1 0 0 := hx
          show _ = pu_b ((pu_fell A (fun k => decide (k < i) && g k)).2 1 h && !decide (h = i))
          by_cases e : h = i
          · subst e
            rw [pu_u2s, decide_eq_true rfl, Bool.not_true, Bool.and_false]; rfl
          · rw [pu_u2k _ _ _ _ (by omega), decide_eq_false e, Bool.not_false, Bool.and_true]
            exact c h hx
        · intro k hk
          have hk : k < A.1 0 3 := hk
          have h9 := wf.2.2.1
          simp (disch := omega) only [pu_u2k]
          exact dd k hk
      have wf2 : pu_wf (pu_t2 (pu_fell A (fun k => decide (k < i) && g k)) ((pu_fell A (fun k => decide (k < i) && g k)).2 0) (fun k => (pu_fell A (fun k => decide (k < i) && g k)).2 1 k && !decide (k = i))) := pu_t2_wf wfi (fun l hl => hl) (fun l hl => (Bool.and_eq_true _ _ ▸ hl : _ ∧ _).1)
      simp only [pu_on (pu_m70 hM), pu_m_linesAt hM q2 wf2 (show i < 2147483648 by omega), Option.bind_some]
      obtain ⟨I2, d1, d2, d3⟩ := pu_m_downsAll (J := J) hM q2 wf2 (fun l => pu_at (pu_t2 (pu_fell A (fun k => decide (k < i) && g k)) ((pu_fell A (fun k => decide (k < i) && g k)).2 0) (fun k => (pu_fell A (fun k => decide (k < i) && g k)).2 1 k && !decide (k = i))) l i)
      simp only [d1, Option.bind_some]
      have ef : pu_t2 (pu_t2 (pu_fell A (fun k => decide (k < i) && g k)) ((pu_fell A (fun k => decide (k < i) && g k)).2 0) (fun k => (pu_fell A (fun k => decide (k < i) && g k)).2 1 k && !decide (k = i)))
          (fun l => (pu_fell A (fun k => decide (k < i) && g k)).2 0 l && !pu_at (pu_t2 (pu_fell A (fun k => decide (k < i) && g k)) ((pu_fell A (fun k => decide (k < i) && g k)).2 0) (fun k => (pu_fell A (fun k => decide (k < i) && g k)).2 1 k && !decide (k = i))) l i)
          (fun k => (pu_fell A (fun k => decide (k < i) && g k)).2 1 k && !decide (k = i)) = pu_fell A (fun k => decide (k < i + 1) && g k) := by
        rw [pu_t2_t2]
        unfold pu_t2 pu_fell pu_at
        congr 1
        have hk1 : ∀ x, (decide (x < i + 1) && g x) = ((decide (x < i) && g x) || decide (x = i)) := by
          intro x
          by_cases e : x = i
          · subst e; simp [hg]
          · have : (x < i + 1) = (x < i) := propext (by omega)
            simp only [this, e, decide_false, Bool.or_false]
        funext r k
        by_cases h0 : r = 0
        · subst h0
          simp only [↓reduceIte, hk1]
          cases A.2 0 k <;> cases (decide (A.1 3 k < i) && g (A.1 3 k)) <;> cases (decide (A.1 4 k < i) && g (A.1 4 k)) <;> cases (decide (A.1 3 k = i)) <;> cases (decide (A.1 4 k = i)) <;> rfl
        · by_cases h1 : r = 1
          · subst h1
            simp only [↓reduceIte, hk1, show ¬ ((1 : Nat) = 0) by omega]
            cases A.2 1 k <;> cases (decide (k < i) && g k) <;> cases (decide (k = i)) <;> rfl
          · simp only [h0, h1, ↓reduceIte]
      have d4 : pu_Q (I2 80) (pu_fell A (fun k => decide (k < i + 1) && g k)) := by rw [← ef]; exact d2
      obtain ⟨I', e1, e2, e4⟩ := ih (i + 1) n I2 (by omega) (by omega) d4
      exact ⟨I', e1, e2, ((pu_Mf.u2 (by omega) (by omega)).tr d3).tr e4⟩
theorem pu_m_givesWay_l (hM : pu_M s R) : ∀ d n I A F, pu_ct (A.2 1) 10 < d → d ≤ n → pu_wf A → pu_Q (I 80) A →
    ∃ I', fl_m_givesWay_5 n 70 (pu_mk F 10) (pu_mk (pu_weak A) 10) (s, I, J, R) = some (pu_mk (fun k => F k || pu_fallen A (pu_gw d A) k) 10, (s, I', J, R)) ∧ pu_Q (I' 80) (pu_gw d A) ∧ pu_Mf I I' := by
  intro d
  induction d with
  | zero => intro n I A F h; omega
  | succ d ih =>
    intro n I A F hc hn wf q
    obtain ⟨n, rfl⟩ : ∃ z, n = z + 1 := ⟨n - 1, by omega⟩
    have h5 := wf.1
    unfold fl_m_givesWay_5
    by_cases hw : pu_mk (pu_weak A) 10 = 0
    · have eg : pu_gw (d + 1) A = A := by unfold pu_gw; rw [if_pos hw]
      rw [eg, if_pos hw]
      refine ⟨I, ?_, q, pu_Mf.rf⟩
      rw [pu_mk_cong 10 (fun k _ => show (F k || pu_fallen A A k) = F k by unfold pu_fallen; cases A.2 1 k <;> simp)]
    · have eg : pu_gw (d + 1) A = pu_gw d (pu_fell A (pu_weak A)) := by
        show (if pu_mk (pu_weak A) 10 = 0 then A else pu_gw d (pu_fell A (pu_weak A))) = _
        rw [if_neg hw]
      rw [if_neg hw, eg]
      have e0 : pu_fell A (fun k => decide (k < 0) && pu_weak A k) = A := by
        rw [pu_fell_t2, pu_t2_t2]
        have x1 : (fun k => A.2 0 k && !((decide (A.1 3 k < 0) && pu_weak A (A.1 3 k)) || (decide (A.1 4 k < 0) && pu_weak A (A.1 4 k)))) = A.2 0 := by funext k; simp
        have x2 : (fun k => A.2 1 k && !(decide (k < 0) && pu_weak A k)) = A.2 1 := by funext k; simp
        rw [x1, x2, pu_t2_id]
      obtain ⟨I1, a1, a2, a3⟩ := pu_m_givesWay_h (J := J) hM wf (pu_weak A) (pu_mk F 10) (2 * A.1 0 0) 0 1048576 I (by omega) (by omega) (by rw [e0]; exact q)
      rw [show nI 0 = 0 from rfl] at a1
      have e1 : pu_fell A (fun k => decide (k < 2 * A.1 0 0) && pu_weak A k) = pu_fell A (pu_weak A) := by
        have : (fun k => decide (k < 2 * A.1 0 0) && pu_weak A k) = pu_weak A := by
          funext k
          by_cases hk : k < 2 * A.1 0 0
          · rw [decide_eq_true hk, Bool.true_and]
          · rw [decide_eq_false hk, Bool.false_and]
            unfold pu_weak
            rw [pu_nost wf hk]; rfl
        rw [this]
      rw [e1] at a2
      have wf2 := pu_fell_wf wf (pu_weak A)
      simp only [a1, Option.bind_some, pu_on (pu_m70 hM), pu_m_looseOnes hM a2 wf2, pu_mk_or _ _ (show 10 ≤ 32 by omega)]
      have hlt : pu_ct ((pu_fell A (pu_weak A)).2 1) 10 < pu_ct (A.2 1) 10 := by
        refine pu_ct_lt 10 (fun k _ hk => ?_) ?_
        · have hk : (A.2 1 k && !pu_weak A k) = true := hk
          rw [Bool.and_eq_true] at hk
          exact hk.1
        · have hne : ¬ ∀ k, k < 10 → pu_weak A k = false := fun hall => hw (by rw [pu_mk0 (by omega)]; exact hall)
          obtain ⟨k, hk⟩ := Classical.not_forall.mp hne
          obtain ⟨hk10, hk2⟩ := Classical.not_imp.mp hk
          have hk3 : pu_weak A k = true := by cases e : pu_weak A k <;> simp_all
          refine ⟨k, hk10, ?_, ?_⟩
          · unfold pu_weak at hk3
            rw [Bool.and_eq_true] at hk3
            exact hk3.1
          · show (A.2 1 k && !pu_weak A k) = false
            rw [hk3]; simp
      obtain ⟨I', b1, b2, b3⟩ := ih n I1 (pu_fell A (pu_weak A)) (fun k => F k || pu_weak A k) (by omega) (by omega) wf2 a2
      refine ⟨I', ?_, b2, a3.tr b3⟩
      rw [b1]
      rw [pu_mk_cong 10 (fun k _ => ?_)]
      show ((F k || pu_weak A k) || pu_fallen (pu_fell A (pu_weak A)) (pu_gw d (pu_fell A (pu_weak A))) k) = (F k || pu_fallen A (pu_gw d (pu_fell A (pu_weak A))) k)
      unfold pu_fallen
      rw [show (pu_fell A (pu_weak A)).2 1 k = (A.2 1 k && !pu_weak A k) from rfl]
      have hs := pu_gw_sub d (pu_fell A (pu_weak A)) k
      rw [show (pu_fell A (pu_weak A)).2 1 k = (A.2 1 k && !pu_weak A k) from rfl] at hs
      have hws : pu_weak A k = true → A.2 1 k = true := fun h => by
        unfold pu_weak at h
        rw [Bool.and_eq_true] at h
        exact h.1
      cases hF : F k <;> cases hW : pu_weak A k <;> cases hS : A.2 1 k <;> cases hG : (pu_gw d (pu_fell A (pu_weak A))).2 1 k <;> simp_all
theorem pu_m_givesWay {I : Nat → Nat → Int32} {A : pu_A} (hM : pu_M s R) (q : pu_Q (I 80) A) (wf : pu_wf A) :
    ∃ I', fb_m_givesWay 70 (s, I, J, R) = some (pu_mk (pu_fallen A (pu_gw 11 A)) 10, (s, I', J, R)) ∧ pu_Q (I' 80) (pu_gw 11 A) ∧ pu_Mf I I' := by
  have hc := pu_ct_le (A.2 1) 10
  obtain ⟨I', e1, e2, e3⟩ := pu_m_givesWay_l (J := J) hM 11 1048576 I A (fun _ => false) (by omega) (by omega) wf q
  refine ⟨I', ?_, e2, e3⟩
  unfold fb_m_givesWay
  simp only [pu_on (pu_m70 hM), pu_m_looseOnes hM q wf, Option.bind_some]
  rw [show pu_mk (fun _ => false) 10 = 0 by rw [pu_mk0 (by omega)]; intro _ _; rfl] at e1
  rw [e1]
  simp only [Option.bind_some, Bool.false_or]
end PUF
