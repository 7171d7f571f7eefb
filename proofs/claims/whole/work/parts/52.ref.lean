/-! ===== The reference: lines down, fading, giving way ===== -/
/-- the row's state (10 to 73) has been changed, and nothing else -/
def pu_Mf (I I' : Nat → Nat → Int32) : Prop := (∀ q, q ≠ 80 → I' q = I q) ∧ (∀ k, k < 10 ∨ 74 ≤ k → I' 80 k = I 80 k)
theorem pu_Mf.rf {I : Nat → Nat → Int32} : pu_Mf I I := ⟨fun _ _ => rfl, fun _ _ => rfl⟩
theorem pu_Mf.tr {I I' I2 : Nat → Nat → Int32} (a : pu_Mf I I') (b : pu_Mf I' I2) : pu_Mf I I2 := ⟨fun q hq => (b.1 q hq).trans (a.1 q hq), fun k hk => (b.2 k hk).trans (a.2 k hk)⟩
theorem pu_Mf.u2 {I : Nat → Nat → Int32} {k : Nat} {v : Int32} (h1 : 10 ≤ k) (h2 : k < 74) : pu_Mf I (tb_up2 I 80 k v) := ⟨fun _ hq => pu_u2p _ _ _ _ hq, fun _ hk => pu_u2k _ _ _ _ (by omega)⟩
theorem pu_t2_t2 (A : pu_A) (u t u' t' : Nat → Bool) : pu_t2 (pu_t2 A u t) u' t' = pu_t2 A u' t' := by
  unfold pu_t2
  congr 1
  funext i k
  by_cases h0 : i = 0
  · simp only [h0, ↓reduceIte]
  · by_cases h1 : i = 1
    · simp only [h1, ↓reduceIte]
    · simp only [h0, h1, ↓reduceIte]
theorem pu_t2_id (A : pu_A) : pu_t2 A (A.2 0) (A.2 1) = A := by
  unfold pu_t2
  have : ∀ i k, (if i = 0 then A.2 0 k else if i = 1 then A.2 1 k else A.2 i k) = A.2 i k := by
    intro i k
    by_cases h0 : i = 0
    · simp only [h0, ↓reduceIte]
    · by_cases h1 : i = 1
      · subst h1; rfl
      · simp only [h0, h1, ↓reduceIte]
  simp only [this]
theorem pu_Q_dn {I : Nat → Nat → Int32} {A : pu_A} (q : pu_Q (I 80) A) (wf : A.1 0 0 ≤ 5) {l : Nat} (hl : l < 8) : pu_Q ((tb_up2 (tb_up2 I 80 (42 + 4 * l + 2) 0) 80 (42 + 4 * l + 3) 0) 80) (pu_t2 A (fun k => A.2 0 k && !decide (k = l)) (A.2 1)) := by
  obtain ⟨⟨a0, a1, a2, a3, a4⟩, b, c, d⟩ := q
  refine ⟨⟨?_, ?_, ?_, ?_, ?_⟩, ?_, ?_, ?_⟩
  · simp (disch := omega) only [pu_u2k]; exact a0
  · simp (disch := omega) only [pu_u2k]; exact a1
  · simp (disch := omega) only [pu_u2k]; exact a2
  · simp (disch := omega) only [pu_u2k]; exact a3
  · simp (disch := omega) only [pu_u2k]; exact a4
  · intro h hh
    simp (disch := omega) only [pu_u2k]; exact b h hh
  · intro h hh
    have hh : h < 2 * A.1 0 0 := hh
    simp (disch := omega) only [pu_u2k]; exact c h hh
  · intro k hk
    show _ ∧ _ ∧ _ = (if (A.2 0 k && !decide (k = l)) = true then nI (A.1 5 k) else 0) ∧ _ = pu_b (A.2 0 k && !decide (k = l))
    by_cases e : k = l
    · subst e
      rw [decide_eq_true rfl, Bool.not_true, Bool.and_false]
      simp (disch := omega) only [pu_u2k, pu_u2s]
      exact ⟨(d k hk).1, (d k hk).2.1, by rw [if_neg (by decide)], rfl⟩
    · rw [decide_eq_false e, Bool.not_false, Bool.and_true]
      simp (disch := omega) only [pu_u2k]
      exact d k hk
section PUE
variable {s : List (Nat × Nat)} {J : Nat → Nat → Int64} {R : Nat → Nat → Option Nat}
theorem pu_m_downs {I : Nat → Nat → Int32} (hM : pu_M s R) {l : Nat} (hl : l < 8) : fb_m_downs 70 (nI l) (s, I, J, R) = some (s, tb_up2 (tb_up2 I 80 (42 + 4 * l + 2) 0) 80 (42 + 4 * l + 3) 0, J, R) := by
  unfold fb_m_downs
  simp only [pu_gN (pu_m70 hM), pu_r20 hM, Option.bind_some, pu_put' hM (pu_x2 l) (show 42 + 4 * l + 2 < 149 by omega), pu_put' hM (pu_x3 l) (show 42 + 4 * l + 3 < 149 by omega)]
theorem pu_m_downsAll_l {A : pu_A} (hM : pu_M s R) (wf : pu_wf A) (g : Nat → Bool) : ∀ d i n I, i + d = A.1 0 3 → d < n → pu_Q (I 80) (pu_t2 A (fun l => A.2 0 l && !(decide (l < i) && g l)) (A.2 1)) →
    ∃ I', fl_m_downsAll_2 n 70 (pu_mk g 8) (nI i) (s, I, J, R) = some (s, I', J, R) ∧ pu_Q (I' 80) (pu_t2 A (fun l => A.2 0 l && !(decide (l < A.1 0 3) && g l)) (A.2 1)) ∧ pu_Mf I I' := by
  intro d
  have h5 := wf.2.2.1
  induction d with
  | zero =>
    intro i n I hi hn q
    obtain ⟨n, rfl⟩ : ∃ z, n = z + 1 := ⟨n - 1, by omega⟩
    have q11 : I 80 11 = nI (A.1 0 3) := q.1.2.2.2.2
    unfold fl_m_downsAll_2
    simp only [pu_gN (pu_m70 hM), pu_r20 hM, Option.bind_some, pu_cell' hM (show (11 : Int32) = nI 11 from rfl) (show 11 < 149 by omega), q11, pu_ltI (show i < 2147483648 by omega) (show A.1 0 3 < 2147483648 by omega), show ¬ i < A.1 0 3 by omega, ↓reduceIte]
    rw [show i = A.1 0 3 by omega] at q
    exact ⟨I, rfl, q, pu_Mf.rf⟩
  | succ d ih =>
    intro i n I hi hn q
    obtain ⟨n, rfl⟩ : ∃ z, n = z + 1 := ⟨n - 1, by omega⟩
    have hil : i < A.1 0 3 := by omega
    have q11 : I 80 11 = nI (A.1 0 3) := q.1.2.2.2.2
    unfold fl_m_downsAll_2
    simp only [pu_gN (pu_m70 hM), pu_r20 hM, Option.bind_some, pu_cell' hM (show (11 : Int32) = nI 11 from rfl) (show 11 < 149 by omega), q11, pu_ltI (show i < 2147483648 by omega) (show A.1 0 3 < 2147483648 by omega), hil, ↓reduceIte, fb_m_isOf, pu_sh (pu_mk g 8) (show i < 32 by omega), pu_mk_bt g 8 (by omega) i (by omega), show i < 8 by omega, decide_true, Bool.true_and, pu_b1]
    rw [← nI_succ]
    cases hg : g i
    · simp only [Bool.false_eq_true, ↓reduceIte, Option.bind_some]
      refine ih (i + 1) n I (by omega) (by omega) ?_
      have : (fun l => A.2 0 l && !(decide (l < i + 1) && g l)) = (fun l => A.2 0 l && !(decide (l < i) && g l)) := by
        funext l
        by_cases e : l = i
        · subst e; simp [hg]
        · have : (l < i + 1) = (l < i) := propext (by omega)
          simp only [this]
      rw [this]
      exact q
    · simp only [↓reduceIte, Option.bind_some, show ¬ ((1 : Int32) = 0) by decide, pu_on (pu_m70 hM), pu_m_downs hM (show i < 8 by omega)]
      have q2 := pu_Q_dn q wf.1 (show i < 8 by omega)
      rw [pu_t2_t2] at q2
      have e3 : (fun k => (pu_t2 A (fun l => A.2 0 l && !(decide (l < i) && g l)) (A.2 1)).2 0 k && !decide (k = i)) = (fun l => A.2 0 l && !(decide (l < i + 1) && g l)) := by
        funext l
        show ((A.2 0 l && !(decide (l < i) && g l)) && !decide (l = i)) = _
        by_cases e : l = i
        · subst e; simp [hg]
        · have : (l < i + 1) = (l < i) := propext (by omega)
          simp only [this, e, decide_false, Bool.not_false, Bool.and_true]
      rw [e3] at q2
      obtain ⟨I', e1, e2, e4⟩ := ih (i + 1) n _ (by omega) (by omega) q2
      exact ⟨I', e1, e2, ((pu_Mf.u2 (by omega) (by omega)).tr (pu_Mf.u2 (by omega) (by omega))).tr e4⟩
theorem pu_m_downsAll {I : Nat → Nat → Int32} {A : pu_A} (hM : pu_M s R) (q : pu_Q (I 80) A) (wf : pu_wf A) (g : Nat → Bool) :
    ∃ I', fb_m_downsAll 70 (pu_mk g 8) (s, I, J, R) = some (s, I', J, R) ∧ pu_Q (I' 80) (pu_t2 A (fun l => A.2 0 l && !g l) (A.2 1)) ∧ pu_Mf I I' := by
  have h5 := wf.2.2.1
  have e0 : pu_t2 A (fun l => A.2 0 l && !(decide (l < 0) && g l)) (A.2 1) = A := by
    have : (fun l => A.2 0 l && !(decide (l < 0) && g l)) = A.2 0 := by
      funext l; simp
    rw [this, pu_t2_id]
  obtain ⟨I', e1, e2, e3⟩ := pu_m_downsAll_l (J := J) hM wf g (A.1 0 3) 0 1048576 I (by omega) (by omega) (by rw [e0]; exact q)
  rw [show nI 0 = 0 from rfl] at e1
  have e4 : (fun l => A.2 0 l && !(decide (l < A.1 0 3) && g l)) = (fun l => A.2 0 l && !g l) := by
    funext l
    by_cases hl : l < A.1 0 3
    · rw [decide_eq_true hl, Bool.true_and]
    · rw [pu_noup wf hl]; rfl
  rw [e4] at e2
  refine ⟨I', ?_, e2, e3⟩
  unfold fb_m_downsAll
  rw [e1]
  rfl
theorem pu_m_fade_l {A : pu_A} (hM : pu_M s R) (wf : pu_wf A) : ∀ d i n I, i + d = A.1 0 3 → d < n → pu_Q (I 80) (pu_fd A i) →
    ∃ I', fl_m_fade_2 n 70 (nI i) (s, I, J, R) = some (s, I', J, R) ∧ pu_Q (I' 80) (pu_fade A) ∧ pu_Mf I I' := by
  intro d
  have h5 := wf.2.2.1
  have hf := wf.2.1
  induction d with
  | zero =>
    intro i n I hi hn q
    obtain ⟨n, rfl⟩ : ∃ z, n = z + 1 := ⟨n - 1, by omega⟩
    have q11 : I 80 11 = nI (A.1 0 3) := q.1.2.2.2.2
    unfold fl_m_fade_2
    simp only [pu_gN (pu_m70 hM), pu_r20 hM, Option.bind_some, pu_cell' hM (show (11 : Int32) = nI 11 from rfl) (show 11 < 149 by omega), q11, pu_ltI (show i < 2147483648 by omega) (show A.1 0 3 < 2147483648 by omega), show ¬ i < A.1 0 3 by omega, ↓reduceIte]
    rw [show i = A.1 0 3 by omega] at q
    exact ⟨I, rfl, q, pu_Mf.rf⟩
  | succ d ih =>
    intro i n I hi hn q
    obtain ⟨n, rfl⟩ : ∃ z, n = z + 1 := ⟨n - 1, by omega⟩
    have hil : i < A.1 0 3 := by omega
    have q11 : I 80 11 = nI (A.1 0 3) := q.1.2.2.2.2
    have q2 : I 80 2 = nI (A.1 0 1) := q.1.2.2.1
    have hp := wf.2.2.2.2.1 i
    have wi := pu_fd_wf wf i
    have eu : (pu_fd A i).2 0 i = A.2 0 i := by
      show (A.2 0 i && !(decide (i < i) && decide (A.1 5 i ≤ A.1 0 1))) = A.2 0 i
      rw [decide_eq_false (Nat.lt_irrefl i)]; simp
    unfold fl_m_fade_2
    simp only [pu_gN (pu_m70 hM), pu_r20 hM, Option.bind_some, pu_cell' hM (show (11 : Int32) = nI 11 from rfl) (show 11 < 149 by omega), q11, pu_ltI (show i < 2147483648 by omega) (show A.1 0 3 < 2147483648 by omega), hil, ↓reduceIte, pu_on (pu_m70 hM), pu_m_isUp hM q wi (show i < 2147483648 by omega), eu, pu_b0]
    rw [← nI_succ]
    cases hu : A.2 0 i
    · simp only [↓reduceIte]
      have e : pu_fd A (i + 1) = pu_fd A i := by
        unfold pu_fd
        congr 1
        · funext r k
          by_cases hr : r = 5
          · by_cases hk : k = i
            · subst hk; simp [hu]
            · have : (k < i + 1) = (k < i) := propext (by omega)
              simp only [this]
          · simp only [hr, ↓reduceIte]
        · funext r k
          by_cases hk : k = i
          · subst hk; simp [hu]
          · have : (k < i + 1) = (k < i) := propext (by omega)
            simp only [this]
      exact ih (i + 1) n I (by omega) (by omega) (by rw [e]; exact q)
    · have vp : I 80 (42 + 4 * i + 2) = nI (A.1 5 i) := by
        have := (q.2.2.2 i hil).2.2.1
        rw [this, eu, hu, if_pos rfl]
        show nI (if i < i ∧ A.2 0 i = true then A.1 5 i - A.1 0 1 else A.1 5 i) = _
        rw [if_neg (fun z => Nat.lt_irrefl i z.1)]
      simp only [Bool.true_eq_false, ↓reduceIte, pu_gN (pu_m70 hM), pu_r20 hM, Option.bind_some, pu_cell' hM (pu_x2 i) (show 42 + 4 * i + 2 < 149 by omega), vp, pu_cell' hM (show (2 : Int32) = nI 2 from rfl) (show 2 < 149 by omega), q2, pu_put' hM (pu_x2 i) (show 42 + 4 * i + 2 < 149 by omega), pu_on (pu_m70 hM), fb_m_pullOf, pu_u2s, pu_sub0 (show A.1 5 i < 1073741824 by omega) (show A.1 0 1 < 1073741824 by omega)]
      obtain ⟨⟨a0, a1, a2, a3, a4⟩, b, c, dd⟩ := q
      by_cases hd : A.1 5 i ≤ A.1 0 1
      · simp only [hd, ↓reduceIte, pu_on (pu_m70 hM), pu_m_downs hM (show i < 8 by omega), Option.bind_some]
        obtain ⟨I', e1, e2, e4⟩ := ih (i + 1) n (tb_up2 (tb_up2 (tb_up2 I 80 (42 + 4 * i + 2) (nI (A.1 5 i) - nI (A.1 0 1))) 80 (42 + 4 * i + 2) 0) 80 (42 + 4 * i + 3) 0) (by omega) (by omega) (by
          refine ⟨⟨?_, ?_, ?_, ?_, ?_⟩, ?_, ?_, ?_⟩
          · simp (disch := omega) only [pu_u2k]; exact a0
          · simp (disch := omega) only [pu_u2k]; exact a1
          · simp (disch := omega) only [pu_u2k]; exact a2
          · simp (disch := omega) only [pu_u2k]; exact a3
          · simp (disch := omega) only [pu_u2k]; exact a4
          · intro h hh
            simp (disch := omega) only [pu_u2k]; exact b h hh
          · intro h hh
            have hh : h < 2 * A.1 0 0 := hh
            have h9 := wf.1
            simp (disch := omega) only [pu_u2k]; exact c h hh
          · intro k hk
            have hk : k < A.1 0 3 := hk
            have d2 := dd k hk
            show _ ∧ _ ∧ _ = (if (A.2 0 k && !(decide (k < i + 1) && decide (A.1 5 k ≤ A.1 0 1))) = true then nI (if k < i + 1 ∧ A.2 0 k = true then A.1 5 k - A.1 0 1 else A.1 5 k) else 0) ∧ _ = pu_b (A.2 0 k && !(decide (k < i + 1) && decide (A.1 5 k ≤ A.1 0 1)))
            by_cases e : k = i
            · subst e
              simp (disch := omega) only [pu_u2k, pu_u2s]
              refine ⟨d2.1, d2.2.1, ?_, ?_⟩
              · rw [if_neg]
                simp [hd]
              · simp [hd, pu_b]
            · have e5 : (k < i + 1) = (k < i) := propext (by omega)
              simp (disch := omega) only [pu_u2k, e5]
              exact d2)
        exact ⟨I', e1, e2, (((pu_Mf.u2 (by omega) (by omega)).tr (pu_Mf.u2 (by omega) (by omega))).tr (pu_Mf.u2 (by omega) (by omega))).tr e4⟩
      · simp only [hd, ↓reduceIte]
        obtain ⟨I', e1, e2, e4⟩ := ih (i + 1) n (tb_up2 I 80 (42 + 4 * i + 2) (nI (A.1 5 i) - nI (A.1 0 1))) (by omega) (by omega) (by
          refine ⟨⟨?_, ?_, ?_, ?_, ?_⟩, ?_, ?_, ?_⟩
          · simp (disch := omega) only [pu_u2k]; exact a0
          · simp (disch := omega) only [pu_u2k]; exact a1
          · simp (disch := omega) only [pu_u2k]; exact a2
          · simp (disch := omega) only [pu_u2k]; exact a3
          · simp (disch := omega) only [pu_u2k]; exact a4
          · intro h hh
            simp (disch := omega) only [pu_u2k]; exact b h hh
          · intro h hh
            have hh : h < 2 * A.1 0 0 := hh
            have h9 := wf.1
            simp (disch := omega) only [pu_u2k]; exact c h hh
          · intro k hk
            have hk : k < A.1 0 3 := hk
            have d2 := dd k hk
            show _ ∧ _ ∧ _ = (if (A.2 0 k && !(decide (k < i + 1) && decide (A.1 5 k ≤ A.1 0 1))) = true then nI (if k < i + 1 ∧ A.2 0 k = true then A.1 5 k - A.1 0 1 else A.1 5 k) else 0) ∧ _ = pu_b (A.2 0 k && !(decide (k < i + 1) && decide (A.1 5 k ≤ A.1 0 1)))
            by_cases e : k = i
            · subst e
              have d4 := d2.2.2.2
              rw [eu, hu] at d4
              simp (disch := omega) only [pu_u2k, pu_u2s]
              refine ⟨d2.1, d2.2.1, ?_, ?_⟩
              · rw [if_pos (by simp [hd, hu]), if_pos ⟨by omega, hu⟩, pu_sub (by omega)]
              · rw [d4]
                simp [hd, hu]
            · have e5 : (k < i + 1) = (k < i) := propext (by omega)
              simp (disch := omega) only [pu_u2k, e5]
              exact d2)
        exact ⟨I', e1, e2, (pu_Mf.u2 (by omega) (by omega)).tr e4⟩
theorem pu_fd_0 (A : pu_A) : pu_fd A 0 = A := by
  unfold pu_fd
  have : ∀ r k, (if r = 5 then (if k < 0 ∧ A.2 0 k = true then A.1 5 k - A.1 0 1 else A.1 5 k) else A.1 r k) = A.1 r k := by
    intro r k
    by_cases hr : r = 5
    · subst hr; simp
    · simp [hr]
  have h2 : ∀ r k, (if r = 0 then A.2 0 k && !(decide (k < 0) && decide (A.1 5 k ≤ A.1 0 1)) else A.2 r k) = A.2 r k := by
    intro r k
    by_cases hr : r = 0
    · subst hr; simp
    · simp [hr]
  simp only [this, h2]
theorem pu_m_fade {I : Nat → Nat → Int32} {A : pu_A} (hM : pu_M s R) (q : pu_Q (I 80) A) (wf : pu_wf A) :
    ∃ I', fb_m_fade 70 (s, I, J, R) = some (s, I', J, R) ∧ pu_Q (I' 80) (pu_fade A) ∧ pu_Mf I I' := by
  have h5 := wf.2.2.1
  obtain ⟨I', e1, e2, e3⟩ := pu_m_fade_l (J := J) hM wf (A.1 0 3) 0 1048576 I (by omega) (by omega) (by rw [pu_fd_0]; exact q)
  refine ⟨I', ?_, e2, e3⟩
  rw [show nI 0 = 0 from rfl] at e1
  unfold fb_m_fade
  rw [e1]
  rfl
end PUE
