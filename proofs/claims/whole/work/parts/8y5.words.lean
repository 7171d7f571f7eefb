/-! ===== The reference: whether a word stands here ===== -/
theorem pu_tt_s (b : Nat → Nat) {tl p : Nat} (hp : p < tl) (h : b p ≠ 32) : ∃ t, (pu_t1 b tl p).1 = some t ∧ pu_tt b tl p = t :: pu_tt b tl (pu_t1 b tl p).2 := by
  have e := pu_tk_s b hp
  have : ∃ t, (pu_t1 b tl p).1 = some t := by
    unfold pu_t1
    rw [if_neg h]
    split
    · exact ⟨_, rfl⟩
    · split
      · exact ⟨_, rfl⟩
      · split <;> exact ⟨_, rfl⟩
  obtain ⟨t, ht⟩ := this
  refine ⟨t, ht, ?_⟩
  rw [ht] at e
  unfold pu_tt
  rw [e]
  rfl
theorem pu_tt_e (b : Nat → Nat) {tl p : Nat} (hp : tl ≤ p) : pu_tt b tl p = [(0, tl, 0)] := by unfold pu_tt; rw [pu_tk_e b hp]; rfl
theorem pu_le_l {b : Nat → Nat} {tl p : Nat} : ∀ i, i < pu_le b tl p - p → pu_isl (b (p + i)) = true := by
  intro i hi
  have := pu_ff_no (fun k => !pu_isl (b k)) (tl - p) p (p + i) (by omega) (by unfold pu_le at hi; omega)
  cases h : pu_isl (b (p + i))
  · rw [h] at this; cases this
  · rfl
theorem pu_isl_r {c : Nat} (h : pu_isl c = true) : 0 < c ∧ c < 256 := by
  unfold pu_isl at h
  rw [Bool.and_eq_true, decide_eq_true_eq, decide_eq_true_eq] at h
  omega
theorem pu_isd_isl {c : Nat} (h : pu_isl c = true) : pu_isd c = false ∧ c ≠ 32 := by
  unfold pu_isl at h
  rw [Bool.and_eq_true, decide_eq_true_eq, decide_eq_true_eq] at h
  unfold pu_isd
  rw [decide_eq_false (show ¬ c ≤ 57 by omega), Bool.and_false]
  exact ⟨rfl, by omega⟩
/-- the head at a place past spaces, by its letters -/
theorem pu_hk_w {b : Nat → Nat} {tl p k : Nat} (hp : p ≤ tl) (h32 : p < tl → b p ≠ 32) (hk : k < 19) : (pu_hk (pu_tt b tl p) = 20 + k) ↔ (0 < pu_le b tl p - p ∧ pu_isw b p (pu_le b tl p) k = true) := by
  by_cases hlt : p < tl
  · have hb := h32 hlt
    obtain ⟨t, ht, e⟩ := pu_tt_s b hlt hb
    rw [e]
    show t.1 = 20 + k ↔ _
    cases hl : pu_isl (b p)
    · have hz : pu_le b tl p = p := by
        unfold pu_le
        obtain ⟨n, hn⟩ : ∃ n, tl - p = n + 1 := ⟨tl - p - 1, by omega⟩
        rw [hn]
        show (if (!pu_isl (b p)) = true then p else _) = p
        rw [hl, if_pos (by decide)]
      constructor
      · intro h
        exfalso
        unfold pu_t1 at ht
        rw [if_neg hb] at ht
        split at ht
        · cases ht
          have h : (if 5 < pu_de b tl p - p then 3 else 2) = 20 + k := h
          split at h <;> omega
        · rw [hl, if_neg (by decide)] at ht
          split at ht
          · cases ht
            have h : (if pu_sg (b p) = 12 then 13 else 15) = 20 + k := h
            split at h <;> omega
          · cases ht
            have h : pu_sg (b p) = 20 + k := h
            have := pu_sg_le (b p)
            omega
      · intro h
        omega
    · obtain ⟨d1, d2⟩ := pu_isd_isl hl
      have hg : p < pu_le b tl p := pu_ff_gt (by rw [hl]; rfl) (by omega)
      unfold pu_t1 at ht
      rw [if_neg d2, d1, if_neg (by decide), hl, if_pos rfl] at ht
      cases ht
      show pu_wk b p (pu_le b tl p) 19 = 20 + k ↔ _
      rw [pu_wk_iff (fun i hi => pu_isl_r (pu_le_l i hi)) hk]
      exact ⟨fun h => ⟨by omega, h⟩, fun h => h.2⟩
  · rw [pu_tt_e b (by omega)]
    have : pu_le b tl p = p := by unfold pu_le; rw [show tl - p = 0 by omega]; rfl
    constructor
    · intro h
      have h : 0 = 20 + k := h
      omega
    · intro h; omega
theorem pu_fv_l {b : Nat → Nat} {p : Nat} (n : Nat) (hd : ∀ i, i < n → pu_isl (b (p + i)) = true) : ∀ j, j < n → pu_fv b p (j + 1) < 123 * 256 ^ j := by
  intro j
  induction j with
  | zero =>
    intro hj
    have h0 := hd 0 hj
    unfold pu_isl at h0
    rw [Bool.and_eq_true, decide_eq_true_eq, decide_eq_true_eq] at h0
    show 256 * 0 + b (p + 0) < 123 * 1
    omega
  | succ j ih2 =>
    intro hj
    have := ih2 (by omega)
    have hl2 := (pu_isl_r (hd (j + 1) (by omega))).2
    show 256 * pu_fv b p (j + 1) + b (p + (j + 1)) < _
    rw [Nat.pow_succ]
    omega
section PUR5
variable {s : List (Nat × Nat)} {R : Nat → Nat → Option Nat} {b : Nat → Nat} {tl : Nat}
theorem pu_m_isWord_l {I : Nat → Nat → Int32} {J : Nat → Nat → Int64} (hM : pu_M s R) (h : pu_MB I b tl) {p : Nat} (e : I 70 8 = nI p) (W : Int64) : ∀ d k n, p + k + d = tl → d < n → (∀ i, i < k → pu_isl (b (p + i)) = true) → fl_m_isWord_7 n 70 W (lN (pu_fv b p (min k 8))) (nI k) (s, I, J, R) = some (W, lN (pu_fv b p (min (pu_ff (fun z => !pu_isl (b z)) d (p + k) - p) 8)), nI (pu_ff (fun z => !pu_isl (b z)) d (p + k) - p), (s, I, J, R)) := by
  have h400 := h.2.1
  intro d
  induction d with
  | zero =>
    intro k n hk hn hd
    obtain ⟨n, rfl⟩ : ∃ z, n = z + 1 := ⟨n - 1, by omega⟩
    rw [fl_m_isWord_7.eq_2]
    simp only [pu_gI (pu_m70 hM), e, Option.bind_some, nI_add, pu_on (pu_m70 hM), pu_m_isLetter hM h (show p + k ≤ 1000 by omega), show ¬ p + k < tl by omega, decide_false, Bool.false_and, pu_bf, ↓reduceIte]
    rw [show pu_ff (fun z => !pu_isl (b z)) 0 (p + k) = p + k from rfl, Nat.add_sub_cancel_left]
  | succ d ih =>
    intro k n hk hn hd
    obtain ⟨n, rfl⟩ : ∃ z, n = z + 1 := ⟨n - 1, by omega⟩
    have e8 : (nI k < (8 : Int32)) = (k < 8) := pu_ltI (b := 8) (by omega) (by omega)
    obtain ⟨hb, hb2⟩ := h.2.2 (p + k) (by omega)
    rw [fl_m_isWord_7.eq_2, show pu_ff (fun z => !pu_isl (b z)) (d + 1) (p + k) = if (!pu_isl (b (p + k))) = true then p + k else pu_ff (fun z => !pu_isl (b z)) d (p + k + 1) from rfl]
    simp only [pu_gI (pu_m70 hM), e, Option.bind_some, nI_add, pu_on (pu_m70 hM), pu_m_isLetter hM h (show p + k ≤ 1000 by omega), show p + k < tl by omega, decide_true, Bool.true_and, pu_b0, e8, pu_gN (pu_m70 hM), pu_r0 hM, pu_lB0 (pu_m71 hM) (show p + k < 400 by omega) (show 400 ≤ 100000 by omega), hb2]
    cases hc : pu_isl (b (p + k))
    · simp only [↓reduceIte, Bool.not_false, Nat.add_sub_cancel_left]
    · have hih := ih (k + 1) n (by omega) (by omega) (fun i hi => by
        by_cases e : i = k
        · rw [e]; exact hc
        · exact hd i (by omega))
      rw [show p + (k + 1) = p + k + 1 by omega] at hih
      simp only [Bool.true_eq_false, ↓reduceIte, Bool.not_true, Bool.false_eq_true]
      rw [← nI_succ]
      by_cases h8 : k < 8
      · rw [if_pos h8, pu_sby_isl _ hb hc, Nat.min_eq_left (by omega), pu_l64 _ hb]
        · rw [Nat.min_eq_left (by omega)] at hih
          exact hih
        · have h1 := pu_fv_lt (b := b) (p := p) k (fun i hi => (pu_isl_r (hd i hi)).2)
          have h2 : 256 ^ k ≤ 256 ^ 7 := Nat.pow_le_pow_right (by decide) (by omega)
          have h3 : (256 : Nat) ^ 7 = 2 ^ 56 := by decide
          by_cases h7 : k < 7
          · have h4 : 256 ^ k ≤ 256 ^ 6 := Nat.pow_le_pow_right (by decide) (by omega)
            have h5 : (256 : Nat) ^ 6 = 2 ^ 48 := by decide
            omega
          · -- seven letters, each below 128
            have hk7 : k = 7 := by omega
            subst hk7
            have := pu_fv_l (b := b) (p := p) 7 hd 6 (by omega)
            have this : pu_fv b p 7 < 123 * 256 ^ 6 := this
            have h5 : (256 : Nat) ^ 6 = 2 ^ 48 := by decide
            omega
      · rw [if_neg h8]
        rw [Nat.min_eq_right (by omega)] at hih ⊢
        exact hih
theorem pu_lcmp {x y : Nat} (hx : x < 2 ^ 63) (hy : y < 2 ^ 63) : (lg_cmp (lN x) (lN y) = 0) = (x = y) := by
  have e : (lN x = lN y) = (x = y) := by
    apply propext
    constructor
    · intro h
      have h2 : (lN x).toBitVec.toNat = (lN y).toBitVec.toNat := by rw [h]
      have h2 : (BitVec.ofNat 64 x).toNat = (BitVec.ofNat 64 y).toNat := h2
      rw [BitVec.toNat_ofNat, BitVec.toNat_ofNat, Nat.mod_eq_of_lt (by omega), Nat.mod_eq_of_lt (by omega)] at h2
      exact h2
    · intro h; rw [h]
  rw [← e]
  unfold lg_cmp
  by_cases h1 : lN x = lN y
  · rw [if_neg (by rw [h1]; exact fun hx => Int64.lt_irrefl hx), if_pos h1]
    exact propext ⟨fun _ => h1, fun _ => rfl⟩
  · rw [if_neg h1]
    refine propext ⟨fun h => ?_, fun h => absurd h h1⟩
    split at h
    · exact absurd h (by decide)
    · exact absurd h (by decide)
/-- whether the k-th word stands here -/
theorem pu_m_isWord {I : Nat → Nat → Int32} {J : Nat → Nat → Int64} (hM : pu_M s R) (h : pu_MB I b tl) {q : Nat} (hq : q ≤ tl) (e : I 70 8 = nI q) {k : Nat} (hk : k < 19) {W : Int64} (hW : W = lN (pu_wv (pu_wl.getD k []))) : ∃ I', fb_m_isWord 70 W (s, I, J, R) = some (pu_b (decide (pu_hk (pu_tt b tl q) = 20 + k)), (s, I', J, R)) ∧ I' 70 8 = nI (pu_sp b tl q) ∧ pu_Nf I I' := by
  have h400 := h.2.1
  obtain ⟨I', a1, a2, a3⟩ := pu_m_see (J := J) hM h hq e
  have hs := pu_sp_le b hq
  have h' := h.nf a3
  have l := pu_m_isWord_l (J := J) hM h' a2 W (tl - pu_sp b tl q) 0 1048576 (by omega) (by omega) (fun i hi => absurd hi (Nat.not_lt_zero _))
  rw [show lN (pu_fv b (pu_sp b tl q) (min 0 8)) = 0 from rfl, show nI 0 = 0 from rfl, Nat.add_zero, show pu_ff (fun z => !pu_isl (b z)) (tl - pu_sp b tl q) (pu_sp b tl q) = pu_le b tl (pu_sp b tl q) from rfl] at l
  have hw := pu_hk_w (k := k) hs.1 (fun hx => pu_sp_ne hq hx) hk
  rw [← pu_tt_sp b hq] at hw
  refine ⟨I', ?_, a2, a3⟩
  generalize pu_sp b tl q = p at *
  have hle : pu_le b tl p ≤ tl := by have := pu_ff_le (fun k => !pu_isl (b k)) (tl - p) p; unfold pu_le; omega
  have e0 : ((0 : Int32) < nI (pu_le b tl p - p)) = (0 < pu_le b tl p - p) := pu_ltI (a := 0) (by omega) (by omega)
  have e9 : (nI (pu_le b tl p - p) < (9 : Int32)) = (pu_le b tl p - p < 9) := pu_ltI (b := 9) (by omega) (by omega)
  unfold fb_m_isWord
  simp only [pu_on (pu_m70 hM), a1, Option.bind_some, l, e0, e9]
  by_cases c0 : 0 < pu_le b tl p - p
  · rw [if_pos c0]
    by_cases c9 : pu_le b tl p - p < 9
    · rw [if_pos c9, Nat.min_eq_left (by omega), hW]
      have hll := fun i hi => pu_isl_r (pu_le_l (b := b) (tl := tl) (p := p) i hi)
      have hfl := pu_fv_lt (b := b) (p := p) (pu_le b tl p - p) (fun i hi => (hll i hi).2)
      have hw8 : ∀ k, k < 19 → pu_wv (pu_wl.getD k []) < 2 ^ 63 := by decide
      have hlt : pu_fv b p (pu_le b tl p - p) < 2 ^ 63 := by
        have g := pu_fv_l (b := b) (p := p) (pu_le b tl p - p) pu_le_l (pu_le b tl p - p - 1) (by omega)
        rw [show pu_le b tl p - p - 1 + 1 = pu_le b tl p - p by omega] at g
        have h4 : 256 ^ (pu_le b tl p - p - 1) ≤ 256 ^ 7 := Nat.pow_le_pow_right (by decide) (by omega)
        have h5 : (256 : Nat) ^ 7 = 2 ^ 56 := by decide
        omega
      simp only [pu_lcmp hlt (hw8 k hk)]
      by_cases hf : pu_fv b p (pu_le b tl p - p) = pu_wv (pu_wl.getD k [])
      · rw [if_pos hf, decide_eq_true (hw.mpr ⟨c0, (pu_isw_fv hk hll).mpr hf⟩)]; rfl
      · rw [if_neg hf, decide_eq_false (fun hx => hf ((pu_isw_fv hk hll).mp (hw.mp hx).2))]; rfl
    · rw [if_neg c9, decide_eq_false]
      · rfl
      · intro hx
        have := (hw.mp hx).2
        unfold pu_isw at this
        rw [Bool.and_eq_true, decide_eq_true_eq] at this
        have h8 := (pu_tx_w k hk).2.1
        omega
  · rw [if_neg c0, decide_eq_false (fun hx => c0 (hw.mp hx).1)]; rfl
end PUR5
