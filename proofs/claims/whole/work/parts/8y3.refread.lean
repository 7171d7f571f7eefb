/-! ===== The reference reads: signs, digits, letters, words ===== -/
def pu_sby (c : Nat) : Int32 := (nI c).toInt8.toInt32
theorem pu_sby_32 : ∀ c, c < 256 → ((pu_sby c = 32) ↔ c = 32) := by decide +kernel
theorem pu_sby_d : ∀ c, c < 256 → ((if pu_sby c < 48 then (0 : Int32) else if pu_sby c ≤ 57 then 1 else 0) = pu_b (pu_isd c)) := by decide +kernel
theorem pu_sby_l : ∀ c, c < 256 → ((if pu_sby c < 97 then (0 : Int32) else if pu_sby c ≤ 122 then 1 else 0) = pu_b (pu_isl c)) := by decide +kernel
theorem pu_sby_255 : ∀ c, c < 256 → pu_sby c &&& 255 = nI c := by decide +kernel
theorem pu_sby_isd : ∀ c, c < 256 → pu_isd c = true → pu_sby c = nI c := by decide +kernel
theorem pu_sby_isl : ∀ c, c < 256 → pu_isl c = true → pu_sby c = nI c := by decide +kernel
/-- the reference's tape -/
def pu_MB (I : Nat → Nat → Int32) (b : Nat → Nat) (tl : Nat) : Prop := I 70 1 = nI tl ∧ tl ≤ 400 ∧ ∀ k, k < tl → b k < 256 ∧ I 71 k = pu_sby (b k)
/-- past spaces -/
def pu_sp (b : Nat → Nat) (tl q : Nat) : Nat := pu_ff (fun k => !decide (b k = 32)) (tl - q) q
/-- only the place of reading changes -/
def pu_Nf (I I' : Nat → Nat → Int32) : Prop := (∀ q, q ≠ 70 → I' q = I q) ∧ (∀ k, k ≠ 8 → I' 70 k = I 70 k)
theorem pu_Nf.rf {I : Nat → Nat → Int32} : pu_Nf I I := ⟨fun _ _ => rfl, fun _ _ => rfl⟩
theorem pu_Nf.tr {I I' I2 : Nat → Nat → Int32} (a : pu_Nf I I') (b : pu_Nf I' I2) : pu_Nf I I2 := ⟨fun q h => (b.1 q h).trans (a.1 q h), fun k h => (b.2 k h).trans (a.2 k h)⟩
theorem pu_Nf.u {I : Nat → Nat → Int32} {v : Int32} : pu_Nf I (tb_up2 I 70 8 v) := ⟨fun _ h => pu_u2p _ _ _ _ h, fun _ h => pu_u2k _ _ _ _ h⟩
theorem pu_MB.nf {I I' : Nat → Nat → Int32} {b : Nat → Nat} {tl : Nat} (h : pu_MB I b tl) (a : pu_Nf I I') : pu_MB I' b tl := ⟨by rw [a.2 1 (by decide)]; exact h.1, h.2.1, fun k hk => by rw [a.1 71 (by decide)]; exact h.2.2 k hk⟩
theorem pu_sp_le (b : Nat → Nat) {tl q : Nat} (hq : q ≤ tl) : pu_sp b tl q ≤ tl ∧ q ≤ pu_sp b tl q := by
  have h1 := pu_ff_le (fun k => !decide (b k = 32)) (tl - q) q
  have h2 := pu_ff_ge (fun k => !decide (b k = 32)) (tl - q) q
  unfold pu_sp
  omega
theorem pu_sp_ne {b : Nat → Nat} {tl q : Nat} (hq : q ≤ tl) (h : pu_sp b tl q < tl) : b (pu_sp b tl q) ≠ 32 := by
  have := pu_ff_yes (fun k => !decide (b k = 32)) (tl - q) q (by unfold pu_sp at h; omega)
  intro e
  unfold pu_sp at e
  rw [e] at this
  cases this
theorem pu_tk_sp (b : Nat → Nat) {tl : Nat} : ∀ d q, q + d = tl → pu_tk b tl q = pu_tk b tl (pu_ff (fun k => !decide (b k = 32)) d q) := by
  intro d
  induction d with
  | zero => intro q hq; rfl
  | succ d ih =>
    intro q hq
    show _ = pu_tk b tl (if (!decide (b q = 32)) = true then q else pu_ff (fun k => !decide (b k = 32)) d (q + 1))
    by_cases h : b q = 32
    · rw [decide_eq_true h, if_neg (by decide), ← ih (q + 1) (by omega), pu_tk_s b (show q < tl by omega)]
      unfold pu_t1
      rw [if_pos h]
    · rw [decide_eq_false h, if_pos (by decide)]
theorem pu_tt_sp (b : Nat → Nat) {tl q : Nat} (hq : q ≤ tl) : pu_tt b tl q = pu_tt b tl (pu_sp b tl q) := by
  unfold pu_tt pu_sp
  rw [pu_tk_sp b (tl - q) q (by omega)]
section PUR3
variable {s : List (Nat × Nat)} {R : Nat → Nat → Option Nat} {b : Nat → Nat} {tl : Nat}
theorem pu_lB0 {I : Nat → Nat → Int32} {J : Nat → Nat → Int64} {p n j : Nat} (h : s[p]? = some (0, n)) (hj : j < n) (hn : n ≤ 100000) : tb_lI [0, 3] p (nI j) (s, I, J, R) = some (I p j) := by
  unfold tb_lI
  simp only [h, pu_in hj hn, nI_clamp (show j < 2 ^ 31 by omega)]
  rfl
theorem pu_m_see_l (hM : pu_M s R) : ∀ d q n (I : Nat → Nat → Int32) (J : Nat → Nat → Int64), q + d = tl → d < n → pu_MB I b tl → I 70 8 = nI q → ∃ I', fl_m_see_0 n 70 (s, I, J, R) = some (70, (s, I', J, R)) ∧ I' 70 8 = nI (pu_ff (fun k => !decide (b k = 32)) d q) ∧ pu_Nf I I' := by
  intro d
  induction d with
  | zero =>
    intro q n I J hq hn h e
    obtain ⟨n, rfl⟩ : ∃ z, n = z + 1 := ⟨n - 1, by omega⟩
    have h4 := h.2.1
    rw [fl_m_see_0.eq_2]
    simp only [pu_gI (pu_m70 hM), e, h.1, Option.bind_some, pu_ltI (show q < 2147483648 by omega) (show tl < 2147483648 by omega), show ¬ q < tl by omega, ↓reduceIte]
    exact ⟨I, rfl, e, pu_Nf.rf⟩
  | succ d ih =>
    intro q n I J hq hn h e
    obtain ⟨n, rfl⟩ : ∃ z, n = z + 1 := ⟨n - 1, by omega⟩
    have h4 := h.2.1
    obtain ⟨hb, hb2⟩ := h.2.2 q (by omega)
    rw [fl_m_see_0.eq_2, show pu_ff (fun k => !decide (b k = 32)) (d + 1) q = if (!decide (b q = 32)) = true then q else pu_ff (fun k => !decide (b k = 32)) d (q + 1) from rfl]
    simp only [pu_gI (pu_m70 hM), e, h.1, Option.bind_some, pu_ltI (show q < 2147483648 by omega) (show tl < 2147483648 by omega), show q < tl by omega, ↓reduceIte, pu_gN (pu_m70 hM), pu_r0 hM, pu_lB0 (pu_m71 hM) (show q < 400 by omega) (show 400 ≤ 100000 by omega), hb2, pu_sby_32 (b q) hb, pu_R1, pu_pI (pu_m70 hM)]
    by_cases hc : b q = 32
    · obtain ⟨I', a1, a2, a3⟩ := ih (q + 1) n (tb_up2 I 70 8 (nI (q + 1))) J (by omega) (by omega) (h.nf pu_Nf.u) (pu_u2s _ _ _ _)
      rw [if_pos hc, decide_eq_true hc, if_neg (by decide)]
      exact ⟨I', a1, a2, pu_Nf.u.tr a3⟩
    · rw [if_neg hc, decide_eq_false hc, if_pos (by decide)]
      exact ⟨I, rfl, e, pu_Nf.rf⟩
theorem pu_m_see {I : Nat → Nat → Int32} {J : Nat → Nat → Int64} (hM : pu_M s R) (h : pu_MB I b tl) {q : Nat} (hq : q ≤ tl) (e : I 70 8 = nI q) : ∃ I', fb_m_see 70 (s, I, J, R) = some (if pu_sp b tl q < tl then nI (b (pu_sp b tl q)) else -1, (s, I', J, R)) ∧ I' 70 8 = nI (pu_sp b tl q) ∧ pu_Nf I I' := by
  have h4 := h.2.1
  obtain ⟨I', a1, a2, a3⟩ := pu_m_see_l (b := b) hM (tl - q) q 1048576 I J (by omega) (by omega) h e
  rw [show pu_ff (fun k => !decide (b k = 32)) (tl - q) q = pu_sp b tl q from rfl] at a2
  have hs := pu_sp_le b hq
  refine ⟨I', ?_, a2, a3⟩
  have h' := h.nf a3
  unfold fb_m_see
  simp only [a1, Option.bind_some, pu_gI (pu_m70 hM), a2, h'.1, pu_ltI (show pu_sp b tl q < 2147483648 by omega) (show tl < 2147483648 by omega)]
  by_cases hl : pu_sp b tl q < tl
  · obtain ⟨hb, hb2⟩ := h'.2.2 _ hl
    simp only [hl, ↓reduceIte, pu_gN (pu_m70 hM), pu_r0 hM, Option.bind_some, pu_lB0 (pu_m71 hM) (show pu_sp b tl q < 400 by omega) (show 400 ≤ 100000 by omega), hb2, pu_sby_255 _ hb]
  · simp only [hl, ↓reduceIte]
theorem pu_m_isDigit {I : Nat → Nat → Int32} {J : Nat → Nat → Int64} (hM : pu_M s R) (h : pu_MB I b tl) {p : Nat} (hp : p ≤ 1000) : fb_m_isDigit 70 (nI p) (s, I, J, R) = some (pu_b (decide (p < tl) && pu_isd (b p)), (s, I, J, R)) := by
  have h4 := h.2.1
  unfold fb_m_isDigit
  simp only [pu_gI (pu_m70 hM), h.1, Option.bind_some, pu_ltI (show p < 2147483648 by omega) (show tl < 2147483648 by omega)]
  by_cases hl : p < tl
  · obtain ⟨hb, hb2⟩ := h.2.2 p hl
    simp only [hl, ↓reduceIte, pu_gN (pu_m70 hM), pu_r0 hM, Option.bind_some, pu_lB0 (pu_m71 hM) (show p < 400 by omega) (show 400 ≤ 100000 by omega), hb2, decide_true, Bool.true_and, pu_its]
    rw [pu_sby_d _ hb]
  · simp only [hl, ↓reduceIte, decide_false, Bool.false_and, pu_bf]
theorem pu_m_isLetter {I : Nat → Nat → Int32} {J : Nat → Nat → Int64} (hM : pu_M s R) (h : pu_MB I b tl) {p : Nat} (hp : p ≤ 1000) : fb_m_isLetter 70 (nI p) (s, I, J, R) = some (pu_b (decide (p < tl) && pu_isl (b p)), (s, I, J, R)) := by
  have h4 := h.2.1
  unfold fb_m_isLetter
  simp only [pu_gI (pu_m70 hM), h.1, Option.bind_some, pu_ltI (show p < 2147483648 by omega) (show tl < 2147483648 by omega)]
  by_cases hl : p < tl
  · obtain ⟨hb, hb2⟩ := h.2.2 p hl
    simp only [hl, ↓reduceIte, pu_gN (pu_m70 hM), pu_r0 hM, Option.bind_some, pu_lB0 (pu_m71 hM) (show p < 400 by omega) (show 400 ≤ 100000 by omega), hb2, decide_true, Bool.true_and, pu_its]
    rw [pu_sby_l _ hb]
  · simp only [hl, ↓reduceIte, decide_false, Bool.false_and, pu_bf]
theorem pu_m_passWord_l (hM : pu_M s R) : ∀ d q n (I : Nat → Nat → Int32) (J : Nat → Nat → Int64), q + d = tl → d < n → pu_MB I b tl → I 70 8 = nI q → ∃ I', fl_m_passWord_0 n 70 (s, I, J, R) = some (s, I', J, R) ∧ I' 70 8 = nI (pu_ff (fun k => !pu_isl (b k)) d q) ∧ pu_Nf I I' := by
  intro d
  induction d with
  | zero =>
    intro q n I J hq hn h e
    obtain ⟨n, rfl⟩ : ∃ z, n = z + 1 := ⟨n - 1, by omega⟩
    have h4 := h.2.1
    rw [fl_m_passWord_0.eq_2]
    simp only [pu_gI (pu_m70 hM), e, Option.bind_some, pu_on (pu_m70 hM), pu_m_isLetter hM h (show q ≤ 1000 by omega), show ¬ q < tl by omega, decide_false, Bool.false_and, pu_bf, ↓reduceIte]
    exact ⟨I, rfl, e, pu_Nf.rf⟩
  | succ d ih =>
    intro q n I J hq hn h e
    obtain ⟨n, rfl⟩ : ∃ z, n = z + 1 := ⟨n - 1, by omega⟩
    have h4 := h.2.1
    rw [fl_m_passWord_0.eq_2, show pu_ff (fun k => !pu_isl (b k)) (d + 1) q = if (!pu_isl (b q)) = true then q else pu_ff (fun k => !pu_isl (b k)) d (q + 1) from rfl]
    simp only [pu_gI (pu_m70 hM), e, Option.bind_some, pu_on (pu_m70 hM), pu_m_isLetter hM h (show q ≤ 1000 by omega), show q < tl by omega, decide_true, Bool.true_and, pu_b0, pu_R1, pu_pI (pu_m70 hM)]
    cases hc : pu_isl (b q)
    · rw [if_pos rfl, if_pos (by decide)]
      exact ⟨I, rfl, e, pu_Nf.rf⟩
    · obtain ⟨I', a1, a2, a3⟩ := ih (q + 1) n (tb_up2 I 70 8 (nI (q + 1))) J (by omega) (by omega) (h.nf pu_Nf.u) (pu_u2s _ _ _ _)
      rw [if_neg (by decide), if_neg (by decide)]
      exact ⟨I', a1, a2, pu_Nf.u.tr a3⟩
theorem pu_m_passWord {I : Nat → Nat → Int32} {J : Nat → Nat → Int64} (hM : pu_M s R) (h : pu_MB I b tl) {q : Nat} (hq : q ≤ tl) (e : I 70 8 = nI q) : ∃ I', fb_m_passWord 70 (s, I, J, R) = some (s, I', J, R) ∧ I' 70 8 = nI (pu_le b tl q) ∧ pu_Nf I I' := by
  have h4 := h.2.1
  obtain ⟨I', a1, a2, a3⟩ := pu_m_passWord_l (b := b) hM (tl - q) q 1048576 I J (by omega) (by omega) h e
  refine ⟨I', ?_, a2, a3⟩
  unfold fb_m_passWord
  simp only [a1, Option.bind_some]
end PUR3
