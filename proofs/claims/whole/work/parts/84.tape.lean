/-! ===== The tape: feed and end, both sides ===== -/
/-- the tape as both keep it -/
def pu_TP (I : Nat → Nat → Int32) (tl : Nat) : Prop := I 2 0 = nI tl ∧ I 70 1 = nI tl ∧ tl ≤ 400 ∧ ∀ k, k < tl → ∃ b, b < 256 ∧ I 3 k = nI b ∧ I 71 k = (nI b).toInt8.toInt32
section PUw
variable {s : List (Nat × Nat)} {J : Nat → Nat → Int64} {R : Nat → Nat → Option Nat}
theorem pu_t_four {I : Nat → Nat → Int32} (hX : pu_X s R) (v : Int32) {L : Nat} (e : I 2 0 = nI L) (hL : L + 4 ≤ 400) : ∃ I', fb_t_addFour 2 v (s, I, J, R) = some (s, I', J, R) ∧ I' 2 0 = nI (L + 4) ∧ (∀ k, k < L → I' 3 k = I 3 k) ∧ (∀ j, j < 4 → I' 3 (L + j) = pu_y0 v (8 * (3 - j))) ∧ (∀ k, k ≠ 0 → I' 2 k = I 2 k) ∧ (∀ q, q ≠ 2 → q ≠ 3 → I' q = I q) := by
  obtain ⟨I', a1, a2, a3, a4, a5, a6⟩ := pu_t_four_l (J := J) hX v 4 1048576 I L (by omega) (by omega) e hL
  refine ⟨I', ?_, a2, a3, a4, a5, a6⟩
  have a1 : fl_t_addFour_2 1048576 2 v 24 (s, I, J, R) = some (s, I', J, R) := a1
  unfold fb_t_addFour
  rw [a1]
  rfl
theorem pu_m_four {I : Nat → Nat → Int32} (hM : pu_M s R) (v : Int32) {L : Nat} (e : I 70 1 = nI L) (hL : L + 4 ≤ 400) : ∃ I', fb_m_four 70 v (s, I, J, R) = some (s, I', J, R) ∧ I' 70 1 = nI (L + 4) ∧ (∀ k, k < L → I' 71 k = I 71 k) ∧ (∀ j, j < 4 → I' 71 (L + j) = (pu_y0 v (8 * (3 - j))).toInt8.toInt32) ∧ (∀ k, k ≠ 1 → I' 70 k = I 70 k) ∧ (∀ q, q ≠ 70 → q ≠ 71 → I' q = I q) := by
  obtain ⟨I', a1, a2, a3, a4, a5, a6⟩ := pu_m_four_l (J := J) hM v 4 1048576 I L (by omega) (by omega) e hL
  refine ⟨I', ?_, a2, a3, a4, a5, a6⟩
  have a1 : fl_m_four_2 1048576 70 v 24 (s, I, J, R) = some (s, I', J, R) := a1
  unfold fb_m_four
  rw [a1]
  rfl
/-- four bytes more, on both sides, are one step of the tape -/
def pu_T4 (v : Int32) (L : Nat) (f g : Nat → Int32) (F : Int32 → Int32) : Prop := (∀ k, k < L → g k = f k) ∧ (∀ j, j < 4 → g (L + j) = F (pu_y0 v (8 * (3 - j))))
theorem pu_x_feed_0 {I : Nat → Nat → Int32} (hX : pu_X s R) {L : Nat} (e : I 2 0 = nI L) (hL : L ≤ 400) (h : 400 < L + 20) (a b c d f : Int32) : fb_x_feed 1 a b c d f (s, I, J, R) = some (-1, (s, I, J, R)) := by
  have hc : (400 : Int32) < nI L + 20 := by rw [pu_R20, show (400 : Int32) = nI 400 from rfl, pu_ltI (by omega) (by omega)]; exact h
  unfold fb_x_feed
  simp only [pu_gN (pu_c1 hX), pu_f1_0 hX, Option.bind_some, pu_gI (pu_c2 hX), e, hc, ↓reduceIte]
theorem pu_m_feed_0 {I : Nat → Nat → Int32} (hM : pu_M s R) {L : Nat} (e : I 70 1 = nI L) (hL : L ≤ 400) (h : 400 < L + 20) (a b c d f : Int32) : fb_m_feed 70 a b c d f (s, I, J, R) = some (-1, (s, I, J, R)) := by
  have hc : (400 : Int32) < nI L + 20 := by rw [pu_R20, show (400 : Int32) = nI 400 from rfl, pu_ltI (by omega) (by omega)]; exact h
  unfold fb_m_feed
  simp only [pu_gI (pu_m70 hM), Option.bind_some, e, hc, ↓reduceIte]
theorem pu_x_feed {I : Nat → Nat → Int32} (hX : pu_X s R) {L : Nat} (e : I 2 0 = nI L) (h : L + 20 ≤ 400) (a b c d f : Int32) : ∃ I1 I2 I3 I4 I' : Nat → Nat → Int32, fb_x_feed 1 a b c d f (s, I, J, R) = some (nI (L + 20), (s, I', J, R)) ∧ I' 2 0 = nI (L + 20) ∧ pu_T4 a L (I 3) (I1 3) id ∧ pu_T4 b (L + 4) (I1 3) (I2 3) id ∧ pu_T4 c (L + 8) (I2 3) (I3 3) id ∧ pu_T4 d (L + 12) (I3 3) (I4 3) id ∧ pu_T4 f (L + 16) (I4 3) (I' 3) id ∧ (∀ k, k ≠ 0 → I' 2 k = I 2 k) ∧ (∀ q, q ≠ 2 → q ≠ 3 → I' q = I q) := by
  have hc : ¬ (400 : Int32) < nI L + 20 := by rw [pu_R20, show (400 : Int32) = nI 400 from rfl, pu_ltI (by omega) (by omega)]; omega
  obtain ⟨I1, a1, a2, a3, a4, a5, a6⟩ := pu_t_four (J := J) hX a e (by omega)
  obtain ⟨I2, b1, b2, b3, b4, b5, b6⟩ := pu_t_four (J := J) hX b a2 (by omega)
  obtain ⟨I3, c1, c2, c3, c4, c5, c6⟩ := pu_t_four (J := J) hX c b2 (by omega)
  obtain ⟨I4, d1, d2, d3, d4, d5, d6⟩ := pu_t_four (J := J) hX d c2 (by omega)
  obtain ⟨I5, f1, f2, f3, f4, f5, f6⟩ := pu_t_four (J := J) hX f d2 (by omega)
  refine ⟨I1, I2, I3, I4, I5, ?_, f2, ⟨a3, a4⟩, ⟨b3, b4⟩, ⟨c3, c4⟩, ⟨d3, d4⟩, ⟨f3, f4⟩, fun k hk => by rw [f5 k hk, d5 k hk, c5 k hk, b5 k hk, a5 k hk], fun z h1 h2 => by rw [f6 z h1 h2, d6 z h1 h2, c6 z h1 h2, b6 z h1 h2, a6 z h1 h2]⟩
  unfold fb_x_feed
  simp only [pu_gN (pu_c1 hX), pu_f1_0 hX, Option.bind_some, pu_gI (pu_c2 hX), e, hc, ↓reduceIte, pu_on (pu_c2 hX), a1, b1, c1, d1, f1, f2]
theorem pu_m_feed {I : Nat → Nat → Int32} (hM : pu_M s R) {L : Nat} (e : I 70 1 = nI L) (h : L + 20 ≤ 400) (a b c d f : Int32) : ∃ I1 I2 I3 I4 I' : Nat → Nat → Int32, fb_m_feed 70 a b c d f (s, I, J, R) = some (nI (L + 20), (s, I', J, R)) ∧ I' 70 1 = nI (L + 20) ∧ pu_T4 a L (I 71) (I1 71) (fun x => x.toInt8.toInt32) ∧ pu_T4 b (L + 4) (I1 71) (I2 71) (fun x => x.toInt8.toInt32) ∧ pu_T4 c (L + 8) (I2 71) (I3 71) (fun x => x.toInt8.toInt32) ∧ pu_T4 d (L + 12) (I3 71) (I4 71) (fun x => x.toInt8.toInt32) ∧ pu_T4 f (L + 16) (I4 71) (I' 71) (fun x => x.toInt8.toInt32) ∧ (∀ k, k ≠ 1 → I' 70 k = I 70 k) ∧ (∀ q, q ≠ 70 → q ≠ 71 → I' q = I q) := by
  have hc : ¬ (400 : Int32) < nI L + 20 := by rw [pu_R20, show (400 : Int32) = nI 400 from rfl, pu_ltI (by omega) (by omega)]; omega
  obtain ⟨I1, a1, a2, a3, a4, a5, a6⟩ := pu_m_four (J := J) hM a e (by omega)
  obtain ⟨I2, b1, b2, b3, b4, b5, b6⟩ := pu_m_four (J := J) hM b a2 (by omega)
  obtain ⟨I3, c1, c2, c3, c4, c5, c6⟩ := pu_m_four (J := J) hM c b2 (by omega)
  obtain ⟨I4, d1, d2, d3, d4, d5, d6⟩ := pu_m_four (J := J) hM d c2 (by omega)
  obtain ⟨I5, f1, f2, f3, f4, f5, f6⟩ := pu_m_four (J := J) hM f d2 (by omega)
  refine ⟨I1, I2, I3, I4, I5, ?_, f2, ⟨a3, a4⟩, ⟨b3, b4⟩, ⟨c3, c4⟩, ⟨d3, d4⟩, ⟨f3, f4⟩, fun k hk => by rw [f5 k hk, d5 k hk, c5 k hk, b5 k hk, a5 k hk], fun z h1 h2 => by rw [f6 z h1 h2, d6 z h1 h2, c6 z h1 h2, b6 z h1 h2, a6 z h1 h2]⟩
  unfold fb_m_feed
  simp only [pu_gI (pu_m70 hM), Option.bind_some, e, hc, ↓reduceIte, pu_on (pu_m70 hM), a1, b1, c1, d1, f1, f2]
/-- one step of four bytes keeps both tapes alike -/
theorem pu_T4_ok {v : Int32} {L : Nat} {f g f' g' : Nat → Int32} (a : pu_T4 v L f g id) (b : pu_T4 v L f' g' (fun x => x.toInt8.toInt32)) (h : ∀ k, k < L → ∃ y, y < 256 ∧ f k = nI y ∧ f' k = (nI y).toInt8.toInt32) : ∀ k, k < L + 4 → ∃ y, y < 256 ∧ g k = nI y ∧ g' k = (nI y).toInt8.toInt32 := by
  intro k hk
  by_cases hl : k < L
  · rw [a.1 k hl, b.1 k hl]
    exact h k hl
  · have e1 := a.2 (k - L) (by omega)
    have e2 := b.2 (k - L) (by omega)
    rw [show L + (k - L) = k by omega] at e1 e2
    obtain ⟨y, hy, e3⟩ := pu_y0_n v (8 * (3 - (k - L)))
    refine ⟨y, hy, ?_, ?_⟩
    · rw [e1]; exact e3
    · rw [e2, ← e3]
/-- end(n) by cells -/
theorem pu_x_end {I : Nat → Nat → Int32} (hX : pu_X s R) (a : Int32) : fb_x_end 1 a (s, I, J, R) = if a < 0 then some (-1, (s, I, J, R)) else if I 2 0 < a then some (-1, (s, I, J, R)) else some (a, (s, tb_up2 I 2 0 a, J, R)) := by
  unfold fb_x_end
  simp only [pu_gN (pu_c1 hX), pu_f1_0 hX, Option.bind_some, pu_gI (pu_c2 hX), pu_pI (pu_c2 hX)]
theorem pu_m_end {I : Nat → Nat → Int32} (hM : pu_M s R) (a : Int32) : fb_m_end 70 a (s, I, J, R) = if a < 0 then some (-1, (s, I, J, R)) else if I 70 1 < a then some (-1, (s, I, J, R)) else some (a, (s, tb_up2 I 70 1 a, J, R)) := by
  unfold fb_m_end
  simp only [Option.bind_some, pu_gI (pu_m70 hM), pu_pI (pu_m70 hM)]
end PUw
