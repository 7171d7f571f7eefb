/-! ===== The tape: feed and end ===== -/
/-- the j-th byte of four, as the class and as the reference keep it -/
def pu_y0 (v : Int32) (t : Nat) : Int32 := (Int32.toUInt32 v >>> (Int32.toUInt32 (nI t) &&& Int32.toUInt32 31)).toInt32 &&& 255
theorem pu_y0_n (v : Int32) (t : Nat) : ∃ b, b < 256 ∧ pu_y0 v t = nI b := by
  refine ⟨pu_vl (bt (Int32.toUInt32 v >>> (Int32.toUInt32 (nI t) &&& Int32.toUInt32 31)).toInt32) 8, pu_vl_lt _ 8, ?_⟩
  rw [← pu_mk_vl _ (by omega)]
  apply b_ext
  intro i hi
  unfold pu_y0
  rw [b_and, b_255, pu_mk_bt _ 8 (by omega) i hi, Bool.and_comm]
theorem pu_y0_8 (v : Int32) {t : Nat} (ht : t ≤ 24) : (pu_y0 v t).toInt8 = (v >>> (nI t &&& 31)).toInt8 := by
  apply Int8.toBitVec_inj.mp
  rw [Int32.toBitVec_toInt8, Int32.toBitVec_toInt8]
  apply BitVec.eq_of_getLsbD_eq
  intro i hi
  rw [BitVec.getLsbD_signExtend, BitVec.getLsbD_signExtend]
  have h1 : bt (pu_y0 v t) i = bt (v >>> (nI t &&& 31)) i := by
    unfold pu_y0
    rw [b_and, b_255, b_ushr t (by omega) v i, b_sshr t (by omega) v (by omega), if_pos (by omega), decide_eq_true hi, Bool.and_true]
  simp only [show i < 32 by omega, ↓reduceIte]
  have h2 : (pu_y0 v t).toBitVec.getLsbD i = (v >>> (nI t &&& 31)).toBitVec.getLsbD i := h1
  rw [h2]
section PUv
variable {s : List (Nat × Nat)} {J : Nat → Nat → Int64} {R : Nat → Nat → Option Nat}
theorem pu_t_four_l (hX : pu_X s R) (v : Int32) : ∀ d n I L, d ≤ 4 → d < n → I 2 0 = nI L → L + d ≤ 400 → ∃ I', fl_t_addFour_2 n 2 v (if d = 0 then -8 else nI (8 * (d - 1))) (s, I, J, R) = some (s, I', J, R) ∧ I' 2 0 = nI (L + d) ∧ (∀ k, k < L → I' 3 k = I 3 k) ∧ (∀ j, j < d → I' 3 (L + j) = pu_y0 v (8 * (d - 1 - j))) ∧ (∀ k, k ≠ 0 → I' 2 k = I 2 k) ∧ (∀ q, q ≠ 2 → q ≠ 3 → I' q = I q) := by
  intro d
  induction d with
  | zero =>
    intro n I L hd hn e hL
    obtain ⟨n, rfl⟩ : ∃ z, n = z + 1 := ⟨n - 1, by omega⟩
    rw [fl_t_addFour_2.eq_2, if_pos rfl, if_pos (by decide)]
    exact ⟨I, rfl, e, fun _ _ => rfl, fun j hj => absurd hj (Nat.not_lt_zero j), fun _ _ => rfl, fun _ _ _ => rfl⟩
  | succ d ih =>
    intro n I L hd hn e hL
    obtain ⟨n, rfl⟩ : ∃ z, n = z + 1 := ⟨n - 1, by omega⟩
    rw [if_neg (by omega), show d + 1 - 1 = d by omega]
    have hal : tb_al 3 (s, I, J, R) = some (nI 400) := pu_al (pu_c3 hX)
    have es : nI (8 * d) + (-8) = (if d = 0 then -8 else nI (8 * (d - 1))) := by
      have : ∀ z, z < 4 → nI (8 * z) + (-8) = (if z = 0 then -8 else nI (8 * (z - 1))) := by decide +kernel
      exact this d (by omega)
    rw [fl_t_addFour_2.eq_2]
    simp only [pu_lt0 (show 8 * d < 2147483648 by omega), ↓reduceIte, pu_gI (pu_c2 hX), Option.bind_some, e, pu_lt0 (show L < 2147483648 by omega), pu_gN (pu_c2 hX), pu_f2_4 hX, hal, pu_ltI (show L < 2147483648 by omega) (show 400 < 2147483648 by omega), show L < 400 by omega, pu_tI (pu_c3 hX) (show L < 400 by omega) (show 400 ≤ 100000 by omega), pu_u2p _ _ _ _ (show (2 : Nat) ≠ 3 by decide), pu_R1, pu_pI (pu_c2 hX), es]
    obtain ⟨I', a1, a2, a3, a4, a5, a6⟩ := ih n (tb_up2 (tb_up2 I 3 L (pu_y0 v (8 * d))) 2 0 (nI (L + 1))) (L + 1) (by omega) (by omega) (pu_u2s _ _ _ _) (by omega)
    refine ⟨I', a1, by rw [a2]; congr 1; omega, ?_, ?_, ?_, ?_⟩
    · intro k hk
      rw [a3 k (by omega), pu_u2p _ _ _ _ (by decide), pu_u2k _ _ _ _ (by omega)]
    · intro j hj
      by_cases h0 : j = 0
      · subst h0
        rw [Nat.add_zero, a3 L (by omega), pu_u2p _ _ _ _ (by decide), pu_u2s]
        rfl
      · have := a4 (j - 1) (by omega)
        rw [show L + 1 + (j - 1) = L + j by omega, show d - 1 - (j - 1) = d + 1 - 1 - j by omega] at this
        exact this
    · intro k hk
      rw [a5 k hk, pu_u2k _ _ _ _ hk, pu_u2p _ _ _ _ (by decide)]
    · intro z h1 h2
      rw [a6 z h1 h2, pu_u2p _ _ _ _ h1, pu_u2p _ _ _ _ h2]
theorem pu_tB {I : Nat → Nat → Int32} {p n j : Nat} {x : Int32} (h : s[p]? = some (0, n)) (hj : j < n) (hn : n ≤ 100000) : tb_tB p (nI j) x (s, I, J, R) = some (s, tb_up2 I p j x.toInt8.toInt32, J, R) := by
  unfold tb_tB
  simp only [h, pu_in hj hn, nI_clamp (show j < 2 ^ 31 by omega)]
  rfl
theorem pu_m_four_l (hM : pu_M s R) (v : Int32) : ∀ d n I L, d ≤ 4 → d < n → I 70 1 = nI L → L + d ≤ 400 → ∃ I', fl_m_four_2 n 70 v (if d = 0 then -8 else nI (8 * (d - 1))) (s, I, J, R) = some (s, I', J, R) ∧ I' 70 1 = nI (L + d) ∧ (∀ k, k < L → I' 71 k = I 71 k) ∧ (∀ j, j < d → I' 71 (L + j) = (pu_y0 v (8 * (d - 1 - j))).toInt8.toInt32) ∧ (∀ k, k ≠ 1 → I' 70 k = I 70 k) ∧ (∀ q, q ≠ 70 → q ≠ 71 → I' q = I q) := by
  intro d
  induction d with
  | zero =>
    intro n I L hd hn e hL
    obtain ⟨n, rfl⟩ : ∃ z, n = z + 1 := ⟨n - 1, by omega⟩
    rw [fl_m_four_2.eq_2, if_pos rfl, if_pos (by decide)]
    exact ⟨I, rfl, e, fun _ _ => rfl, fun j hj => absurd hj (Nat.not_lt_zero j), fun _ _ => rfl, fun _ _ _ => rfl⟩
  | succ d ih =>
    intro n I L hd hn e hL
    obtain ⟨n, rfl⟩ : ∃ z, n = z + 1 := ⟨n - 1, by omega⟩
    rw [if_neg (by omega), show d + 1 - 1 = d by omega]
    have es : nI (8 * d) + (-8) = (if d = 0 then -8 else nI (8 * (d - 1))) := by
      have : ∀ z, z < 4 → nI (8 * z) + (-8) = (if z = 0 then -8 else nI (8 * (z - 1))) := by decide +kernel
      exact this d (by omega)
    have eb : ((v >>> (nI (8 * d) &&& 31)).toInt8.toInt32).toInt8.toInt32 = (pu_y0 v (8 * d)).toInt8.toInt32 := by
      rw [pu_y0_8 v (show 8 * d ≤ 24 by omega)]
      congr 1
      exact Int8.toInt8_toInt32 _
    rw [fl_m_four_2.eq_2]
    simp only [pu_lt0 (show 8 * d < 2147483648 by omega), ↓reduceIte, pu_gI (pu_m70 hM), Option.bind_some, e, pu_gN (pu_m70 hM), pu_r0 hM, pu_tB (pu_m71 hM) (show L < 400 by omega) (show 400 ≤ 100000 by omega), pu_u2p _ _ _ _ (show (70 : Nat) ≠ 71 by decide), pu_R1, pu_pI (pu_m70 hM), es, eb]
    obtain ⟨I', a1, a2, a3, a4, a5, a6⟩ := ih n (tb_up2 (tb_up2 I 71 L (pu_y0 v (8 * d)).toInt8.toInt32) 70 1 (nI (L + 1))) (L + 1) (by omega) (by omega) (pu_u2s _ _ _ _) (by omega)
    refine ⟨I', a1, by rw [a2]; congr 1; omega, ?_, ?_, ?_, ?_⟩
    · intro k hk
      rw [a3 k (by omega), pu_u2p _ _ _ _ (by decide), pu_u2k _ _ _ _ (by omega)]
    · intro j hj
      by_cases h0 : j = 0
      · subst h0
        rw [Nat.add_zero, a3 L (by omega), pu_u2p _ _ _ _ (by decide), pu_u2s]
        rfl
      · have := a4 (j - 1) (by omega)
        rw [show L + 1 + (j - 1) = L + j by omega, show d - 1 - (j - 1) = d + 1 - 1 - j by omega] at this
        exact this
    · intro k hk
      rw [a5 k hk, pu_u2k _ _ _ _ hk, pu_u2p _ _ _ _ (by decide)]
    · intro z h1 h2
      rw [a6 z h1 h2, pu_u2p _ _ _ _ h1, pu_u2p _ _ _ _ h2]
end PUv
