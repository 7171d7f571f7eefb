/-! ===== The class reads a rule, whole ===== -/
theorem pz_kc_len (y : pz_Y) : (pz_kc y).1.length = y.1.length + 1 := by
  unfold pz_kc
  split
  · rw [List.length_append]; rfl
  · rw [List.length_append]; rfl
theorem pz_rr_len : ∀ d i (y : pz_Y), y.1.length ≤ i → i ≤ 12 → (pz_rr d i y).1.length ≤ 12 := by
  intro d
  induction d with
  | zero => intro i y h1 h2; show y.1.length ≤ 12; omega
  | succ d ih =>
    intro i y h1 h2
    show (if _ then _ else _ : pz_Y).1.length ≤ 12
    by_cases hc : pu_hk y.2.2.1 = 34 ∧ i < 12
    · rw [if_pos hc]
      have := pz_kc_len y
      by_cases h4 : pu_hk (pz_kc y).2.2.1 = 4
      · rw [if_pos h4]
        exact ih (i + 1) _ (by show (pz_kc y).1.length ≤ i + 1; omega) (by omega)
      · rw [if_neg h4]; omega
    · rw [if_neg hc]
      show y.1.length ≤ 12
      omega
section PUM9
variable {s : List (Nat × Nat)} {R : Nat → Nat → Option Nat}
theorem pz_j68 {I : Nat → Nat → Int32} {J : Nat → Nat → Int64} {l : List (Nat × Nat × Nat)} (hX : pu_X s R) (hg : pu_Tg l) {y : pz_Y} (h : pz_RY I l y) : ∃ I', fj_rr_read_j68 15 (s, I, J, R) = some (nI (pu_fin y.2.2.1 y.2.2.2), (s, I', J, R)) ∧ pu_fin y.2.2.1 y.2.2.2 < 10000 ∧ (pu_fin y.2.2.1 y.2.2.2 = 0 → pz_RY I' l y ∧ y.2.2.2 = 0) ∧ pz_Rx 0 I I' := by
  have hk38 := pu_hk_le h.1 hg
  have e0 : (nI (pu_hk y.2.2.1) = (0 : Int32)) = (pu_hk y.2.2.1 = 0) := pu_eqI (b := 0) (by omega) (by omega)
  unfold pu_fin fj_rr_read_j68
  by_cases hk : pu_hk y.2.2.1 = 0
  · rw [if_pos hk]
    refine ⟨I, ?_, h.2.2.1, fun x => ⟨h, x⟩, pz_Rx.rf⟩
    simp only [pu_gN (pu_c15 hX), pu_f15_0 hX, Option.bind_some, pu_gI (pu_c2 hX), h.1.kd, e0, hk, show nI 0 = 0 from rfl, ↓reduceIte, h.1.2.2.1]
  · rw [if_neg hk]
    obtain ⟨I', a1, a2, a3⟩ := pz_RY_fail (J := J) (why := 0) hX hg h (by omega)
    rw [show nI 0 = 0 from rfl] at a1
    refine ⟨I', ?_, a2.2.2.1, fun x => ?_, a3⟩
    · have e3 : I' 2 3 = nI (pu_ft y.2.2.1 y.2.2.2 0) := a2.1.2.2.1
      simp only [pu_gN (pu_c15 hX), pu_f15_0 hX, Option.bind_some, pu_gI (pu_c2 hX), h.1.kd, e0, hk, ↓reduceIte, pu_on (pu_c2 hX), a1, e3]
    · rcases a2.2.1 with ⟨_, z⟩ | ⟨z, _⟩
      · exact absurd rfl z
      · exact absurd x z
theorem pz_read {I : Nat → Nat → Int32} {J : Nat → Nat → Int64} {b : Nat → Nat} {tl : Nat} (hX : pu_X s R) (h : pu_TB I b tl) {y : pz_Y} (hy : pz_rr 13 0 ([], 0, pu_tt b tl 0, 0) = y) :
    ∃ I', fb_rr_read 15 (s, I, J, R) = some (nI (pu_fin y.2.2.1 y.2.2.2), (s, I', J, R)) ∧ pu_fin y.2.2.1 y.2.2.2 < 10000 ∧ (pu_fin y.2.2.1 y.2.2.2 = 0 → pz_RY I' (pu_tt b tl 0) y ∧ y.2.2.2 = 0) ∧ (∀ q, q ≠ 2 → q ≠ 15 → q ≠ 16 → (q < 4 ∨ 6 < q) → I' q = I q) ∧ I' 2 0 = I 2 0 := by
  have h400 := h.2.1
  have hg := pu_tt_ok b (p := 0) h400
  have he := pu_tt_en b tl 0
  have hb0 : pu_TB (tb_up2 (tb_up2 I 15 2 0) 15 3 0) b tl := ⟨by rw [pu_u2p _ _ _ _ (by decide), pu_u2p _ _ _ _ (by decide)]; exact h.1, h400, fun k hk => by rw [pu_u2p _ _ _ _ (by decide), pu_u2p _ _ _ _ (by decide)]; exact h.2.2 k hk⟩
  obtain ⟨I1, a1, a2, a3, a4⟩ := pu_t_begin (J := J) hX hb0
  have hy0 : pz_RY I1 (pu_tt b tl 0) ([], 0, pu_tt b tl 0, 0) := ⟨a2, Or.inl ⟨rfl, pu_tt_ne b tl 0⟩, by show 0 < 10000; omega, fun _ => ⟨by rw [a3 15 (by decide) (by omega), pu_u2k _ _ _ _ (by decide), pu_u2s]; rfl, by rw [a3 15 (by decide) (by omega), pu_u2s]; rfl, by show 0 ≤ 60; omega, trivial, by show 0 + (pu_tt b tl 0).length ≤ (pu_tt b tl 0).length; omega, trivial⟩⟩
  have fr1 : ∀ q, q ≠ 2 → q ≠ 15 → q ≠ 16 → (q < 4 ∨ 6 < q) → I1 q = I q := fun q x1 x2 x3 x4 => by rw [a3 q x1 x4, pu_u2p _ _ _ _ x2, pu_u2p _ _ _ _ x2]
  have f20 : I1 2 0 = I 2 0 := by rw [a4 0 (by omega), pu_u2p _ _ _ _ (by decide), pu_u2p _ _ _ _ (by decide)]
  obtain ⟨I2, y', b1, b2, b3⟩ := pz_read_l hX hg he 12 0 1048576 I1 J _ (by omega) (by omega) hy0
  rw [show nI 0 = 0 from rfl] at b3
  rcases b3 with ⟨b3, b4⟩ | ⟨b3, b4⟩
  · have b4 : y = y' := hy.symm.trans b4
    subst b4
    obtain ⟨I3, c1, c2, c3, c4⟩ := pz_j68 (J := J) hX hg b1
    refine ⟨I3, ?_, c2, c3, fun q x1 x2 x3 x4 => by rw [c4.1 q x1 x2 x3, b2.1 q x1 x2 x3, fr1 q x1 x2 x3 x4], by rw [c4.2.1 0 (by omega), b2.2.1 0 (by omega), f20]⟩
    unfold fb_rr_read
    simp only [pu_pI (pu_c15 hX), Option.bind_some, pu_gN (pu_c15 hX), pu_f15_0 hX, pu_on (pu_c2 hX), a1, b3, c1]
  · have b4 : y = (y'.1, y'.2.1, [], pu_ft y'.2.2.1 y'.2.2.2 (if pu_hk y'.2.2.1 = 34 then 4 else 0)) := hy.symm.trans b4
    have hk38 := pu_hk_le b1.1 hg
    have e34 : (nI (pu_hk y'.2.2.1) = (34 : Int32)) = (pu_hk y'.2.2.1 = 34) := pu_eqI (b := 34) (by omega) (by omega)
    subst b4
    by_cases h34 : pu_hk y'.2.2.1 = 34
    · rw [if_pos h34]
      obtain ⟨I3, d1, d2, d3⟩ := pz_RY_fail (J := J) (why := 4) hX hg b1 (by omega)
      rw [show nI 4 = 4 from rfl] at d1
      obtain ⟨I4, c1, c2, c3, c4⟩ := pz_j68 (J := J) hX hg d2
      refine ⟨I4, ?_, c2, c3, fun q x1 x2 x3 x4 => by rw [c4.1 q x1 x2 x3, d3.1 q x1 x2 x3, b2.1 q x1 x2 x3, fr1 q x1 x2 x3 x4], by rw [c4.2.1 0 (by omega), d3.2.1 0 (by omega), b2.2.1 0 (by omega), f20]⟩
      unfold fb_rr_read
      simp only [pu_pI (pu_c15 hX), Option.bind_some, pu_gN (pu_c15 hX), pu_f15_0 hX, pu_on (pu_c2 hX), a1, b3, pu_gI (pu_c2 hX), b1.1.kd, e34, if_pos h34, d1, c1]
    · rw [if_neg h34]
      obtain ⟨I3, d1, d2, d3⟩ := pz_RY_fail (J := J) (why := 0) hX hg b1 (by omega)
      rw [show nI 0 = 0 from rfl] at d1
      obtain ⟨I4, c1, c2, c3, c4⟩ := pz_j68 (J := J) hX hg d2
      refine ⟨I4, ?_, c2, c3, fun q x1 x2 x3 x4 => by rw [c4.1 q x1 x2 x3, d3.1 q x1 x2 x3, b2.1 q x1 x2 x3, fr1 q x1 x2 x3 x4], by rw [c4.2.1 0 (by omega), d3.2.1 0 (by omega), b2.2.1 0 (by omega), f20]⟩
      unfold fb_rr_read
      simp only [pu_pI (pu_c15 hX), Option.bind_some, pu_gN (pu_c15 hX), pu_f15_0 hX, pu_on (pu_c2 hX), a1, b3, pu_gI (pu_c2 hX), b1.1.kd, e34, if_neg h34, d1, c1]
end PUM9
