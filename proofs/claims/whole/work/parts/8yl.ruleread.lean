/-! ===== The class reads a rule ===== -/
section PUL9
variable {s : List (Nat × Nat)} {R : Nat → Nat → Option Nat} {l : List (Nat × Nat × Nat)}
theorem pz_RY.rz {I : Nat → Nat → Int32} {y : pz_Y} (h : pz_RY I l y) : pz_RZ I l (pu_rl y.1) l.length ([], y.2) := ⟨h.1, h.2.1, h.2.2.1, fun hz => by
  obtain ⟨g1, g2, g3, g4, g5, g6⟩ := h.2.2.2 hz
  exact ⟨g1, g2, g3, trivial, g5⟩⟩
theorem pz_RY_adv {I : Nat → Nat → Int32} {J : Nat → Nat → Int64} (hX : pu_X s R) (he : pu_En l) {y : pz_Y} (h : pz_RY I l y) (hk : pu_hk y.2.2.1 ≠ 0) : ∃ I', fb_t_advance 2 (s, I, J, R) = some (s, I', J, R) ∧ pz_RY I' l (y.1, y.2.1, y.2.2.1.tail, y.2.2.2) ∧ pz_Rx 0 I I' := by
  have hz := h.rz
  have hp := hz.pos hk
  obtain ⟨L, hL⟩ : ∃ x, l.length = x + 1 := ⟨l.length - 1, by omega⟩
  rw [hL] at hz
  obtain ⟨I', a1, a2, a3, a4⟩ := pz_adv (J := J) hX he hz hk
  obtain ⟨g1, g2, g3, g4, g5, g6⟩ := h.2.2.2 a4
  obtain ⟨q1, q2, q3, _, q5⟩ := a2.2.2.2 a4
  refine ⟨I', a1, ⟨a2.1, a2.2.1, a2.2.2.1, fun _ => ⟨q1, q2, q3, pz_RC_eq y.1 0 (fun k _ h2 => a3.2.2 k (by omega)) g4, ?_, g6⟩⟩, a3.1, a3.2.1, fun k hk => absurd hk (Nat.not_lt_zero _)⟩
  have q5 : pu_rl y.1 + 0 + y.2.2.1.tail.length ≤ L := q5
  show pu_rl y.1 + y.2.2.1.tail.length ≤ l.length
  omega
theorem pz_RY_fail {I : Nat → Nat → Int32} {J : Nat → Nat → Int64} (hX : pu_X s R) (hg : pu_Tg l) {y : pz_Y} (h : pz_RY I l y) {why : Nat} (hw : why ≤ 4) : ∃ I', fb_t_fail 2 (nI why) (s, I, J, R) = some (s, I', J, R) ∧ pz_RY I' l (y.1, y.2.1, [], pu_ft y.2.2.1 y.2.2.2 why) ∧ pz_Rx 0 I I' := by
  obtain ⟨I', a1, a2, a3⟩ := pz_fail (J := J) hX hg h.rz hw
  have b := a2 0
  refine ⟨I', a1, ⟨b.1, b.2.1, b.2.2.1, fun hz => ?_⟩, a3.1, a3.2.1, fun k hk => absurd hk (Nat.not_lt_zero _)⟩
  rcases b.2.1 with ⟨_, x⟩ | ⟨x, _⟩
  · exact absurd rfl x
  · exact absurd hz x
theorem pz_read_l (hX : pu_X s R) (hg : pu_Tg l) (he : pu_En l) : ∀ d i n (I : Nat → Nat → Int32) (J : Nat → Nat → Int64) (y : pz_Y), i + d = 12 → d < n → pz_RY I l y →
    ∃ I' y', pz_RY I' l y' ∧ pz_Rx 0 I I' ∧ ((fl_rr_read_11 n 15 (nI i) (s, I, J, R) = some (.inr (.inl (15, (s, I', J, R)))) ∧ pz_rr (d + 1) i y = y') ∨ (fl_rr_read_11 n 15 (nI i) (s, I, J, R) = some (.inl (15, (s, I', J, R))) ∧ pz_rr (d + 1) i y = (y'.1, y'.2.1, [], pu_ft y'.2.2.1 y'.2.2.2 (if pu_hk y'.2.2.1 = 34 then 4 else 0)))) := by
  intro d
  induction d with
  | zero =>
    intro i n I J y hi hn h
    obtain ⟨n, rfl⟩ : ∃ x, n = x + 1 := ⟨n - 1, by omega⟩
    have hi12 : (nI i < (12 : Int32)) = (i < 12) := pu_ltI (b := 12) (by omega) (by omega)
    have hi12' : (nI i ≤ (12 : Int32)) = (i ≤ 12) := pu_leI (b := 12) (by omega) (by omega)
    refine ⟨I, y, h, pz_Rx.rf, Or.inr ⟨?_, ?_⟩⟩
    · rw [fl_rr_read_11.eq_2]
      simp only [hi12, hi12', show ¬ i < 12 by omega, show i ≤ 12 by omega, ↓reduceIte, pu_gN (pu_c15 hX), pu_f15_0 hX, Option.bind_some, pu_gI (pu_c2 hX), ite_self]
    · show (if _ then _ else _) = _
      rw [if_neg (fun x => by omega)]
  | succ d ih =>
    intro i n I J y hi hn h
    obtain ⟨n, rfl⟩ : ∃ x, n = x + 1 := ⟨n - 1, by omega⟩
    have hi12' : (nI i ≤ (12 : Int32)) = (i ≤ 12) := pu_leI (b := 12) (by omega) (by omega)
    by_cases hk : pu_hk y.2.2.1 = 34
    · obtain ⟨I1, a1, a2, a3⟩ := pz_clause (J := J) (n := n) hX hg he h hk (show i < 12 by omega)
      have hk4 := pu_hk_le a2.1 hg
      have e4 : (nI (pu_hk (pz_kc y).2.2.1) = (4 : Int32)) = (pu_hk (pz_kc y).2.2.1 = 4) := pu_eqI (b := 4) (by omega) (by omega)
      have er : pz_rr (d + 1 + 1) i y = if pu_hk (pz_kc y).2.2.1 = 4 then pz_rr (d + 1) (i + 1) ((pz_kc y).1, (pz_kc y).2.1, (pz_kc y).2.2.1.tail, (pz_kc y).2.2.2) else pz_kc y := by
        show (if _ then _ else _) = _
        rw [if_pos ⟨hk, by omega⟩]
      rw [a1, er]
      unfold fj_rr_read_j57
      by_cases h4 : pu_hk (pz_kc y).2.2.1 = 4
      · obtain ⟨I2, b1, b2, b3⟩ := pz_RY_adv (J := J) hX he a2 (by omega)
        obtain ⟨I3, y', c1, c2, c3⟩ := ih (i + 1) n I2 J _ (by omega) (by omega) b2
        refine ⟨I3, y', c1, (a3.tr b3).tr c2, ?_⟩
        simp only [pu_gN (pu_c15 hX), pu_f15_0 hX, Option.bind_some, pu_gI (pu_c2 hX), a2.1.kd, e4, if_pos h4, pu_on (pu_c2 hX), b1, pu_R1]
        exact c3
      · refine ⟨I1, _, a2, a3, Or.inl ⟨?_, ?_⟩⟩
        · simp only [pu_gN (pu_c15 hX), pu_f15_0 hX, Option.bind_some, pu_gI (pu_c2 hX), a2.1.kd, e4, if_neg h4]
        · rw [if_neg h4]
    · have hk38 := pu_hk_le h.1 hg
      have e34 : (nI (pu_hk y.2.2.1) = (34 : Int32)) = (pu_hk y.2.2.1 = 34) := pu_eqI (b := 34) (by omega) (by omega)
      refine ⟨I, y, h, pz_Rx.rf, Or.inr ⟨?_, ?_⟩⟩
      · rw [fl_rr_read_11.eq_2]
        simp only [hi12', show i ≤ 12 by omega, ↓reduceIte, pu_gN (pu_c15 hX), pu_f15_0 hX, Option.bind_some, pu_gI (pu_c2 hX), h.1.kd, e34, hk]
      · show (if _ then _ else _) = _
        rw [if_neg (fun x => hk x.1)]
end PUL9
