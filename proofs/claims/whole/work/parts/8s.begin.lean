/-! ===== What holds when the two are made ===== -/
def pu_A0 : pu_A := (fun _ _ => 0, fun _ _ => false)
theorem pu_A0_go : pu_Go pu_A0 := ⟨⟨by decide, by decide, by decide, fun _ => ⟨by show 0 ≤ 1000; omega, by show 0 ≤ 1000; omega⟩, fun _ => by show 0 ≤ 100; omega, fun l hl => absurd hl (Nat.not_lt_zero _), fun l hl => (by cases hl), fun h hh => (by cases hh)⟩, fun l hl => (by cases hl), fun _ => ⟨by show 0 ≤ 60; omega, by show 0 ≤ 60; omega, by show 0 ≤ 60; omega⟩, by show 0 ≤ 999; omega⟩
theorem pu_mk_f (n : Nat) : pu_mk (fun _ => false) n = 0 := by
  induction n with
  | zero => rfl
  | succ n ih =>
    show pu_mk (fun _ => false) n ||| 0 = 0
    rw [ih]; rfl
theorem pu_V0 {I : Nat → Nat → Int32} {p : Nat} (h : ∀ i k, i < 6 → I (p + i) k = 0) : pu_V I p pu_A0 := by
  have h0 : ∀ k, I p k = 0 := fun k => h 0 k (by omega)
  refine ⟨⟨h0 0, h0 1, h0 2, h0 3, ?_, ?_⟩, fun k _ => ⟨h 1 k (by omega), h 2 k (by omega)⟩, fun l hl => absurd hl (Nat.not_lt_zero _)⟩
  · rw [h0 4]; exact (pu_mk_f 8).symm
  · rw [h0 5]; exact (pu_mk_f 10).symm
theorem pu_begin {N : Nat} {xs : Nat → Int32} (hN : N ≤ 3072) {D : List ((Nat × Nat) × Nat)} {w : tb_Hp} (h : pu_K N xs 91 D w) (i21 : w.2.1 70 21 = -1) (hD : ∀ q ∈ pu_XR, q ∈ D) (hR : ∀ q ∈ [((70, 0), 71), ((70, 3), 72), ((70, 4), 73), ((70, 5), 74), ((70, 6), 75), ((70, 7), 76), ((70, 15), 77), ((70, 17), 78), ((70, 19), 79), ((70, 20), 80), ((70, 23), 81), ((70, 25), 82), ((70, 26), 83), ((70, 27), 84), ((70, 28), 85), ((70, 29), 86), ((70, 30), 87), ((70, 32), 88), ((70, 33), 89), ((70, 34), 90), ((70, 35), 91)], q ∈ D) : pu_INV N xs w := by
  have hl := h.len
  obtain ⟨s, I, J, R⟩ := w
  obtain ⟨h1, _, h3, h4, h5, h6⟩ := h
  have h1 : s = (9, N) :: pu_FS.take 91 := h1
  have hft : pu_FS.take 91 = pu_FS := List.take_of_length_le (Nat.le_of_eq rfl)
  rw [hft] at h1
  have h3 : I 0 = xs := h3
  have z : ∀ p k, 1 ≤ p → p ≤ 91 → ¬ (p = 70 ∧ k = 21) → ¬ (p = 18 ∧ k = 3) → I p k = 0 := fun p k a b c d => by
    have := h4 p k a b c
    rw [if_neg d] at this
    exact this
  have i18 : I 18 3 = -1 := by
    have := h4 18 3 (by omega) (by omega) (by omega)
    rw [if_pos ⟨rfl, rfl⟩] at this
    exact this
  have n39 : ∀ k, R 39 k = none := fun k => h6 39 k (by omega) (by omega)
  have n37 : ∀ k, R 37 k = none := fun k => h6 37 k (by omega) (by omega)
  have i21 : I 70 21 = -1 := i21
  have hsh : ∀ k, s[k + 1]? = pu_FS[k]? := fun k => by rw [h1, List.getElem?_cons_succ]
  have hX : pu_X s R := by
    refine ⟨fun k hk => ?_, fun q hq => (h5 q (hD q hq)).2⟩
    rw [hsh k]
    exact List.getElem?_append_left hk
  have hM : pu_M s R := by
    refine ⟨fun k hk => ?_, fun k hk hk2 => ?_⟩
    · rw [show 70 + k = (69 + k) + 1 by omega, hsh (69 + k)]
      show (pu_XS ++ _)[69 + k]? = _
      rw [List.getElem?_append_right (by show 69 ≤ 69 + k; omega), show 69 + k - pu_XS.length = k by show 69 + k - 69 = k; omega]
    · have e := fun q hq => (h5 q (hR q hq)).2
      simp only [List.mem_cons, List.mem_nil_iff, or_false] at hk2
      rcases hk2 with rfl | rfl | rfl | rfl | rfl | rfl | rfl | rfl | rfl | rfl | rfl | rfl | rfl | rfl | rfl | rfl | rfl | rfl | rfl | rfl | rfl
      · exact e ((70, 0), 71) (by decide)
      · exact e ((70, 3), 72) (by decide)
      · exact e ((70, 4), 73) (by decide)
      · exact e ((70, 5), 74) (by decide)
      · exact e ((70, 6), 75) (by decide)
      · exact e ((70, 7), 76) (by decide)
      · exact e ((70, 15), 77) (by decide)
      · exact e ((70, 17), 78) (by decide)
      · exact e ((70, 19), 79) (by decide)
      · exact e ((70, 20), 80) (by decide)
      · exact e ((70, 23), 81) (by decide)
      · exact e ((70, 25), 82) (by decide)
      · exact e ((70, 26), 83) (by decide)
      · exact e ((70, 27), 84) (by decide)
      · exact e ((70, 28), 85) (by decide)
      · exact e ((70, 29), 86) (by decide)
      · exact e ((70, 30), 87) (by decide)
      · exact e ((70, 32), 88) (by decide)
      · exact e ((70, 33), 89) (by decide)
      · exact e ((70, 34), 90) (by decide)
      · exact e ((70, 35), 91) (by decide)
  have z80 : ∀ k, I 80 k = 0 := fun k => z 80 k (by omega) (by omega) (by omega) (by omega)
  have hln : s.length = 92 := hl
  have c39 : pu_ct (fun k => (R 39 k).isNone) 20 = 20 := by rw [pu_ct_cong 20 (fun k _ => by rw [n39 k]; rfl : ∀ k, k < 20 → (R 39 k).isNone = true)]; rfl
  have c37 : pu_ct (fun k => (R 37 k).isNone) 4 = 4 := by rw [pu_ct_cong 4 (fun k _ => by rw [n37 k]; rfl : ∀ k, k < 4 → (R 37 k).isNone = true)]; rfl
  have hsum : (s.map Prod.snd).sum = N + 8660 := by
    rw [h1, List.map_cons, List.sum_cons]
    rfl
  refine ⟨by show s[0]? = _; rw [h1]; rfl, h3, fun _ => 0, pu_A0, pu_A0, 0, [], 0, 0, [], ⟨hX, hM, ?_, ?_⟩, ⟨⟨pu_A0_go, pu_A0_go, rfl, rfl⟩, ⟨pu_V0 (fun i k hi => z _ k (by omega) (by omega) (by omega) (by omega)), pu_V0 (fun i k hi => z _ k (by omega) (by omega) (by omega) (by omega))⟩, ⟨⟨⟨z80 0, z80 1, z80 2, z80 10, z80 11⟩, fun k _ => ⟨z80 _, z80 _⟩, fun k hk => absurd hk (Nat.not_lt_zero _), fun k hk => absurd hk (Nat.not_lt_zero _)⟩, ⟨⟨z80 0, z80 1, z80 2, z80 3, rfl⟩, fun k _ => ⟨z80 _, z80 _⟩, fun k hk => absurd hk (Nat.not_lt_zero _), fun l => (decide_eq_false (Nat.not_lt_zero _)).symm, fun l => (decide_eq_false (Nat.not_lt_zero _)).symm⟩⟩, ⟨z 33 0 (by omega) (by omega) (by omega) (by omega), z80 148, Nat.zero_le _, fun i hi => absurd hi (Nat.not_lt_zero _)⟩⟩, ⟨⟨⟨z 38 0 (by omega) (by omega) (by omega) (by omega), z 38 1 (by omega) (by omega) (by omega) (by omega), by omega, Nat.zero_le _⟩, fun k p _ hp => (by have := (n39 k).symm.trans hp; cases this), fun i B hB => (by cases hB)⟩, z 70 24 (by omega) (by omega) (by omega) (by omega), trivial⟩, ⟨z 2 0 (by omega) (by omega) (by omega) (by omega), z 70 1 (by omega) (by omega) (by omega) (by omega), Nat.zero_le _, fun k hk => absurd hk (Nat.not_lt_zero _)⟩, ⟨⟨Nat.zero_le _, z 1 4 (by omega) (by omega) (by omega) (by omega), z 70 2 (by omega) (by omega) (by omega) (by omega)⟩, fun r ru hr => (by cases hr)⟩, ⟨⟨by show I 18 3 = I 70 21; rw [i18, i21], by show pu_ir 0 (I 18 3) = true; rw [i18]; decide⟩, ⟨by show I 18 4 = I 70 22; rw [z 18 4 (by omega) (by omega) (by omega) (by omega), z 70 22 (by omega) (by omega) (by omega) (by omega)], by show ¬ I 18 4 < 0; rw [z 18 4 (by omega) (by omega) (by omega) (by omega)]; decide⟩⟩, fun k hk => Or.inl ⟨n37 k, z 91 k (by omega) (by omega) (by omega) (by omega)⟩⟩
  · show s.length + 7 * pu_ct (fun k => (R 39 k).isNone) 20 + 19 * pu_ct (fun k => (R 37 k).isNone) 4 + (6 - 0) ≤ 400
    rw [hln, c39, c37]; omega
  · show (s.map Prod.snd).sum + 70 * pu_ct (fun k => (R 39 k).isNone) 20 + 200 * pu_ct (fun k => (R 37 k).isNone) 4 + 400 * (6 - 0) ≤ 30000
    rw [hsum, c39, c37]; omega
