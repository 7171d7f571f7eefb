/-! ===== The class: street() ===== -/
section PUY3
variable {s : List (Nat × Nat)} {R : Nat → Nat → Option Nat}
theorem pu_x_street {I : Nat → Nat → Int32} {J : Nat → Nat → Int64} {b : Nat → Nat} {tl : Nat} (hX : pu_X s R) (h : pu_TB I b tl) {F : pu_A} {r : List (Nat × Nat × Nat)} {f : Nat} (hr : pu_rd 41 0 pu_A0 (pu_tt b tl 0) 0 = (F, r, f)) :
    pu_Fv F ∧ pu_fin r f < 10000 ∧ ∃ I', fb_x_street 1 (s, I, J, R) = some (if pu_fin r f = 0 then nI (F.1 0 3) else -2 - nI (pu_fin r f), (s, I', J, R)) ∧ I' 2 0 = 0 ∧
      (pu_fin r f = 0 → pu_V I' 19 (pu_Td F) ∧ pu_V I' 26 (pu_Td F) ∧ I' 33 0 = 0 ∧ I' 38 0 = 0 ∧ I' 38 1 = 0 ∧ (∀ q, q ≠ 2 → q ≠ 33 → q ≠ 38 → (q < 4 ∨ (6 < q ∧ q < 8) ∨ (15 ≤ q ∧ q < 19) ∨ 33 ≤ q) → I' q = I q)) ∧
      (pu_fin r f ≠ 0 → ∀ q, q ≠ 2 → (q < 4 ∨ (6 < q ∧ q < 8) ∨ 15 ≤ q) → I' q = I q) := by
  obtain ⟨I1, a1, a2, a3, a4, a5⟩ := pu_sr_read (J := J) hX h
  rw [hr] at a1 a2 a3 a4
  dsimp only at a1 a2 a3 a4
  have e0 : (nI (pu_fin r f) = (0 : Int32)) = (pu_fin r f = 0) := pu_eqI (b := 0) (by omega) (by omega)
  refine ⟨a3, a4, ?_⟩
  by_cases hf : pu_fin r f = 0
  · have go := pu_Td_go a3
    have v1 : pu_V (tb_up2 I1 2 0 0) 8 (pu_Td F) := pu_V_eq (fun i hi => pu_u2p _ _ _ _ (by omega)) a2
    obtain ⟨I2, b1, b2, b3⟩ := pu_s_copyFrom (J := J) (pu_st19 hX) (pu_st8 hX) (by omega) v1 go.1
    have v2 : pu_V I2 8 (pu_Td F) := pu_V_eq (fun i hi => b3 _ (by omega)) v1
    obtain ⟨I3, c1, c2, c3⟩ := pu_s_copyFrom (J := J) (pu_st26 hX) (pu_st8 hX) (by omega) v2 go.1
    have o : ∀ q, q ≠ 33 → q ≠ 38 → tb_up2 (tb_up2 (tb_up2 I3 33 0 0) 38 0 0) 38 1 0 q = I3 q := fun q h1 h2 => by rw [pu_u2p _ _ _ _ h2, pu_u2p _ _ _ _ h2, pu_u2p _ _ _ _ h1]
    have v19 : pu_V I3 19 (pu_Td F) := pu_V_eq (fun i hi => c3 _ (by omega)) b2
    have e193 : I3 19 3 = nI (F.1 0 3) := v19.1.2.2.2.1
    refine ⟨tb_up2 (tb_up2 (tb_up2 I3 33 0 0) 38 0 0) 38 1 0, ?_, ?_, fun _ => ⟨pu_V_eq (fun i hi => o _ (by omega) (by omega)) v19, pu_V_eq (fun i hi => o _ (by omega) (by omega)) c2, by rw [pu_u2p _ _ _ _ (by decide), pu_u2p _ _ _ _ (by decide), pu_u2s], by rw [pu_u2k _ _ _ _ (by decide), pu_u2s], pu_u2s _ _ _ _, fun q h1 h2 h3 h4 => ?_⟩, fun hx => absurd hf hx⟩
    · unfold fb_x_street
      simp only [pu_gN (pu_c1 hX), pu_f1_1 hX, pu_f1_0 hX, pu_f1_5 hX, pu_f1_7 hX, Option.bind_some, pu_on (pu_c7 hX), a1, pu_pI (pu_c2 hX), e0, hf, ↓reduceIte, pu_gN (pu_c7 hX), pu_f7_0 hX, pu_on (pu_c18 hX), fb_sc_beginWith, pu_gN (pu_c18 hX), pu_f18_0 hX, pu_f18_1 hX, pu_f18_2 hX, pu_on (pu_c19 hX), b1, pu_on (pu_c26 hX), c1, pu_pI (pu_c33 hX), pu_on (pu_c38 hX), fb_p_clear, pu_pI (pu_c38 hX), pu_gI (pu_c19 hX), o 19 (by decide) (by decide), e193, show nI 0 = 0 from rfl]
    · rw [o 2 (by decide) (by decide), c3 2 (by omega), b3 2 (by omega), pu_u2s]
    · rw [o q h2 h3, c3 q (by omega), b3 q (by omega), pu_u2p _ _ _ _ h1, a5.1 q h1 (by omega)]
  · refine ⟨tb_up2 I1 2 0 0, ?_, pu_u2s _ _ _ _, fun hx => absurd hx hf, fun _ q h1 h2 => by rw [pu_u2p _ _ _ _ h1, a5.1 q h1 h2]⟩
    unfold fb_x_street
    simp only [pu_gN (pu_c1 hX), pu_f1_1 hX, pu_f1_0 hX, Option.bind_some, pu_on (pu_c7 hX), a1, pu_pI (pu_c2 hX), e0, hf, ↓reduceIte]
end PUY3
