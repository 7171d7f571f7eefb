/-! ===== street() as a step ===== -/
section PUC1
variable {s : List (Nat × Nat)} {I I2 : Nat → Nat → Int32} {R : Nat → Nat → Option Nat} {own : Nat → Nat} {A T : pu_A} {nn : Nat} {L : List pu_A} {j tl tl' : Nat} {rs : List pu_Ru}
/-- only readers' places and the tape are others -/
theorem pu_In.rd (H : pu_In s I R own A T nn L j tl rs) (w : ∀ q, 18 ≤ q → (q < 70 ∨ 78 ≤ q) → I2 q = I q) (w21 : I2 70 21 = I 70 21) (w22 : I2 70 22 = I 70 22) (w24 : I2 70 24 = I 70 24) (tp : pu_TP I2 tl') (ru : pu_RU s I2 R own rs) : pu_In s I2 R own A T nn L j tl' rs := by
  obtain ⟨h1, h2, ⟨h3, h4, h5⟩, _, _, ⟨fo, fx⟩, h12⟩ := H
  have e18 : I2 18 = I 18 := w 18 (by omega) (by omega)
  exact ⟨h1, pu_Sc_eq (fun i hi _ _ _ => w _ (by omega) (by omega)) (w 80 (by omega) (by omega)) h2, ⟨pu_RG_eq (fun q hq => w q (by omega) (by omega)) (w 38 (by omega) (by omega)) h3, by rw [w24]; exact h4, by rw [w 81 (by omega) (by omega)]; exact h5⟩, tp, ru, ⟨by rw [e18, w21]; exact fo, by rw [e18, w22]; exact fx⟩, fun k hk => pu_IM1_eq (fun q hq => w q (by omega) (by omega)) (h12 k hk)⟩
/-- both tapes tell the same bytes -/
theorem pu_TP.by {I : Nat → Nat → Int32} {tl : Nat} (h : pu_TP I tl) : ∃ b, pu_TB I b tl ∧ pu_MB I b tl := by
  obtain ⟨h1, h2, h3, h4⟩ := h
  have h5 : ∀ k, ∃ b, k < tl → (b < 256 ∧ I 3 k = nI b ∧ I 71 k = (nI b).toInt8.toInt32) := fun k => by
    by_cases hk : k < tl
    · obtain ⟨b, hb⟩ := h4 k hk
      exact ⟨b, fun _ => hb⟩
    · exact ⟨0, fun h => absurd h hk⟩
  obtain ⟨b, hb⟩ := Classical.axiomOfChoice h5
  exact ⟨b, ⟨h1, h3, fun k hk => ⟨(hb k hk).1, (hb k hk).2.1⟩⟩, ⟨h2, h3, fun k hk => ⟨(hb k hk).1, (hb k hk).2.2⟩⟩⟩
end PUC1
section PUC2
variable {N : Nat} {xs : Nat → Int32}
theorem pu_k_street : pu_Step N xs (fb_x_street 1) (fb_m_street 70) := by
  rintro ⟨s, I, J, R⟩ ⟨h0, hxs, own, A, T, nn, L, j, tl, rs, H⟩
  have H : pu_In s I R own A T nn L j tl rs := H
  have h0 : s[0]? = some (9, N) := h0
  have hxs : I 0 = xs := hxs
  have hX := H.hX
  have hM := H.hM
  obtain ⟨b, tb, mb⟩ := H.tp.by
  obtain ⟨F, r, f, hr⟩ : ∃ F r f, pu_rd 41 0 pu_A0 (pu_tt b tl 0) 0 = (F, r, f) := ⟨_, _, _, rfl⟩
  obtain ⟨fv, hfin, I1, a1, a2, a3, a4⟩ := pu_x_street (J := J) hX tb hr
  have e70 : ∀ q, q < 2 ∨ q = 18 ∨ 70 ≤ q → I1 q = I q := fun q hq => by
    by_cases hz : pu_fin r f = 0
    · exact (a3 hz).2.2.2.2.2 q (by omega) (by omega) (by omega) (by omega)
    · exact a4 hz q (by omega) (by omega)
  have mb1 : pu_MB I1 b tl := ⟨by rw [e70 70 (by omega)]; exact mb.1, mb.2.1, fun k hk => by rw [e70 71 (by omega)]; exact mb.2.2 k hk⟩
  obtain ⟨I2, c1, c2, c3, c4, c5, c6⟩ := pu_m_street (J := J) hM mb1 hr hfin
  have e2 : ∀ q, q < 70 ∨ 81 ≤ q → I2 q = I1 q := fun q hq => c5 q (by omega) (by omega) (by omega) (by omega)
  have g70 : ∀ k, k ≠ 1 → k ≠ 8 → k ≠ 9 → k ≠ 10 → k ≠ 11 → k ≠ 12 → k ≠ 14 → k ≠ 24 → I2 70 k = I 70 k := fun k h1 h2 h3 h4 h5 h6 h7 h8 => by rw [c6 k h1 h2 h3 h4 h5 h6 h7 h8, e70 70 (by omega)]
  have tp2 : pu_TP I2 0 := ⟨by rw [e2 2 (by omega), a2]; rfl, by rw [c2]; rfl, by omega, fun k hk => absurd hk (Nat.not_lt_zero _)⟩
  refine ⟨_, _, _, a1, c1, ⟨h0, by show I1 0 = xs; rw [e70 0 (by omega)]; exact hxs, pu_m70 hM⟩, h0, by show I2 0 = xs; rw [e2 0 (by omega), e70 0 (by omega)]; exact hxs, ?_⟩
  show ∃ own A T nn L j tl rs, pu_In s I2 R own A T nn L j tl rs
  have e18 : I2 18 = I 18 := by rw [e2 18 (by omega), e70 18 (by omega)]
  have q21 := g70 21 (by decide) (by decide) (by decide) (by decide) (by decide) (by decide) (by decide) (by decide)
  have q22 := g70 22 (by decide) (by decide) (by decide) (by decide) (by decide) (by decide) (by decide) (by decide)
  have q2 := g70 2 (by decide) (by decide) (by decide) (by decide) (by decide) (by decide) (by decide) (by decide)
  have i1 : I2 1 = I 1 := by rw [e2 1 (by omega), e70 1 (by omega)]
  have i72 : I2 72 = I 72 := by rw [c5 72 (by omega) (by omega) (by omega) (by omega), e70 72 (by omega)]
  have i74 : I2 74 = I 74 := by rw [c5 74 (by omega) (by omega) (by omega) (by omega), e70 74 (by omega)]
  have i75 : I2 75 = I 75 := by rw [c5 75 (by omega) (by omega) (by omega) (by omega), e70 75 (by omega)]
  have i88 : ∀ q, 81 ≤ q → I2 q = I q := fun q hq => by rw [e2 q (by omega), e70 q (by omega)]
  by_cases hz : pu_fin r f = 0
  · obtain ⟨b1, b2, b3, b4, b5, b6⟩ := a3 hz
    obtain ⟨d1, d2, d3, d4⟩ := c3 hz
    have go := pu_Td_go fv
    refine ⟨own, pu_Td F, pu_Td F, 0, [], 0, 0, rs, pu_In.new H (fun q hq => i88 q (by omega)) i1 i72 i74 i75 q2 ⟨⟨go, go, rfl, rfl⟩, ⟨pu_V_eq (fun i hi => e2 _ (by omega)) b1, pu_V_eq (fun i hi => e2 _ (by omega)) b2⟩, ⟨d1, d2⟩, ?_, d4, by omega, fun i hi => absurd hi (Nat.not_lt_zero _)⟩ (by rw [e2 38 (by omega)]; exact b4) (by rw [e2 38 (by omega)]; exact b5) d3 tp2 (by rw [e18, q21]; exact H.fo) (by rw [e18, q22]; exact H.fx)⟩
    show I2 33 0 = nI 0
    rw [e2 33 (by omega)]; exact b3
  · obtain ⟨d1, d2⟩ := c4 hz
    refine ⟨own, A, T, nn, L, j, 0, rs, H.rd (fun q h1 h2 => ?_) q21 q22 (by rw [d2, e70 70 (by omega)]) tp2 (pu_RU_eq (fun q hq => i88 q (by omega)) (by rw [i1]) q2 i72 i74 i75 H.2.2.2.2.1)⟩
    by_cases h80 : q = 80
    · subst h80; rw [d1, e70 80 (by omega)]
    · rw [c5 q (by omega) (by omega) (by omega) h80]
      exact a4 hz q (by omega) (by omega)
end PUC2
