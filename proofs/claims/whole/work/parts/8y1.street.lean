/-! ===== The class: street() ===== -/
/-- clauses c and on, d at most -/
def pu_rd : Nat → Nat → pu_A → List (Nat × Nat × Nat) → Nat → pu_A × List (Nat × Nat × Nat) × Nat
  | 0, _, F, r, f => (F, r, f)
  | d + 1, c, F, r, f => if pu_hk (pu_cla c F r f).2.1 = 4 then pu_rd d (c + 1) (pu_cla c F r f).1 (pu_cla c F r f).2.1.tail (pu_cla c F r f).2.2 else pu_cla c F r f
theorem pu_rd_s (d c : Nat) (F : pu_A) (r : List (Nat × Nat × Nat)) (f : Nat) : pu_rd (d + 1) c F r f = if pu_hk (pu_cla c F r f).2.1 = 4 then pu_rd d (c + 1) (pu_cla c F r f).1 (pu_cla c F r f).2.1.tail (pu_cla c F r f).2.2 else pu_cla c F r f := rfl
theorem pu_cla_40 (F : pu_A) (r : List (Nat × Nat × Nat)) (f : Nat) : (pu_cla 40 F r f).2.1 = [] := by
  unfold pu_cla
  cases r with
  | nil => rfl
  | cons t r =>
    dsimp only
    split
    · rfl
    · rw [if_pos (Or.inr (Or.inr (Nat.le_refl _)))]
/-- what is wrong at last: something behind the clauses -/
def pu_fin (r : List (Nat × Nat × Nat)) (f : Nat) : Nat := if pu_hk r = 0 then f else pu_ft r f 0
/-- the street that was told: all stand -/
def pu_Td (F : pu_A) : pu_A := pu_t2 F (F.2 0) (fun h => decide (h < 2 * F.1 0 0))
theorem pu_Td_go {F : pu_A} (h : pu_Fv F) : pu_Go (pu_Td F) := by
  obtain ⟨⟨w1, w2, w3, w4, w5, w6, w7, w8⟩, y, u, st, bd⟩ := h
  refine ⟨⟨w1, w2, w3, w4, w5, w6, w7, fun k hk => of_decide_eq_true hk⟩, fun k hk => ?_, bd, by show F.1 0 2 ≤ 999; omega⟩
  have hk : F.2 0 k = true := hk
  have := w6 k (w7 k hk)
  exact ⟨decide_eq_true (show F.1 3 k < 2 * F.1 0 0 by omega), decide_eq_true (show F.1 4 k < 2 * F.1 0 0 by omega)⟩
section PUY2
variable {s : List (Nat × Nat)} {R : Nat → Nat → Option Nat} {l r : List (Nat × Nat × Nat)} {f : Nat} {F : pu_A}
theorem pu_sr_read_l (hX : pu_X s R) (hg : pu_Tg l) (he : pu_En l) : ∀ d c n (I : Nat → Nat → Int32) (J : Nat → Nat → Int64) F r f, c + d = 40 → d < n → pu_V I 8 F → pu_Fv F → pu_TX I l r f → pu_Rs r f → f < 10000 → (c = 0 → F.1 0 3 = 0) →
    ∃ I', fl_sr_read_8 n 7 (nI c) (s, I, J, R) = some (.inl (7, (s, I', J, R))) ∧ pu_V I' 8 (pu_rd (d + 1) c F r f).1 ∧ pu_Fv (pu_rd (d + 1) c F r f).1 ∧ pu_TX I' l (pu_rd (d + 1) c F r f).2.1 (pu_rd (d + 1) c F r f).2.2 ∧ pu_Rs (pu_rd (d + 1) c F r f).2.1 (pu_rd (d + 1) c F r f).2.2 ∧ (pu_rd (d + 1) c F r f).2.2 < 10000 ∧ pu_Yx I I' := by
  intro d
  induction d with
  | zero =>
    intro c n I J F r f hc hn v fv h hs hf h0
    obtain ⟨n, rfl⟩ : ∃ z, n = z + 1 := ⟨n - 1, by omega⟩
    have hc40 : nI c ≤ (40 : Int32) := by rw [show (40 : Int32) = nI 40 from rfl, pu_leI (by omega) (by omega)]; omega
    obtain ⟨I1, a1, a2, a3, a4, a5, a6, a7⟩ := pu_sr_clause (J := J) (c := c) hX v fv h hs hg he hf (by omega) h0
    have e := pu_cla_40 F r f
    rw [show (40 : Nat) = c by omega] at e
    have hk : pu_hk (pu_cla c F r f).2.1 = 0 := by rw [e]; rfl
    rw [pu_rd_s, if_neg (by omega)]
    refine ⟨I1, ?_, a2, a3, a4, a5, a6, a7⟩
    rw [fl_sr_read_8.eq_2]
    simp only [hc40, ↓reduceIte, pu_on (pu_c7 hX), a1, Option.bind_some, pu_gN (pu_c7 hX), pu_f7_1 hX, pu_gI (pu_c2 hX), a4.kd, hk, show ¬ (nI 0 = (4 : Int32)) by decide]
  | succ d ih =>
    intro c n I J F r f hc hn v fv h hs hf h0
    obtain ⟨n, rfl⟩ : ∃ z, n = z + 1 := ⟨n - 1, by omega⟩
    have hc40 : nI c ≤ (40 : Int32) := by rw [show (40 : Int32) = nI 40 from rfl, pu_leI (by omega) (by omega)]; omega
    obtain ⟨I1, a1, a2, a3, a4, a5, a6, a7⟩ := pu_sr_clause (J := J) (c := c) hX v fv h hs hg he hf (by omega) h0
    have hk38 := pu_hk_le a4 hg
    have e4 : (nI (pu_hk (pu_cla c F r f).2.1) = (4 : Int32)) = (pu_hk (pu_cla c F r f).2.1 = 4) := pu_eqI (b := 4) (by omega) (by omega)
    rw [fl_sr_read_8.eq_2, pu_rd_s]
    simp only [hc40, ↓reduceIte, pu_on (pu_c7 hX), a1, Option.bind_some, pu_gN (pu_c7 hX), pu_f7_1 hX, pu_gI (pu_c2 hX), a4.kd, e4, pu_on (pu_c2 hX)]
    by_cases hk : pu_hk (pu_cla c F r f).2.1 = 4
    · rw [if_pos hk, if_pos hk]
      generalize pu_cla c F r f = x at *
      obtain ⟨F1, r1, f1⟩ := x
      dsimp only at *
      obtain ⟨t, r2, rfl⟩ : ∃ t r2, r1 = t :: r2 := by
        cases r1 with
        | nil => exact absurd hk (by decide)
        | cons t r2 => exact ⟨t, r2, rfl⟩
      obtain ⟨I2, b1, b2, b3⟩ := pu_t_adv (J := J) hX a4
      have hs2 : pu_Rs r2 f1 := by
        obtain ⟨i, _, _, h6⟩ := a4.2.2.2.1
        rcases a5 with ⟨x, _⟩ | ⟨_, x⟩
        · exact Or.inl ⟨x, he t r2 ⟨i, h6.symm⟩ (by have : t.1 = 4 := hk; omega)⟩
        · cases x
      rw [b1, Option.bind_some, ← nI_succ]
      obtain ⟨I3, c1, c2, c3, c4, c5, c6, c7⟩ := ih (c + 1) n I2 J F1 r2 f1 (by omega) (by omega) (pu_V8_xf b3 a2) a3 b2 hs2 a6 (by omega)
      exact ⟨I3, c1, c2, c3, c4, c5, c6, (a7.tr (pu_Yx.xf b3)).tr c7⟩
    · rw [if_neg hk, if_neg hk]
      exact ⟨I1, rfl, a2, a3, a4, a5, a6, a7⟩
theorem pu_t_begin {I : Nat → Nat → Int32} {J : Nat → Nat → Int64} {b : Nat → Nat} {tl : Nat} (hX : pu_X s R) (h : pu_TB I b tl) : ∃ I', fb_t_begin 2 (s, I, J, R) = some (s, I', J, R) ∧ pu_TX I' (pu_tt b tl 0) (pu_tt b tl 0) 0 ∧ (∀ q, q ≠ 2 → (q < 4 ∨ 6 < q) → I' q = I q) ∧ (∀ k, k = 0 ∨ (4 ≤ k ∧ k ≤ 7) → I' 2 k = I 2 k) := by
  have h400 := h.2.1
  have hb0 : pu_TB (tb_up2 I 2 8 0) b tl := ⟨by rw [pu_u2k _ _ _ _ (by decide)]; exact h.1, h400, fun k hk => by rw [pu_u2p _ _ _ _ (by decide)]; exact h.2.2 k hk⟩
  obtain ⟨I1, a1, a2, a3, a4, a5⟩ := pu_t_begin_l (b := b) (tl := tl) hX tl 0 0 1048576 (tb_up2 I 2 8 0) J [] (by omega) (by omega) (by omega) hb0 ⟨pu_u2s _ _ _ _, fun i t ht => by cases ht⟩ (Nat.le_refl _)
  rw [List.nil_append] at a2 a3
  rw [show nI 0 = 0 from rfl] at a1
  have e0 : I1 2 0 = nI tl := by rw [a5 0 (by decide), pu_u2k _ _ _ _ (by decide)]; exact h.1
  obtain ⟨I2, b1, b2, b3, b4⟩ := pu_t_addToken (J := J) hX a2 a3 (0, tl, 0)
  have b1 : fb_t_addToken 2 0 (nI tl) 0 (s, I1, J, R) = some (s, I2, J, R) := b1
  have hl : (pu_tt b tl 0).length ≤ 401 := by unfold pu_tt; rw [List.length_append]; show _ + 1 ≤ 401; omega
  have k2 : pu_TK (tb_up2 (tb_up2 I2 2 3 0) 2 9 (-1)) (pu_tt b tl 0) := by
    obtain ⟨x1, x2⟩ := b2
    refine ⟨by rw [pu_u2k _ _ _ _ (by decide), pu_u2k _ _ _ _ (by decide)]; exact x1, fun i t ht => ?_⟩
    rw [pu_u2p _ _ _ _ (show (4 : Nat) ≠ 2 by decide), pu_u2p _ _ _ _ (show (4 : Nat) ≠ 2 by decide), pu_u2p _ _ _ _ (show (5 : Nat) ≠ 2 by decide), pu_u2p _ _ _ _ (show (5 : Nat) ≠ 2 by decide), pu_u2p _ _ _ _ (show (6 : Nat) ≠ 2 by decide), pu_u2p _ _ _ _ (show (6 : Nat) ≠ 2 by decide)]
    exact x2 i t ht
  obtain ⟨I3, c1, c2, c3, c4⟩ := pu_t_advance (J := J) (i := 0) (a := -1) hX k2 hl (pu_u2s _ _ _ _) (by decide) (by omega)
  have c5 := c2 0 (by rw [pu_u2k _ _ _ _ (by decide), pu_u2s]; rfl)
  rw [List.drop_zero] at c5
  refine ⟨I3, ?_, c5, fun q h1 h2 => by rw [c3 q h1, pu_u2p _ _ _ _ h1, pu_u2p _ _ _ _ h1, b3 q h1 h2, a4 q h1 h2, pu_u2p _ _ _ _ h1], fun k hk => by rw [c4 k (by omega) (by omega) (by omega), pu_u2k _ _ _ _ (by omega), pu_u2k _ _ _ _ (by omega), b4 k (by omega), a5 k (by omega), pu_u2k _ _ _ _ (by omega)]⟩
  unfold fb_t_begin
  simp only [pu_pI (pu_c2 hX), Option.bind_some, a1, pu_gI (pu_c2 hX), e0, pu_on (pu_c2 hX), b1, c1]
theorem pu_s_clear8 {I : Nat → Nat → Int32} {J : Nat → Nat → Int64} (hX : pu_X s R) : ∃ I', fb_s_clear 8 (s, I, J, R) = some (s, I', J, R) ∧ pu_V I' 8 pu_A0 ∧ pu_Fr 8 I I' := by
  obtain ⟨I1, a1, a2, a3⟩ := pu_fill (J := J) (R := R) (I := tb_up2 (tb_up2 (tb_up2 (tb_up2 (tb_up2 (tb_up2 I 8 0 0) 8 1 0) 8 2 0) 8 3 0) 8 4 0) 8 5 0) (pu_c9 hX) (by omega) 0
  obtain ⟨I2, b1, b2, b3⟩ := pu_fill (J := J) (R := R) (I := I1) (pu_c10 hX) (by omega) 0
  have e8 : ∀ k, k < 6 → I2 8 k = 0 := by
    intro k hk
    rw [b3 8 (by decide), a3 8 (by decide)]
    have : k = 0 ∨ k = 1 ∨ k = 2 ∨ k = 3 ∨ k = 4 ∨ k = 5 := by omega
    rcases this with h | h | h | h | h | h <;> subst h <;> simp (disch := omega) only [pu_u2k, pu_u2s]
  refine ⟨I2, ?_, ⟨⟨e8 0 (by omega), e8 1 (by omega), e8 2 (by omega), e8 3 (by omega), by rw [e8 4 (by omega)]; exact (pu_mk_f 8).symm, by rw [e8 5 (by omega)]; exact (pu_mk_f 10).symm⟩, fun k hk => ⟨?_, ?_⟩, fun k hk => absurd hk (Nat.not_lt_zero _)⟩, fun q hq => ?_⟩
  · unfold fb_s_clear
    simp only [pu_pI (pu_c8 hX), Option.bind_some, pu_gN (pu_c8 hX), pu_f8_6 hX, pu_f8_7 hX, a1, b1]
  · rw [show (8 + 1 : Nat) = 9 from rfl, b3 9 (by decide), a2, if_pos hk]; rfl
  · rw [show (8 + 2 : Nat) = 10 from rfl, b2, if_pos hk]; rfl
  · rw [b3 q (by omega), a3 q (by omega)]
    simp (disch := omega) only [pu_u2p]
theorem pu_A0_fv : pu_Fv pu_A0 := ⟨pu_A0_go.1, rfl, fun l => (decide_eq_false (Nat.not_lt_zero _)).symm, fun _ => rfl, fun k => ⟨by show 0 ≤ 60; omega, by show 0 ≤ 60; omega, by show 0 ≤ 60; omega⟩⟩
/-- what reading at all changes -/
def pu_Zx (I I' : Nat → Nat → Int32) : Prop := (∀ q, q ≠ 2 → (q < 4 ∨ (6 < q ∧ q < 8) ∨ 15 ≤ q) → I' q = I q) ∧ I' 2 0 = I 2 0
theorem pu_sr_read {I : Nat → Nat → Int32} {J : Nat → Nat → Int64} {b : Nat → Nat} {tl : Nat} (hX : pu_X s R) (h : pu_TB I b tl) :
    ∃ I', fb_sr_read 7 (s, I, J, R) = some (nI (pu_fin (pu_rd 41 0 pu_A0 (pu_tt b tl 0) 0).2.1 (pu_rd 41 0 pu_A0 (pu_tt b tl 0) 0).2.2), (s, I', J, R)) ∧ pu_V I' 8 (pu_Td (pu_rd 41 0 pu_A0 (pu_tt b tl 0) 0).1) ∧ pu_Fv (pu_rd 41 0 pu_A0 (pu_tt b tl 0) 0).1 ∧ pu_fin (pu_rd 41 0 pu_A0 (pu_tt b tl 0) 0).2.1 (pu_rd 41 0 pu_A0 (pu_tt b tl 0) 0).2.2 < 10000 ∧ pu_Zx I I' := by
  have h400 := h.2.1
  have hg := pu_tt_ok b (p := 0) h400
  have he := pu_tt_en b tl 0
  obtain ⟨I1, a1, a2, a3⟩ := pu_s_clear8 (I := I) (J := J) hX
  have hb1 : pu_TB I1 b tl := ⟨by rw [a3 2 (by omega)]; exact h.1, h400, fun k hk => by rw [a3 3 (by omega)]; exact h.2.2 k hk⟩
  obtain ⟨I2, b1, b2, b3, b4⟩ := pu_t_begin (J := J) hX hb1
  have v2 : pu_V I2 8 pu_A0 := pu_V_eq (fun i hi => b3 _ (by omega) (by omega)) a2
  obtain ⟨I3, c1, c2, c3, c4, c5, c6, c7⟩ := pu_sr_read_l hX hg he 40 0 1048576 I2 J pu_A0 (pu_tt b tl 0) 0 (by omega) (by omega) v2 pu_A0_fv b2 (Or.inl ⟨rfl, by unfold pu_tt; exact fun hx => by have := List.append_eq_nil_iff.mp hx; cases this.2⟩) (by omega) (fun _ => rfl)
  rw [show nI 0 = 0 from rfl] at c1
  have fr3 : ∀ q, q ≠ 2 → (q < 4 ∨ (6 < q ∧ q < 8) ∨ 15 ≤ q) → I3 q = I q := fun q h1 h2 => by rw [c7.1 q h1 (by omega), b3 q h1 (by omega), a3 q (by omega)]
  have e20 : I3 2 0 = I 2 0 := by rw [c7.2 0 (by omega), b4 0 (by omega), a3 2 (by omega)]
  generalize hx : pu_rd 41 0 pu_A0 (pu_tt b tl 0) 0 = x at *
  have e0 : (nI (pu_hk x.2.1) = (0 : Int32)) = (pu_hk x.2.1 = 0) := pu_eqI (b := 0) (by have := pu_hk_le c4 hg; omega) (by omega)
  have rs : ∀ (I4 : Nat → Nat → Int32), pu_V I4 8 x.1 → fb_s_raise 8 (s, I4, J, R) = some (s, tb_up2 I4 8 5 (pu_mk (fun k => decide (k < 2 * x.1.1 0 0)) 10), J, R) ∧ pu_V (tb_up2 I4 8 5 (pu_mk (fun k => decide (k < 2 * x.1.1 0 0)) 10)) 8 (pu_Td x.1) := fun I4 v4 => ⟨pu_s_raise (pu_st8 hX) v4 c3.1, pu_V_st v4 _⟩
  by_cases hk : pu_hk x.2.1 = 0
  · have ef : pu_fin x.2.1 x.2.2 = x.2.2 := by unfold pu_fin; rw [if_pos hk]
    obtain ⟨r1, r2⟩ := rs I3 c2
    rw [ef]
    refine ⟨tb_up2 I3 8 5 (pu_mk (fun k => decide (k < 2 * x.1.1 0 0)) 10), ?_, r2, c3, c6, fun q h1 h2 => by rw [pu_u2p _ _ _ _ (by omega)]; exact fr3 q h1 h2, by rw [pu_u2p _ _ _ _ (by decide)]; exact e20⟩
    have e3 : tb_up2 I3 8 5 (pu_mk (fun k => decide (k < 2 * x.1.1 0 0)) 10) 2 3 = nI x.2.2 := by rw [pu_u2p _ _ _ _ (by decide)]; exact c4.2.2.1
    unfold fb_sr_read
    simp only [pu_gN (pu_c7 hX), pu_f7_0 hX, pu_f7_1 hX, Option.bind_some, pu_on (pu_c8 hX), a1, pu_on (pu_c2 hX), b1, c1, fj_sr_read_j25, pu_gI (pu_c2 hX), c4.kd, e0, hk, ↓reduceIte, r1, e3, show nI 0 = 0 from rfl]
  · have ef : pu_fin x.2.1 x.2.2 = pu_ft x.2.1 x.2.2 0 := by unfold pu_fin; rw [if_neg hk]
    obtain ⟨I4, d1, d2, d3, d4, d5⟩ := pu_t_fail (J := J) (why := 0) hX c4 c5 hg c6 (by omega)
    rw [show nI 0 = 0 from rfl] at d1
    obtain ⟨r1, r2⟩ := rs I4 (pu_V8_xf d5 c2)
    rw [ef]
    refine ⟨tb_up2 I4 8 5 (pu_mk (fun k => decide (k < 2 * x.1.1 0 0)) 10), ?_, r2, c3, d4, fun q h1 h2 => by rw [pu_u2p _ _ _ _ (by omega), d5.1 q h1]; exact fr3 q h1 h2, by rw [pu_u2p _ _ _ _ (by decide), d5.2 0 (by omega)]; exact e20⟩
    have e3 : tb_up2 I4 8 5 (pu_mk (fun k => decide (k < 2 * x.1.1 0 0)) 10) 2 3 = nI (pu_ft x.2.1 x.2.2 0) := by rw [pu_u2p _ _ _ _ (by decide)]; exact d2.2.2.1
    unfold fb_sr_read
    simp only [pu_gN (pu_c7 hX), pu_f7_0 hX, pu_f7_1 hX, Option.bind_some, pu_on (pu_c8 hX), a1, pu_on (pu_c2 hX), b1, c1, fj_sr_read_j25, pu_gI (pu_c2 hX), c4.kd, e0, hk, ↓reduceIte, d1, r1, e3]
end PUY2
