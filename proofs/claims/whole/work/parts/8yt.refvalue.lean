/-! ===== The reference reads a value, whole ===== -/
section PUT9
variable {s : List (Nat × Nat)} {R : Nat → Nat → Option Nat} {b : Nat → Nat} {tl t B e : Nat}
theorem pz_MZ.mv {I I' : Nat → Nat → Int32} {c : List (Nat × Nat)} {n e' : Nat} {r r' : List (Nat × Nat × Nat)} (h : pz_MZ I b tl t B e (c, n, r, 0)) (o : pu_Of I I') (rs : pu_RS I' b tl r') (hl : B + c.length + r'.length ≤ e') : pz_MZ I' b tl t B e' (c, n, r', 0) := by
  obtain ⟨g1, g2, g3, g4, g5, g6, g7⟩ := h.1 rfl
  exact ⟨fun _ => ⟨rs, by rw [o.2 11 (by decide) (by decide) (by decide)]; exact g2, by rw [o.1 73 (by decide)]; exact g3, by rw [o.1 72 (by decide)]; exact g4, by rw [o.2 12 (by decide) (by decide) (by decide)]; exact g5, g6, hl⟩, fun x => absurd rfl x⟩
theorem pz_MZ.mk {I : Nat → Nat → Int32} {c : List (Nat × Nat)} {n : Nat} {r : List (Nat × Nat × Nat)} (h : pz_MZ I b tl t B e (c, n, r, 0)) (hn : n < 60) : pz_MZ (tb_up2 I 70 12 (nI (n + 1))) b tl t B e (c, n + 1, r, 0) := by
  obtain ⟨g1, g2, g3, g4, g5, g6, g7⟩ := h.1 rfl
  exact ⟨fun _ => ⟨pz_RS_eq (pu_u2p _ _ _ _ (by decide)) (pu_u2k _ _ _ _ (by decide)) (pu_u2k _ _ _ _ (by decide)) (pu_u2k _ _ _ _ (by decide)) g1, by rw [pu_u2k _ _ _ _ (by decide)]; exact g2, by rw [pu_u2p _ _ _ _ (by decide)]; exact g3, by rw [pu_u2p _ _ _ _ (by decide)]; exact g4, pu_u2s _ _ _ _, hn, g7⟩, fun x => absurd rfl x⟩
theorem pz_Mx.u12 {I : Nat → Nat → Int32} {v : Int32} : pz_Mx t B I (tb_up2 I 70 12 v) := ⟨fun q h1 _ _ => pu_u2p _ _ _ _ h1, fun k _ _ _ h4 => pu_u2k _ _ _ _ h4, fun k _ => by rw [pu_u2p _ _ _ _ (by decide)]⟩
theorem pz_Mx.u9 {I : Nat → Nat → Int32} {v : Int32} : pz_Mx t B I (tb_up2 I 70 9 v) := ⟨fun q h1 _ _ => pu_u2p _ _ _ _ h1, fun k _ h2 _ _ => pu_u2k _ _ _ _ h2, fun k _ => by rw [pu_u2p _ _ _ _ (by decide)]⟩
theorem pz_m_value {I : Nat → Nat → Int32} {J : Nat → Nat → Int64} (hM : pu_M s R) (ht : t < 6) (he : e ≤ 401) {c : List (Nat × Nat)} {n : Nat} {r : List (Nat × Nat × Nat)} (h : pz_MZ I b tl t B e (c, n, r, 0)) :
    ∃ I', fb_m_value 70 (s, I, J, R) = some (pu_b (decide ((pz_vl (c, n, r, 0)).2.2.2 = 0)), (s, I', J, R)) ∧ pz_MZ I' b tl t B e (pz_vl (c, n, r, 0)) ∧ pz_Mx t B I I' := by
  obtain ⟨⟨hb, h9, q, hq, e8, er⟩, g2, g3, g4, g5, g6, g7⟩ := h.1 rfl
  have er : r = pu_tt b tl q := er
  have g6 : n ≤ 60 := g6
  have g7 : B + c.length + r.length ≤ e := g7
  have h400 := hb.2.1
  obtain ⟨I1, a1, a2, a3⟩ := pu_m_see (J := J) hM hb hq e8
  have hs := pu_sp_le b hq
  have h32 : pu_sp b tl q < tl → b (pu_sp b tl q) ≠ 32 := fun hx => pu_sp_ne hq hx
  rw [pu_tt_sp b hq] at er
  generalize pu_sp b tl q = p at *
  have hb1 := hb.nf a3
  have h91 : I1 70 9 = 0 := by rw [a3.2 9 (by decide)]; exact h9
  have rs1 : pu_RS I1 b tl r := ⟨hb1, h91, p, hs.1, a2, er⟩
  have m1 : pz_MZ I1 b tl t B e (c, n, r, 0) := h.mv (pu_Of.nf a3) rs1 g7
  have x1 : pz_Mx t B I I1 := pz_Mx.nf a3
  have hdg := pz_dig hs.1 h32
  obtain ⟨t0, r1, et, tp, tw⟩ := pu_hd hs.1 h32
  have hg := pu_tt_ok b (p := p) h400
  rw [et] at hg
  have gt := hg t0 List.mem_cons_self
  have hk : pu_hk (pu_tt b tl p) = t0.1 := by rw [et]; rfl
  rw [hk] at hdg
  have rr : r = t0 :: r1 := er.trans et
  subst rr
  have g7 : B + c.length + (r1.length + 1) ≤ e := g7
  have ft : ∀ why, pu_ft (t0 :: r1) 0 why = 1 + 8 * p + why := fun why => by unfold pu_ft; rw [if_pos rfl]; dsimp only; rw [tp]
  have isd := pu_m_isDigit (J := J) hM hb1 (p := p) (by omega)
  rw [hdg] at isd
  have start : fb_m_value 70 (s, I, J, R) = if ¬ (t0.1 = 2 ∨ t0.1 = 3) then (fb_m_wordHere 70 (s, I1, J, R)).bind (fun x5 => (if x5.1 < 0 then (tb_on 22 70 x5.2 (fb_m_fails 70 0 (nI p) x5.2)).bind fun x6 => tb_z x6.1 x6.2 else (tb_on 22 70 x5.2 (fb_m_makes 70 (nI p) x5.2)).bind fun x7 => (if x7.1 = 0 then some (0, x7.2) else (tb_on 22 70 x7.2 (fb_m_passWord 70 x7.2)).bind fun x8 => (tb_on 22 70 x8 (fb_m_puts 70 1 x5.1 x8)).bind fun x9 => some (1, x9)))) else (fb_m_numberHere 70 0 99999 (s, I1, J, R)).bind fun x10 => (if x10.1 = 0 then some (0, x10.2) else (tb_on 22 70 x10.2 (fb_m_makes 70 (nI p) x10.2)).bind fun x11 => (if x11.1 = 0 then some (0, x11.2) else (tb_gI 22 10 70 x11.2).bind fun x12 => (tb_on 22 70 x11.2 (fb_m_puts 70 0 x12 x11.2)).bind fun x13 => some (1, x13))) := by
    unfold fb_m_value
    simp only [pu_on (pu_m70 hM), a1, Option.bind_some, pu_gI (pu_m70 hM), a2, isd, pu_b0, decide_eq_false_iff_not]
  rw [start]
  have dead : ∀ (why : Nat) (I' : Nat → Nat → Int32), True → (pz_vl (c, n, t0 :: r1, 0)).2.2.2 = 1 + 8 * p + why → I' 70 9 = nI (1 + 8 * p + why) → pz_MZ I' b tl t B e (pz_vl (c, n, t0 :: r1, 0)) ∧ decide ((pz_vl (c, n, t0 :: r1, 0)).2.2.2 = 0) = false := by
    intro why I' _ ef e9
    exact ⟨⟨fun x => by omega, fun _ => by rw [ef]; exact e9⟩, decide_eq_false (by omega)⟩
  by_cases hv : t0.1 = 2 ∨ (20 ≤ t0.1 ∧ t0.1 ≤ 31)
  · have ev : pz_vl (c, n, t0 :: r1, 0) = pz_tp (c ++ [((pz_st t0).1, (pz_st t0).2)], n, t0 :: r1, 0) := by
      unfold pz_vl
      dsimp only
      rw [if_pos hv]
      rfl
    have ev60 : n < 60 → pz_vl (c, n, t0 :: r1, 0) = (c ++ [((pz_st t0).1, (pz_st t0).2)], n + 1, r1, 0) := fun hn => by
      rw [ev]; unfold pz_tp; rw [if_pos hn]; rfl
    have evf : ¬ n < 60 → (pz_vl (c, n, t0 :: r1, 0)).2.2.2 = 1 + 8 * p + 3 := fun hn => by
      rw [ev]; unfold pz_tp; rw [if_neg hn]; exact ft 3
    by_cases t2 : t0.1 = 2
    · rw [if_neg (by simp only [t2, true_or, not_true, not_false_eq_true])]
      have es : pz_st t0 = (0, t0.2.2) := by unfold pz_st; rw [if_pos t2]
      obtain ⟨I2, b1, b2, b3, b4⟩ := pu_m_number (J := J) (lo := 0) (hi := 100000) (a2 := 99999) hM rs1 (by omega) (by omega) (by omega) rfl
      rw [show nI 0 = 0 from rfl] at b1
      have ern : pu_rn 0 100000 (t0 :: r1) 0 = (t0.2.2, r1, 0) := by
        show (if _ then _ else _) = _
        rw [if_pos ⟨t2, Nat.zero_le _, by omega⟩]
      rw [ern] at b1 b3
      obtain ⟨rs2, e10⟩ := b3 rfl
      have e10 : I2 70 10 = nI t0.2.2 := e10
      have rs2 : pu_RS I2 b tl r1 := rs2
      have rl : 1 ≤ r1.length := by
        obtain ⟨_, _, q2, _, _, y⟩ := rs2
        rw [y]; exact List.length_pos_iff.mpr (pu_tt_ne b tl q2)
      obtain ⟨e, rfl⟩ : ∃ x, e = x + 1 := ⟨e - 1, by omega⟩
      have m2 : pz_MZ I2 b tl t B e (c, n, r1, 0) := m1.mv b2 rs2 (by omega)
      obtain ⟨k1, k2, k3, k4, k5, k6, k7⟩ := m2.1 rfl
      have hmk := pz_makes (J := J) (p := p) hM k5 g6 rs2.2.1
      simp only [b1, Option.bind_some, decide_true, pu_bt, show ¬ ((1 : Int32) = 0) by decide, ↓reduceIte, pu_on (pu_m70 hM), hmk]
      by_cases hn : n < 60
      · obtain ⟨I4, d1, d2, d3⟩ := pz_m_put (J := J) hM ht (m2.mk hn) (by omega) (k := 0) (v := t0.2.2) (x := 0) rfl rfl (by omega) gt.2.2 (fun x => by omega)
        have e10' : tb_up2 I2 70 12 (nI (n + 1)) 70 10 = nI t0.2.2 := by rw [pu_u2k _ _ _ _ (by decide)]; exact e10
        rw [ev60 hn, es]
        refine ⟨I4, ?_, d2, ((x1.tr (pz_Mx.of b2)).tr pz_Mx.u12).tr d3⟩
        simp only [hn, ↓reduceIte, Option.bind_some, show ¬ ((1 : Int32) = 0) by decide, pu_gI (pu_m70 hM), e10', d1, decide_true, pu_bt, pu_on (pu_m70 hM)]
      · obtain ⟨dd, de⟩ := dead 3 (tb_up2 I2 70 9 (nI (1 + 8 * p + 3))) trivial (evf hn) (pu_u2s _ _ _ _)
        refine ⟨tb_up2 I2 70 9 (nI (1 + 8 * p + 3)), ?_, dd, (x1.tr (pz_Mx.of b2)).tr pz_Mx.u9⟩
        rw [de]
        simp only [hn, ↓reduceIte, Option.bind_some, pu_bf]
    · have hw : 20 ≤ t0.1 ∧ t0.1 ≤ 31 := by omega
      rw [if_pos (by omega)]
      have es : pz_st t0 = (1, t0.1 - 20) := by unfold pz_st; rw [if_neg t2]
      obtain ⟨I2, b1, b2, b3⟩ := pz_m_wordHere (J := J) hM hb1 hs.1 h32 a2
      rw [hk, if_pos hw] at b1
      have h92 : I2 70 9 = 0 := by rw [b3.2 9 (by decide)]; exact h91
      have k5 : I2 70 12 = nI n := by rw [b3.2 12 (by decide), a3.2 12 (by decide)]; exact g5
      have hmk := pz_makes (J := J) (p := p) hM k5 g6 h92
      simp only [b1, Option.bind_some, pu_lt0 (show t0.1 - 20 < 2147483648 by omega), ↓reduceIte, pu_on (pu_m70 hM), hmk]
      by_cases hn : n < 60
      · have n3 : pu_Nf I1 I2 := b3
        obtain ⟨plt, rr⟩ := tw (by omega)
        have m2 : pz_MZ I2 b tl t B e (c, n, t0 :: r1, 0) := m1.mv (pu_Of.nf b3) ⟨hb1.nf b3, h92, p, hs.1, b2, er⟩ g7
        have m3 := m2.mk hn
        obtain ⟨⟨hb3, h93, _⟩, _⟩ := m3.1 rfl
        obtain ⟨I4, c1, c2, c3⟩ := pu_m_pass (J := J) hM hb3 h93 hs.1 (by rw [pu_u2k _ _ _ _ (by decide)]; exact b2)
        rw [← rr] at c3
        have rl : 1 ≤ r1.length := by rw [rr]; exact List.length_pos_iff.mpr (pu_tt_ne b tl _)
        obtain ⟨e, rfl⟩ : ∃ x, e = x + 1 := ⟨e - 1, by omega⟩
        have m4 : pz_MZ I4 b tl t B e (c, n + 1, r1, 0) := m3.mv (pu_Of.nf c2) c3 (by omega)
        obtain ⟨I5, d1, d2, d3⟩ := pz_m_put (J := J) hM ht m4 (by omega) (k := 1) (v := t0.1 - 20) (x := 1) rfl rfl (by omega) (by omega) (fun x => by omega)
        rw [ev60 hn, es]
        refine ⟨I5, ?_, d2, (((x1.tr (pz_Mx.nf b3)).tr pz_Mx.u12).tr (pz_Mx.nf c2)).tr d3⟩
        simp only [hn, ↓reduceIte, Option.bind_some, show ¬ ((1 : Int32) = 0) by decide, c1, d1, decide_true, pu_bt, pu_on (pu_m70 hM)]
      · obtain ⟨dd, de⟩ := dead 3 (tb_up2 I2 70 9 (nI (1 + 8 * p + 3))) trivial (evf hn) (pu_u2s _ _ _ _)
        refine ⟨tb_up2 I2 70 9 (nI (1 + 8 * p + 3)), ?_, dd, (x1.tr (pz_Mx.nf b3)).tr pz_Mx.u9⟩
        rw [de]
        simp only [hn, ↓reduceIte, Option.bind_some, pu_bf]
  · have ev : ∀ w, (if t0.1 = 3 then 1 else 0) = w → (pz_vl (c, n, t0 :: r1, 0)).2.2.2 = 1 + 8 * p + w := fun w hw => by
      unfold pz_vl
      dsimp only
      rw [if_neg hv, hw]
      exact ft w
    by_cases t3 : t0.1 = 3
    · rw [if_neg (by simp only [t3, or_true, not_true, not_false_eq_true])]
      obtain ⟨I2, b1, b2, b3, b4⟩ := pu_m_number (J := J) (lo := 0) (hi := 100000) (a2 := 99999) hM rs1 (by omega) (by omega) (by omega) rfl
      rw [show nI 0 = 0 from rfl] at b1
      have ern : (pu_rn 0 100000 (t0 :: r1) 0).2.2 = 1 + 8 * p + 1 := by
        show (if _ then _ else _ : Nat × List (Nat × Nat × Nat) × Nat).2.2 = _
        rw [if_neg (fun x => by omega), if_pos (Or.inr t3)]
        exact ft 1
      obtain ⟨dd, de⟩ := dead 1 I2 trivial (ev 1 (by rw [if_pos t3])) (by rw [b4 (by omega), ern])
      refine ⟨I2, ?_, dd, x1.tr (pz_Mx.of b2)⟩
      rw [de, b1, ern, decide_eq_false (by omega)]
      rfl
    · rw [if_pos (by omega)]
      obtain ⟨I2, b1, b2, b3⟩ := pz_m_wordHere (J := J) hM hb1 hs.1 h32 a2
      rw [hk, if_neg (by omega)] at b1
      have h92 : I2 70 9 = 0 := by rw [b3.2 9 (by decide)]; exact h91
      have hf := pu_m_fails (J := J) hM h92 0 p
      rw [show nI 0 = 0 from rfl] at hf
      obtain ⟨dd, de⟩ := dead 0 (tb_up2 I2 70 9 (nI (1 + 8 * p + 0))) trivial (ev 0 (by rw [if_neg t3])) (pu_u2s _ _ _ _)
      refine ⟨tb_up2 I2 70 9 (nI (1 + 8 * p + 0)), ?_, dd, (x1.tr (pz_Mx.nf b3)).tr pz_Mx.u9⟩
      rw [de]
      simp only [b1, Option.bind_some, show ((-1 : Int32) < 0) by decide, ↓reduceIte, pu_on (pu_m70 hM), hf]
      rfl
end PUT9
