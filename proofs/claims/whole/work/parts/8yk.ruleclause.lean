/-! ===== The class reads a clause of a rule ===== -/
section PUK9
variable {s : List (Nat × Nat)} {R : Nat → Nat → Option Nat} {l : List (Nat × Nat × Nat)}
theorem pz_clause {I : Nat → Nat → Int32} {J : Nat → Nat → Int64} (hX : pu_X s R) (hg : pu_Tg l) (he : pu_En l) {y : pz_Y} (h : pz_RY I l y) (hk : pu_hk y.2.2.1 = 34) {i n : Nat} (hi : i < 12) :
    ∃ I', fl_rr_read_11 (n + 1) 15 (nI i) (s, I, J, R) = fj_rr_read_j57 (fl_rr_read_11 n) 15 (nI i) (s, I', J, R) ∧ pz_RY I' l (pz_kc y) ∧ pz_Rx 0 I I' := by
  obtain ⟨ru, n0, r, f⟩ := y
  obtain ⟨tx, rs, hf, al⟩ := h
  dsimp only at tx rs hf al hk
  have f0 : f = 0 := by
    rcases rs with ⟨x, _⟩ | ⟨_, x⟩
    · exact x
    · rw [x] at hk; exact absurd hk (by decide)
  obtain ⟨g1, g2, g3, g4, g5, g6⟩ := al f0
  have h401 := tx.2.1
  have k34 : I 2 1 = 34 := by rw [tx.kd, hk]; rfl
  obtain ⟨L, hL⟩ : ∃ x, l.length = x + 1 := ⟨l.length - 1, by
    have : r ≠ [] := fun x => by rw [x] at hk; exact absurd hk (by decide)
    have := List.length_pos_iff.mpr this
    omega⟩
  have hz0 : pz_RZ I l (pu_rl ru) (L + 1) ([], n0, r, f) := ⟨tx, rs, hf, fun _ => ⟨g1, g2, g3, trivial, by show pu_rl ru + 0 + r.length ≤ L + 1; omega⟩⟩
  obtain ⟨I1, a1, a2, a3, a4⟩ := pz_adv (J := J) hX he hz0 (by rw [hk]; decide)
  have hp := a2.p1 a4
  obtain ⟨e, rfl⟩ : ∃ x, L = x + 1 := ⟨L - 1, by omega⟩
  obtain ⟨I2, b1, b2, b3⟩ := pz_sum (J := J) hX hg he (by omega) a2
  have G0 := pz_G.rf (m := 400) a2.2.1 a2.dr (by have := (a2.2.2.2 a4).2.2.2.2; omega)
  have Gs := G0.su he (by omega)
  have hk2 := pu_hk_le b2.1 hg
  have hi12 : (nI i < (12 : Int32)) = (i < 12) := pu_ltI (b := 12) (by omega) (by omega)
  have hi12' : (nI i ≤ (12 : Int32)) = (i ≤ 12) := pu_leI (b := 12) (by omega) (by omega)
  have zz : pz_ad ([], n0, r, f) = ([], n0, r.tail, f) := rfl
  rw [zz] at a2 b2 G0 Gs hk2
  unfold pz_kc
  dsimp only
  generalize pz_su ([], n0, r.tail, f) = zs at *
  have e35 : (nI (pu_hk zs.2.2.1) = (35 : Int32)) = (pu_hk zs.2.2.1 = 35) := pu_eqI (b := 35) (by omega) (by omega)
  by_cases h35 : pu_hk zs.2.2.1 = 35
  · rw [if_pos h35]
    obtain ⟨I3, c1, c2, c3, c4⟩ := pz_adv (J := J) hX he b2 (by omega)
    have hp2 := c2.p1 c4
    obtain ⟨e, rfl⟩ : ∃ x, e = x + 1 := ⟨e - 1, by omega⟩
    obtain ⟨q1, q2, q3, q4, q5⟩ := c2.2.2.2 c4
    have hz1 : pz_RZ I3 l (pu_rl ru + zs.1.length) (e + 1) ([], zs.2.1, zs.2.2.1.tail, zs.2.2.2) := ⟨c2.1, c2.2.1, c2.2.2.1, fun _ => ⟨q1, q2, q3, trivial, q5⟩⟩
    obtain ⟨I4, d1, d2, d3⟩ := pz_test hX hg he (gh := fb_rr_readFactN 16) (pz_fact hX hg he 16 0 (by omega) (by omega)) I3 J _ e (by omega) hz1
    rw [show nI 0 = 0 from rfl] at d1
    have G1 := pz_G.rf (m := 400) hz1.2.1 hz1.dr (by have h5 : pu_rl ru + zs.1.length + zs.2.2.1.tail.length ≤ e + 1 := q5; show zs.2.2.1.tail.length ≤ 400; omega)
    have Gt := pz_G.te he (pz_G.fa he 16 0 (by omega) (by omega)) _ _ _ (by omega) G1
    generalize hz : pz_te (pz_fa 16 0) ([], zs.2.1, zs.2.2.1.tail, zs.2.2.2) = zt at *
    have er := pz_emit_raw (I := I4) (J := J) hX d2.1.2.2.1 d2.2.2.1 (fun x => ⟨(d2.2.2.2 x).1, d2.lt (by omega) x⟩) (-35)
    refine ⟨(if zt.2.2.2 = 0 then tb_up2 (tb_up2 I4 16 (pu_rl ru + zs.1.length + zt.1.length) (-35)) 15 2 (nI (pu_rl ru + zs.1.length + zt.1.length + 1)) else I4), ?_, ?_, ?_⟩
    rotate_left 1
    · by_cases ft : zt.2.2.2 = 0
      · rw [if_pos ft]
        obtain ⟨t1, t2, t3, t4, t5⟩ := d2.2.2.2 ft
        obtain ⟨_, _, cs, w1, w2, w3⟩ := Gs.2 c4
        obtain ⟨_, _, ct, v1, v2, v3⟩ := Gt.2 ft
        have w1 : zs.1 = cs := w1
        have v1 : zt.1 = ct := v1
        subst w1 v1
        have w3 : n0 + pu_nv zs.1 ≤ zs.2.1 := w3
        have v3 : zs.2.1 + pu_nv zt.1 ≤ zt.2.1 := v3
        have hl1 : pu_rl [(zs.1, some zt.1)] = zs.1.length + zt.1.length + 1 + 0 := rfl
        have lo : ∀ k, k < pu_rl ru → tb_up2 (tb_up2 I4 16 (pu_rl ru + zs.1.length + zt.1.length) (-35)) 15 2 (nI (pu_rl ru + zs.1.length + zt.1.length + 1)) 16 k = I 16 k := fun k hk => by
          rw [pu_u2p _ _ _ _ (by decide), pu_u2k _ _ _ _ (by omega), d3.2.2 k (by omega), c3.2.2 k hk, b3.2.2 k hk, a3.2.2 k hk]
        refine ⟨pz_TX_eq ?_ ?_ ?_ ?_ d2.1, d2.2.1, d2.2.2.1, fun _ => ⟨?_, ?_, t3, ?_, ?_, ?_⟩⟩
        · rw [pu_u2p _ _ _ _ (by decide), pu_u2p _ _ _ _ (by decide)]
        · rw [pu_u2p _ _ _ _ (by decide), pu_u2p _ _ _ _ (by decide)]
        · rw [pu_u2p _ _ _ _ (by decide), pu_u2p _ _ _ _ (by decide)]
        · rw [pu_u2p _ _ _ _ (by decide), pu_u2p _ _ _ _ (by decide)]
        · rw [pu_u2s]
          show _ = nI (pu_rl (ru ++ [(zs.1, some zt.1)]))
          rw [pz_rl_app, hl1]
          congr 1
          omega
        · rw [pu_u2k _ _ _ _ (by decide), pu_u2p _ _ _ _ (by decide)]; exact t2
        · refine pz_RC_app ru 0 (pz_RC_eq ru 0 (fun k _ h2 => lo k (by omega)) g4) ?_
          rw [Nat.zero_add]
          refine ⟨pz_cc_eq _ _ (fun k h1 h2 => ?_) q4, pz_cc_eq _ _ (fun k h1 h2 => ?_) t4, ?_, trivial⟩
          · rw [pu_u2p _ _ _ _ (by decide), pu_u2k _ _ _ _ (by have h2 : k < pu_rl ru + zs.1.length := h2; omega), d3.2.2 k h2]
          · rw [pu_u2p _ _ _ _ (by decide), pu_u2k _ _ _ _ (by omega)]
          · rw [pu_u2p _ _ _ _ (by decide), pu_u2s]
        · show pu_rl (ru ++ [(zs.1, some zt.1)]) + zt.2.2.1.length ≤ l.length
          rw [pz_rl_app, hl1]
          omega
        · exact pz_ok_app ru g6 ⟨by have := w2 []; rw [List.append_nil] at this; exact this, by have := v2 []; rw [List.append_nil] at this; exact this, by omega, trivial⟩
      · rw [if_neg ft]
        exact ⟨d2.1, d2.2.1, d2.2.2.1, fun x => absurd x ft⟩
    · have r4 : pz_Rx 0 I I4 := ⟨fun q x1 x2 x3 => by rw [d3.1 q x1 x2 x3, c3.1 q x1 x2 x3, b3.1 q x1 x2 x3, a3.1 q x1 x2 x3], fun k hk => by rw [d3.2.1 k hk, c3.2.1 k hk, b3.2.1 k hk, a3.2.1 k hk], fun k hk => absurd hk (Nat.not_lt_zero _)⟩
      split
      · exact ⟨fun q x1 x2 x3 => by rw [pu_u2p _ _ _ _ x2, pu_u2p _ _ _ _ x3]; exact r4.1 q x1 x2 x3, fun k hk => by rw [pu_u2p _ _ _ _ (by decide), pu_u2p _ _ _ _ (by decide)]; exact r4.2.1 k hk, fun k hk => absurd hk (Nat.not_lt_zero _)⟩
      · exact r4
    · rw [fl_rr_read_11.eq_2]
      simp only [hi12, hi12', hi, show i ≤ 12 by omega, ↓reduceIte, pu_gN (pu_c15 hX), pu_f15_0 hX, Option.bind_some, pu_gI (pu_c2 hX), k34, pu_on (pu_c2 hX), a1, pu_on (pu_c15 hX), b1, b2.kd, e35, if_pos h35, c1, fb_rr_readTest, d1, er]
  · rw [if_neg h35]
    have er := pz_emit_raw (I := I2) (J := J) hX b2.1.2.2.1 b2.2.2.1 (fun x => ⟨(b2.2.2.2 x).1, b2.lt (by omega) x⟩) (-34)
    refine ⟨(if zs.2.2.2 = 0 then tb_up2 (tb_up2 I2 16 (pu_rl ru + zs.1.length) (-34)) 15 2 (nI (pu_rl ru + zs.1.length + 1)) else I2), ?_, ?_, ?_⟩
    rotate_left 1
    · by_cases ft : zs.2.2.2 = 0
      · rw [if_pos ft]
        obtain ⟨t1, t2, t3, t4, t5⟩ := b2.2.2.2 ft
        obtain ⟨_, _, cs, w1, w2, w3⟩ := Gs.2 ft
        have w1 : zs.1 = cs := w1
        subst w1
        have w3 : n0 + pu_nv zs.1 ≤ zs.2.1 := w3
        have hl1 : pu_rl [(zs.1, (none : Option (List (Nat × Nat))))] = zs.1.length + 1 + 0 := rfl
        have lo : ∀ k, k < pu_rl ru → tb_up2 (tb_up2 I2 16 (pu_rl ru + zs.1.length) (-34)) 15 2 (nI (pu_rl ru + zs.1.length + 1)) 16 k = I 16 k := fun k hk => by
          rw [pu_u2p _ _ _ _ (by decide), pu_u2k _ _ _ _ (by omega), b3.2.2 k hk, a3.2.2 k hk]
        refine ⟨pz_TX_eq ?_ ?_ ?_ ?_ b2.1, b2.2.1, b2.2.2.1, fun _ => ⟨?_, ?_, t3, ?_, ?_, ?_⟩⟩
        · rw [pu_u2p _ _ _ _ (by decide), pu_u2p _ _ _ _ (by decide)]
        · rw [pu_u2p _ _ _ _ (by decide), pu_u2p _ _ _ _ (by decide)]
        · rw [pu_u2p _ _ _ _ (by decide), pu_u2p _ _ _ _ (by decide)]
        · rw [pu_u2p _ _ _ _ (by decide), pu_u2p _ _ _ _ (by decide)]
        · rw [pu_u2s]
          show _ = nI (pu_rl (ru ++ [(zs.1, none)]))
          rw [pz_rl_app, hl1]
          congr 1
        · rw [pu_u2k _ _ _ _ (by decide), pu_u2p _ _ _ _ (by decide)]; exact t2
        · refine pz_RC_app ru 0 (pz_RC_eq ru 0 (fun k _ h2 => lo k (by omega)) g4) ?_
          rw [Nat.zero_add]
          refine ⟨pz_cc_eq _ _ (fun k h1 h2 => ?_) t4, ?_, trivial⟩
          · rw [pu_u2p _ _ _ _ (by decide), pu_u2k _ _ _ _ (by omega)]
          · rw [pu_u2p _ _ _ _ (by decide), pu_u2s]
        · show pu_rl (ru ++ [(zs.1, none)]) + zs.2.2.1.length ≤ l.length
          rw [pz_rl_app, hl1]
          omega
        · exact pz_ok_app ru g6 ⟨by have := w2 []; rw [List.append_nil] at this; exact this, by omega, trivial⟩
      · rw [if_neg ft]
        exact ⟨b2.1, b2.2.1, b2.2.2.1, fun x => absurd x ft⟩
    · have r4 : pz_Rx 0 I I2 := ⟨fun q x1 x2 x3 => by rw [b3.1 q x1 x2 x3, a3.1 q x1 x2 x3], fun k hk => by rw [b3.2.1 k hk, a3.2.1 k hk], fun k hk => absurd hk (Nat.not_lt_zero _)⟩
      split
      · exact ⟨fun q x1 x2 x3 => by rw [pu_u2p _ _ _ _ x2, pu_u2p _ _ _ _ x3]; exact r4.1 q x1 x2 x3, fun k hk => by rw [pu_u2p _ _ _ _ (by decide), pu_u2p _ _ _ _ (by decide)]; exact r4.2.1 k hk, fun k hk => absurd hk (Nat.not_lt_zero _)⟩
      · exact r4
    · rw [fl_rr_read_11.eq_2]
      simp only [hi12, hi12', hi, show i ≤ 12 by omega, ↓reduceIte, pu_gN (pu_c15 hX), pu_f15_0 hX, Option.bind_some, pu_gI (pu_c2 hX), k34, pu_on (pu_c2 hX), a1, pu_on (pu_c15 hX), b1, b2.kd, e35, if_neg h35, er]
end PUK9
