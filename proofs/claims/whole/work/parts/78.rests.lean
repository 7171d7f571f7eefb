/-! ===== rests of the class ===== -/
def pu_rs (G H : Nat → Nat) (w : Nat) : Bool := decide (G (w ^^^ 2) ≤ G w) && decide (H (w ^^^ 1) ≤ H w)
def pu_rf (G H : Nat → Nat) : Nat → Nat → pu_N3 → pu_N3
  | 0, _, st => st
  | d + 1, i, st => pu_rf G H d (i + 1) (if pu_rs G H i then (st.1 + 1, if st.1 = 0 then nI (i / 2) else st.2.1, if st.1 = 0 then nI (i % 2) else st.2.2) else st)
def pu_a_rests (ro : Option pu_Ru) (A : pu_A) (a b c d : Int32) : Int32 := if a = b then -1 else if pu_hs A a = false then -1 else if pu_hs A b = false then -1 else if pu_wi c 1 20 = false then -1 else if pu_wi d 0 2 = false then -1 else
  if d = 0 then nI (pu_rf (pu_g0 ro A a.toNatClampNeg b.toNatClampNeg c.toNatClampNeg) (pu_g1 ro A a.toNatClampNeg b.toNatClampNeg c.toNatClampNeg) 4 0 (0, -2, -2)).1
  else if d = 1 then (pu_rf (pu_g0 ro A a.toNatClampNeg b.toNatClampNeg c.toNatClampNeg) (pu_g1 ro A a.toNatClampNeg b.toNatClampNeg c.toNatClampNeg) 4 0 (0, -2, -2)).2.1
  else (pu_rf (pu_g0 ro A a.toNatClampNeg b.toNatClampNeg c.toNatClampNeg) (pu_g1 ro A a.toNatClampNeg b.toNatClampNeg c.toNatClampNeg) 4 0 (0, -2, -2)).2.2
theorem pu_rg_0 {ro : Option pu_Ru} {o e : Nat} (n : Nat) : ∀ {B : pu_A} {a b : Nat}, (pu_rg ro o e n B a b).2.2.1 0 0 = B.1 0 0 := by
  induction n with
  | zero => intro B a b; rfl
  | succ n ih =>
    intro B a b
    show (pu_rg ro o e n (pu_year ro B) _ _).2.2.1 0 0 = _
    rw [ih, pu_year_r 0 0 (by omega) (fun _ => by omega)]
theorem pu_g0_le {ro : Option pu_Ru} {A : pu_A} {o e n w : Nat} : pu_g0 ro A o e n w ≤ n + 8 := by
  have h1 := (pu_rg_le (ro := ro) (o := o) (e := e) n (B := pu_rb A o e w) (a := 0) (b := 0)).1
  have h2 := pu_ct_le (fun l => pu_at (pu_rg ro o e n (pu_rb A o e w) 0 0).2.2 l o) 8
  unfold pu_g0
  omega
theorem pu_g1_le {ro : Option pu_Ru} {A : pu_A} {o e n w : Nat} : pu_g1 ro A o e n w ≤ n + 8 := by
  have h1 := (pu_rg_le (ro := ro) (o := o) (e := e) n (B := pu_rb A o e w) (a := 0) (b := 0)).2
  have h2 := pu_ct_le (fun l => pu_at (pu_rg ro o e n (pu_rb A o e w) 0 0).2.2 l e) 8
  unfold pu_g1
  omega
section PUp
variable {s : List (Nat × Nat)} {R : Nat → Nat → Option Nat} {I : Nat → Nat → Int32} {J : Nat → Nat → Int64} {A : pu_A} {ro : Option pu_Ru}
theorem pu_yr_gains (hX : pu_X s R) (wf : pu_wf A) {c : Option Nat} {o e N : Nat} (ho : o < 2 * A.1 0 0) (he : e < 2 * A.1 0 0) (hN : N ≤ 20) : ∀ d w n I J, w + d = 4 → d < n → pu_V I 19 A → pu_FC s I c ro → (∀ z, z < w → I 60 (2 * z) = nI (pu_g0 ro A o e N z) ∧ I 60 (2 * z + 1) = nI (pu_g1 ro A o e N z)) →
    ∃ I' J', fl_yr_findRests_2 n 52 19 c (nI o) (nI e) (nI N) (nI w) (s, I, J, R) = some (52, (s, I', J', R)) ∧ (∀ z, z < 4 → I' 60 (2 * z) = nI (pu_g0 ro A o e N z) ∧ I' 60 (2 * z + 1) = nI (pu_g1 ro A o e N z)) ∧ pu_Cf I I' J J' := by
  intro d
  have h5 := wf.1
  induction d with
  | zero =>
    intro w n I J hi hn v hF hz
    obtain ⟨n, rfl⟩ : ∃ z, n = z + 1 := ⟨n - 1, by omega⟩
    have hc : ¬ nI w < (4 : Int32) := by rw [show (4 : Int32) = nI 4 from rfl, pu_ltI (by omega) (by omega)]; omega
    unfold fl_yr_findRests_2
    simp only [hc, ↓reduceIte]
    rw [show w = 4 by omega] at hz
    exact ⟨I, J, rfl, hz, pu_Cf.rf⟩
  | succ d ih =>
    intro w n I J hi hn v hF hz
    obtain ⟨n, rfl⟩ : ∃ z, n = z + 1 := ⟨n - 1, by omega⟩
    have hw : w < 4 := by omega
    have hc : nI w < (4 : Int32) := by rw [show (4 : Int32) = nI 4 from rfl, pu_ltI (by omega) (by omega)]; omega
    obtain ⟨I1, a1, a2, a3⟩ := pu_yr_begin (J := J) hX (pu_st19 hX) (by omega) v wf
    obtain ⟨I2, b1, b2, b3⟩ := pu_yr_letGo (J := J) hX a2 wf ho he hw
    have wfb : pu_wf (pu_rb A o e w) := pu_gw_wf 11 (pu_lg_wf wf o e w)
    have f2 : pu_Cf I I2 J J := (pu_Cf.fr (by omega) (by omega) a3).tr (pu_Cf.fr (by omega) (by omega) b3)
    have e60 : I2 60 = I 60 := by rw [b3 60 (by omega), a3 60 (by omega)]
    have f3 : pu_Cf I (tb_up2 (tb_up2 I2 60 (2 * w) 0) 60 (2 * w + 1) 0) J J := f2.tr ((pu_Cf.u2 (by omega) (by omega)).tr (pu_Cf.u2 (by omega) (by omega)))
    obtain ⟨I4, J4, c1, c2, c3, c4, c5, c6, c7⟩ := pu_yr_rg (ro := ro) (c := c) hX (show o < 10 by omega) (show e < 10 by omega) hw hN N 0 1048576 (tb_up2 (tb_up2 I2 60 (2 * w) 0) 60 (2 * w + 1) 0) J (pu_rb A o e w) 0 0 (by omega) (by omega) (pu_V_eq (fun j hj => by rw [pu_u2p _ _ _ _ (by omega), pu_u2p _ _ _ _ (by omega)]) b2) wfb (pu_FC_cf f3 hF) (by rw [pu_u2k _ _ _ _ (by omega), pu_u2s]; rfl) (pu_u2s _ _ _ _)
    rw [show nI 0 = 0 from rfl] at c1
    have wf4 : pu_wf (pu_rg ro o e N (pu_rb A o e w) 0 0).2.2 := pu_rg_wf N wfb
    have sz4 : (pu_rg ro o e N (pu_rb A o e w) 0 0).2.2.1 0 0 = A.1 0 0 := by
      rw [pu_rg_0]
      show (pu_gw 11 (pu_lg A o e w)).1 0 0 = _
      rw [pu_gw_1]; rfl
    have v5 : pu_V (tb_up2 I4 60 (2 * w) (nI (pu_g0 ro A o e N w))) 53 (pu_rg ro o e N (pu_rb A o e w) 0 0).2.2 := pu_V_eq (fun j hj => pu_u2p _ _ _ _ (by omega)) c2
    have l1 := pu_s_linesAt (J := J4) (pu_st53 hX) c2 wf4 (show o < 2 * (pu_rg ro o e N (pu_rb A o e w) 0 0).2.2.1 0 0 by rw [sz4]; exact ho)
    have l2 := pu_s_linesAt (J := J4) (pu_st53 hX) v5 wf4 (show e < 2 * (pu_rg ro o e N (pu_rb A o e w) 0 0).2.2.1 0 0 by rw [sz4]; exact he)
    have x1 : tb_up2 I4 60 (2 * w) (nI (pu_g0 ro A o e N w)) 60 (2 * w + 1) = nI (pu_rg ro o e N (pu_rb A o e w) 0 0).2.1 := by rw [pu_u2k _ _ _ _ (by omega)]; exact c4
    have g0 : (pu_rg ro o e N (pu_rb A o e w) 0 0).1 + pu_ct (fun l => pu_at (pu_rg ro o e N (pu_rb A o e w) 0 0).2.2 l o) 8 = pu_g0 ro A o e N w := rfl
    have g1 : (pu_rg ro o e N (pu_rb A o e w) 0 0).2.1 + pu_ct (fun l => pu_at (pu_rg ro o e N (pu_rb A o e w) 0 0).2.2 l e) 8 = pu_g1 ro A o e N w := rfl
    rw [fl_yr_findRests_2.eq_2]
    simp only [hc, ↓reduceIte, pu_on (pu_c52 hX), a1, b1, Option.bind_some, pu_setGain0 hX hw, pu_setGain1 hX hw, c1, pu_gainOf0 hX hw, c3, pu_gN (pu_c52 hX), pu_f52_0 hX, pu_on (pu_c53 hX), l1, pu_bitCount8, nI_add, g0, pu_gainOf1 hX hw, x1, l2, g1]
    rw [← nI_succ]
    have f5 : pu_Cf I (tb_up2 (tb_up2 I4 60 (2 * w) (nI (pu_g0 ro A o e N w))) 60 (2 * w + 1) (nI (pu_g1 ro A o e N w))) J J4 := (f3.tr c7).tr ((pu_Cf.u2 (by omega) (by omega)).tr (pu_Cf.u2 (by omega) (by omega)))
    obtain ⟨I', J', d1, d2, d3⟩ := ih (w + 1) n _ J4 (by omega) (by omega) (pu_V_cf f5 v) (pu_FC_cf f5 hF) (by
      intro z hz1
      by_cases ez : z = w
      · subst ez
        rw [pu_u2k _ _ _ _ (by omega), pu_u2s, pu_u2s]
        exact ⟨rfl, rfl⟩
      · rw [pu_u2k _ _ _ _ (by omega), pu_u2k _ _ _ _ (by omega), pu_u2k _ _ _ _ (by omega), pu_u2k _ _ _ _ (by omega), c5 _ (by omega) (by omega), c5 _ (by omega) (by omega), pu_u2k _ _ _ _ (by omega), pu_u2k _ _ _ _ (by omega), pu_u2k _ _ _ _ (by omega), pu_u2k _ _ _ _ (by omega), e60]
        exact hz z (by omega))
    exact ⟨I', J', d1, d2, f5.tr d3⟩
theorem pu_yr_rests_l (hX : pu_X s R) {G H : Nat → Nat} (hG : ∀ w, G w ≤ 1000 ∧ H w ≤ 1000) : ∀ d i n I (st : pu_N3), i + d = 4 → d < n → (∀ z, z < 4 → I 60 (2 * z) = nI (G z) ∧ I 60 (2 * z + 1) = nI (H z)) → I 52 2 = nI st.1 → I 52 3 = st.2.1 → I 52 4 = st.2.2 → st.1 ≤ i →
    ∃ I', fl_yr_findRests_112 n 52 (nI i) (s, I, J, R) = some (s, I', J, R) ∧ I' 52 2 = nI (pu_rf G H d i st).1 ∧ I' 52 3 = (pu_rf G H d i st).2.1 ∧ I' 52 4 = (pu_rf G H d i st).2.2 ∧ pu_Cf I I' J J := by
  intro d
  induction d with
  | zero =>
    intro i n I st hi hn hz i2 i3 i4 h10
    obtain ⟨n, rfl⟩ : ∃ z, n = z + 1 := ⟨n - 1, by omega⟩
    have hc : ¬ nI i < (4 : Int32) := by rw [show (4 : Int32) = nI 4 from rfl, pu_ltI (by omega) (by omega)]; omega
    unfold fl_yr_findRests_112
    simp only [hc, ↓reduceIte]
    exact ⟨I, rfl, i2, i3, i4, pu_Cf.rf⟩
  | succ d ih =>
    intro i n I st hi hn hz i2 i3 i4 h10
    obtain ⟨n, rfl⟩ : ∃ z, n = z + 1 := ⟨n - 1, by omega⟩
    have hi4 : i < 4 := by omega
    have hc : nI i < (4 : Int32) := by rw [show (4 : Int32) = nI 4 from rfl, pu_ltI (by omega) (by omega)]; omega
    have x2 : ∀ z, z < 4 → nI z ^^^ 2 = nI (z ^^^ 2) ∧ z ^^^ 2 < 4 := by decide +kernel
    have x1 : ∀ z, z < 4 → nI z ^^^ 1 = nI (z ^^^ 1) ∧ z ^^^ 1 < 4 := by decide +kernel
    have sh : ∀ z, z < 4 → nI z >>> ((1 : Int32) &&& 31) = nI (z / 2) ∧ nI z &&& 1 = nI (z % 2) := by decide +kernel
    have y2 := x2 i hi4
    have y1 := x1 i hi4
    have ys := sh i hi4
    have g1 := hG i
    have g2 := hG (i ^^^ 2)
    have g3 := hG (i ^^^ 1)
    have es : pu_rf G H (d + 1) i st = pu_rf G H d (i + 1) (if pu_rs G H i then (st.1 + 1, if st.1 = 0 then nI (i / 2) else st.2.1, if st.1 = 0 then nI (i % 2) else st.2.2) else st) := rfl
    rw [es, fl_yr_findRests_112.eq_2]
    simp only [hc, ↓reduceIte, pu_on (pu_c52 hX), y2.1, y1.1, pu_gainOf0 hX y2.2, pu_gainOf0 hX hi4, pu_gainOf1 hX y1.2, pu_gainOf1 hX hi4, Option.bind_some, (hz _ y2.2).1, (hz _ hi4).1, (hz _ y1.2).2, (hz _ hi4).2, pu_leI (show G (i ^^^ 2) < 2147483648 by omega) (show G i < 2147483648 by omega), pu_leI (show H (i ^^^ 1) < 2147483648 by omega) (show H i < 2147483648 by omega)]
    rw [← nI_succ]
    by_cases h1 : G (i ^^^ 2) ≤ G i
    · by_cases h2 : H (i ^^^ 1) ≤ H i
      · have er : pu_rs G H i = true := by unfold pu_rs; rw [decide_eq_true h1, decide_eq_true h2]; rfl
        simp only [h1, h2, er, ↓reduceIte, pu_gI (pu_c52 hX), i2, Option.bind_some]
        by_cases h3 : st.1 = 0
        · have e0 : nI st.1 = (0 : Int32) := by rw [h3]; rfl
          simp only [e0, ↓reduceIte, pu_pI (pu_c52 hX), Option.bind_some, fj_yr_findRests_j150, pu_gI (pu_c52 hX), ys.1, ys.2, ← nI_succ]
          have e2 : tb_up2 (tb_up2 I 52 3 (nI (i / 2))) 52 4 (nI (i % 2)) 52 2 = nI 0 := by rw [pu_u2k _ _ _ _ (by decide), pu_u2k _ _ _ _ (by decide), i2, h3]
          rw [e2, pu_R1]
          have f : pu_Cf I (tb_up2 (tb_up2 (tb_up2 I 52 3 (nI (i / 2))) 52 4 (nI (i % 2))) 52 2 (nI (0 + 1))) J J := ((pu_Cf.u2 (by omega) (by omega)).tr (pu_Cf.u2 (by omega) (by omega))).tr (pu_Cf.u2 (by omega) (by omega))
          obtain ⟨I', d1, d2, d3, d4, d5⟩ := ih (i + 1) n (tb_up2 (tb_up2 (tb_up2 I 52 3 (nI (i / 2))) 52 4 (nI (i % 2))) 52 2 (nI (0 + 1))) (st.1 + 1, if st.1 = 0 then nI (i / 2) else st.2.1, if st.1 = 0 then nI (i % 2) else st.2.2) (by omega) (by omega) (fun z hz1 => by rw [pu_u2p _ _ _ _ (by decide), pu_u2p _ _ _ _ (by decide), pu_u2p _ _ _ _ (by decide)]; exact hz z hz1) (by rw [pu_u2s, h3]) (by simp (disch := omega) only [pu_u2k, pu_u2s]; rw [if_pos h3]) (by simp (disch := omega) only [pu_u2k, pu_u2s]; rw [if_pos h3]) (by show st.1 + 1 ≤ i + 1; omega)
          exact ⟨I', d1, d2, d3, d4, f.tr d5⟩
        · have e0 : ¬ nI st.1 = (0 : Int32) := by
            rw [show (0 : Int32) = nI 0 from rfl, pu_eqI (by omega) (by omega)]
            exact h3
          simp only [e0, ↓reduceIte, fj_yr_findRests_j150, pu_gI (pu_c52 hX), i2, Option.bind_some, pu_R1, pu_pI (pu_c52 hX), ← nI_succ]
          have f : pu_Cf I (tb_up2 I 52 2 (nI (st.1 + 1))) J J := pu_Cf.u2 (by omega) (by omega)
          obtain ⟨I', d1, d2, d3, d4, d5⟩ := ih (i + 1) n (tb_up2 I 52 2 (nI (st.1 + 1))) (st.1 + 1, if st.1 = 0 then nI (i / 2) else st.2.1, if st.1 = 0 then nI (i % 2) else st.2.2) (by omega) (by omega) (fun z hz1 => by rw [pu_u2p _ _ _ _ (by decide)]; exact hz z hz1) (pu_u2s _ _ _ _) (by rw [pu_u2k _ _ _ _ (by decide), i3]; show _ = if st.1 = 0 then _ else _; rw [if_neg h3]) (by rw [pu_u2k _ _ _ _ (by decide), i4]; show _ = if st.1 = 0 then _ else _; rw [if_neg h3]) (by show st.1 + 1 ≤ i + 1; omega)
          exact ⟨I', d1, d2, d3, d4, f.tr d5⟩
      · have er : pu_rs G H i = false := by unfold pu_rs; rw [decide_eq_false h2, Bool.and_false]
        simp only [h1, h2, er, Bool.false_eq_true, ↓reduceIte]
        exact ih (i + 1) n I st (by omega) (by omega) hz i2 i3 i4 (by omega)
    · have er : pu_rs G H i = false := by unfold pu_rs; rw [decide_eq_false h1, Bool.false_and]
      simp only [h1, er, Bool.false_eq_true, ↓reduceIte]
      exact ih (i + 1) n I st (by omega) (by omega) hz i2 i3 i4 (by omega)
end PUp
