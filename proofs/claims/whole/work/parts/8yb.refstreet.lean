/-! ===== The reference: street() ===== -/
section PURB
variable {s : List (Nat × Nat)} {R : Nat → Nat → Option Nat} {b : Nat → Nat} {tl : Nat}
theorem pu_m_j49 {I : Nat → Nat → Int32} {J : Nat → Nat → Int64} (hM : pu_M s R) {k : Nat} (hk : k < 10000) (e : I 70 9 = nI k) : fj_m_readsAll_j49 70 (s, I, J, R) = some (pu_b (decide (k = 0)), (s, tb_up2 I 70 1 0, J, R)) := by
  have e9 : tb_up2 I 70 1 0 70 9 = nI k := by rw [pu_u2k _ _ _ _ (by decide)]; exact e
  have e0 : (nI k = (0 : Int32)) = (k = 0) := pu_eqI (b := 0) (by omega) (by omega)
  unfold fj_m_readsAll_j49
  simp only [pu_pI (pu_m70 hM), Option.bind_some, pu_gI (pu_m70 hM), e9, e0]
  by_cases hz : k = 0
  · rw [if_pos hz, decide_eq_true hz]; rfl
  · rw [if_neg hz, decide_eq_false hz]; rfl
/-- what reading at all changes -/
def pu_Ug (I I' : Nat → Nat → Int32) : Prop := (∀ q, q ≠ 70 → q ≠ 73 → q ≠ 76 → I' q = I q) ∧ (∀ k, k ≠ 1 → k ≠ 8 → k ≠ 9 → k ≠ 10 → k ≠ 12 → k ≠ 14 → I' 70 k = I 70 k)
theorem pu_m_readsAll {I : Nat → Nat → Int32} {J : Nat → Nat → Int64} (hM : pu_M s R) (hb : pu_MB I b tl) (h11 : I 70 11 = 6) (h76 : ∀ k, k < 118 → I 76 k = 0) {F : pu_A} {r : List (Nat × Nat × Nat)} {f : Nat} (hr : pu_rd 41 0 pu_A0 (pu_tt b tl 0) 0 = (F, r, f)) (hfin : pu_fin r f < 10000) :
    ∃ I', fb_m_readsAll 70 (s, I, J, R) = some (pu_b (decide (pu_fin r f = 0)), (s, I', J, R)) ∧ I' 70 1 = 0 ∧ (pu_fin r f = 0 → ∃ c, 0 < c ∧ pu_Rdd I' c F ∧ pu_Fv F ∧ 0 < F.1 0 0) ∧ (pu_fin r f ≠ 0 → I' 70 9 = nI (pu_fin r f)) ∧ pu_Ug I I' := by
  have h400 := hb.2.1
  obtain ⟨I5, hI5⟩ : ∃ I5, I5 = tb_up2 (tb_up2 (tb_up2 (tb_up2 (tb_up2 I 73 6 0) 70 14 0) 70 8 0) 70 9 0) 70 12 0 := ⟨_, rfl⟩
  have u5 : pu_Ug I I5 := by
    subst hI5
    exact ⟨fun q h1 h2 h3 => by simp (disch := omega) only [pu_u2p], fun k h1 h2 h3 h4 h5 h6 => by simp (disch := omega) only [pu_u2p, pu_u2k]⟩
  have e14 : I5 70 14 = nI 0 := by subst hI5; simp (disch := omega) only [pu_u2p, pu_u2k, pu_u2s]; rfl
  have e8 : I5 70 8 = nI 0 := by subst hI5; simp (disch := omega) only [pu_u2p, pu_u2k, pu_u2s]; rfl
  have e9 : I5 70 9 = 0 := by subst hI5; simp (disch := omega) only [pu_u2p, pu_u2k, pu_u2s]
  have e76 : I5 76 = I 76 := by subst hI5; simp (disch := omega) only [pu_u2p]
  have e71 : I5 71 = I 71 := u5.1 71 (by decide) (by decide) (by decide)
  have e1 : I5 70 1 = I 70 1 := by subst hI5; simp (disch := omega) only [pu_u2p, pu_u2k]
  have hb5 : pu_MB I5 b tl := ⟨by rw [e1]; exact hb.1, h400, fun k hk => by rw [e71]; exact hb.2.2 k hk⟩
  have rd5 : pu_Rdd I5 0 pu_A0 := by
    unfold pu_Rdd
    rw [e76]
    refine ⟨⟨by rw [if_pos rfl]; exact h76 0 (by omega), h76 1 (by omega), h76 2 (by omega), h76 3 (by omega)⟩, fun h hh => ⟨h76 _ (by omega), h76 _ (by omega)⟩, fun l hl => absurd hl (Nat.not_lt_zero _)⟩
  obtain ⟨I6, a1, a2, a3⟩ := pu_m_cl (J := J) (c := 0) (F := pu_A0) hM (⟨hb5, e9, 0, Nat.zero_le _, e8, rfl⟩ : pu_RS I5 b tl (pu_tt b tl 0)) (by rw [u5.2 11 (by decide) (by decide) (by decide) (by decide) (by decide) (by decide)]; exact h11) e14 (by omega) rd5 pu_A0_fv (fun _ => rfl) (fun h => absurd rfl h)
  obtain ⟨I7, c', b1, b2, b3, b4⟩ := pu_m_readsAll_l hM 40 1 1048576 I6 J (pu_cla 0 pu_A0 (pu_tt b tl 0) 0) (by omega) (by omega) (by omega) (fun h => by omega) a3
  rw [← pu_gx_rd 40 0, hr] at b1 b4
  dsimp only at b1
  have u7 : pu_Ug I I7 := ⟨fun q h1 h2 h3 => by rw [b2.1 q h1 h3, a2.1 q h1 h3, u5.1 q h1 h2 h3], fun k h1 h2 h3 h4 h5 h6 => by rw [b2.2 k h2 h3 h4 h6, a2.2 k h2 h3 h4 h6, u5.2 k h1 h2 h3 h4 h5 h6]⟩
  have start : fb_m_readsAll 70 (s, I, J, R) = if pu_b (decide (f = 0)) = 0 then fj_m_readsAll_j49 70 (s, I7, J, R) else (fb_m_see 70 (s, I7, J, R)).bind fun x16 => (if x16.1 = (-1) then fj_m_readsAll_j49 70 x16.2 else (tb_gI 22 8 70 x16.2).bind fun x17 => (tb_on 22 70 x16.2 (fb_m_fails 70 0 x17 x16.2)).bind fun x18 => fj_m_readsAll_j49 70 x18.2) := by
    unfold fb_m_readsAll
    simp only [pu_gN (pu_m70 hM), pu_r4 hM, Option.bind_some, pu_gI (pu_m70 hM), h11, show (6 : Int32) = nI 6 from rfl, pu_tI (pu_m73 hM) (show 6 < 7 by omega) (show 7 ≤ 100000 by omega), pu_pI (pu_m70 hM), ← hI5, pu_on (pu_m70 hM), a1, b1]
  rw [start]
  by_cases hz : f = 0
  · obtain ⟨⟨hb7, h97, q, hq, e87, er⟩, rd, h14, fv, sz, h117⟩ := b4.1 hz
    have er : r = pu_tt b tl q := er
    have rd : pu_Rdd I7 c' F := rd
    obtain ⟨I8, g1, g2, g3⟩ := pu_m_see (J := J) hM hb7 hq e87
    have hs := pu_sp_le b hq
    have h32 : pu_sp b tl q < tl → b (pu_sp b tl q) ≠ 32 := fun hx => pu_sp_ne hq hx
    rw [pu_tt_sp b hq] at er
    generalize pu_sp b tl q = p at *
    have u8 : pu_Ug I I8 := ⟨fun q h1 h2 h3 => by rw [g3.1 q h1, u7.1 q h1 h2 h3], fun k h1 h2 h3 h4 h5 h6 => by rw [g3.2 k h2, u7.2 k h1 h2 h3 h4 h5 h6]⟩
    have h98 : I8 70 9 = 0 := by rw [g3.2 9 (by decide)]; exact h97
    rw [decide_eq_true hz, if_neg (by decide), g1, Option.bind_some]
    dsimp only
    by_cases hp : p < tl
    · have hk := (pu_hk4 hp (h32 hp)).2.1
      obtain ⟨t, r1, et, tp, _⟩ := pu_hd hs.1 h32
      have ef : pu_fin r f = 1 + 8 * p := by
        unfold pu_fin
        rw [er, if_neg hk, et, hz]
        unfold pu_ft
        rw [if_pos rfl]
        dsimp only
        rw [tp]
        rfl
      have hf := pu_m_fails (J := J) hM h98 0 p
      rw [show nI 0 = 0 from rfl, Nat.add_zero] at hf
      have hj := pu_m_j49 (J := J) (I := tb_up2 I8 70 9 (nI (1 + 8 * p))) (k := 1 + 8 * p) hM (by omega) (pu_u2s _ _ _ _)
      rw [ef]
      refine ⟨tb_up2 (tb_up2 I8 70 9 (nI (1 + 8 * p))) 70 1 0, ?_, pu_u2s _ _ _ _, fun h => by omega, fun _ => by rw [pu_u2k _ _ _ _ (by decide), pu_u2s], fun q h1 h2 h3 => by rw [pu_u2p _ _ _ _ h1, pu_u2p _ _ _ _ h1]; exact u8.1 q h1 h2 h3, fun k h1 h2 h3 h4 h5 h6 => by rw [pu_u2k _ _ _ _ h1, pu_u2k _ _ _ _ h3]; exact u8.2 k h1 h2 h3 h4 h5 h6⟩
      rw [if_pos hp, if_neg (pu_nm1 (by have := (hb.2.2 p hp).1; omega))]
      simp only [pu_gI (pu_m70 hM), g2, Option.bind_some, pu_on (pu_m70 hM), hf, hj]
    · have ef : pu_fin r f = 0 := by
        unfold pu_fin
        rw [er, pu_tt_e b (by omega), if_pos (by rfl)]
        exact hz
      have hj := pu_m_j49 (J := J) (I := I8) (k := 0) hM (by omega) h98
      rw [ef]
      refine ⟨tb_up2 I8 70 1 0, ?_, pu_u2s _ _ _ _, fun _ => ⟨c', b3, pu_Rdd_eq (by rw [pu_u2p _ _ _ _ (by decide)]; exact g3.1 76 (by decide)) rd, fv, sz⟩, fun h => absurd rfl h, fun q h1 h2 h3 => by rw [pu_u2p _ _ _ _ h1]; exact u8.1 q h1 h2 h3, fun k h1 h2 h3 h4 h5 h6 => by rw [pu_u2k _ _ _ _ h1]; exact u8.2 k h1 h2 h3 h4 h5 h6⟩
      rw [if_neg hp, if_pos rfl]
      exact hj
  · obtain ⟨k1, k2⟩ := b4.2 hz
    have k1 : I7 70 9 = nI f := k1
    have k2 : r = [] := k2
    have ef : pu_fin r f = f := by unfold pu_fin; rw [k2, if_pos (by rfl)]
    rw [ef] at hfin ⊢
    rw [decide_eq_false hz, if_pos (by decide)]
    have hj := pu_m_j49 (J := J) (I := I7) (k := f) hM hfin k1
    rw [decide_eq_false hz] at hj
    exact ⟨tb_up2 I7 70 1 0, hj, pu_u2s _ _ _ _, fun h => absurd h hz, fun _ => by rw [pu_u2k _ _ _ _ (by decide)]; exact k1, fun q h1 h2 h3 => by rw [pu_u2p _ _ _ _ h1]; exact u7.1 q h1 h2 h3, fun k h1 h2 h3 h4 h5 h6 => by rw [pu_u2k _ _ _ _ h1]; exact u7.2 k h1 h2 h3 h4 h5 h6⟩
/-- what was read is cleared -/
theorem pu_m_street_5 (hM : pu_M s R) : ∀ d i n (I : Nat → Nat → Int32) (J : Nat → Nat → Int64), i + d = 118 → d < n → ∃ I', fl_m_street_5 n 70 (nI i) (s, I, J, R) = some (70, (s, I', J, R)) ∧ (∀ k, i ≤ k → k < 118 → I' 76 k = 0) ∧ (∀ k, k < i → I' 76 k = I 76 k) ∧ (∀ q, q ≠ 76 → I' q = I q) := by
  intro d
  induction d with
  | zero =>
    intro i n I J hi hn
    obtain ⟨n, rfl⟩ : ∃ z, n = z + 1 := ⟨n - 1, by omega⟩
    have e : (nI i < (118 : Int32)) = (i < 118) := pu_ltI (b := 118) (by omega) (by omega)
    refine ⟨I, ?_, fun k h1 h2 => by omega, fun _ _ => rfl, fun _ _ => rfl⟩
    rw [fl_m_street_5.eq_2]
    simp only [e, show ¬ i < 118 by omega, ↓reduceIte]
  | succ d ih =>
    intro i n I J hi hn
    obtain ⟨n, rfl⟩ : ∃ z, n = z + 1 := ⟨n - 1, by omega⟩
    have e : (nI i < (118 : Int32)) = (i < 118) := pu_ltI (b := 118) (by omega) (by omega)
    obtain ⟨I', a1, a2, a3, a4⟩ := ih (i + 1) n (tb_up2 I 76 i 0) J (by omega) (by omega)
    refine ⟨I', ?_, fun k h1 h2 => ?_, fun k h1 => by rw [a3 k (by omega), pu_u2k _ _ _ _ (by omega)], fun q hq => by rw [a4 q hq, pu_u2p _ _ _ _ hq]⟩
    · rw [fl_m_street_5.eq_2]
      simp only [e, show i < 118 by omega, ↓reduceIte, pu_gN (pu_m70 hM), pu_r7 hM, Option.bind_some, pu_t76 hM rfl (show i < 118 by omega), pu_R1, a1]
    · by_cases hk : k = i
      · subst hk
        rw [a3 k (by omega), pu_u2s]
      · exact a2 k (by omega) h2
theorem pu_m_street_25 (hM : pu_M s R) : ∀ d i n (I : Nat → Nat → Int32) (J : Nat → Nat → Int64), i + d = 149 → d < n → ∃ I', fl_m_street_25 n 70 (nI i) (s, I, J, R) = some (70, (s, I', J, R)) ∧ (∀ k, i ≤ k → k < 149 → I' 80 k = if k < 118 then I 76 k else 0) ∧ (∀ k, k < i → I' 80 k = I 80 k) ∧ (∀ q, q ≠ 80 → I' q = I q) := by
  intro d
  induction d with
  | zero =>
    intro i n I J hi hn
    obtain ⟨n, rfl⟩ : ∃ z, n = z + 1 := ⟨n - 1, by omega⟩
    have e : (nI i < (149 : Int32)) = (i < 149) := pu_ltI (b := 149) (by omega) (by omega)
    refine ⟨I, ?_, fun k h1 h2 => by omega, fun _ _ => rfl, fun _ _ => rfl⟩
    rw [fl_m_street_25.eq_2]
    simp only [e, show ¬ i < 149 by omega, ↓reduceIte]
  | succ d ih =>
    intro i n I J hi hn
    obtain ⟨n, rfl⟩ : ∃ z, n = z + 1 := ⟨n - 1, by omega⟩
    have e : (nI i < (149 : Int32)) = (i < 149) := pu_ltI (b := 149) (by omega) (by omega)
    have e2 : (nI i < (118 : Int32)) = (i < 118) := pu_ltI (b := 118) (by omega) (by omega)
    have key : ∀ v, v = (if i < 118 then I 76 i else 0) → ∃ I', fl_m_street_25 n 70 (nI (i + 1)) (s, tb_up2 I 80 i v, J, R) = some (70, (s, I', J, R)) ∧ (∀ k, i ≤ k → k < 149 → I' 80 k = if k < 118 then I 76 k else 0) ∧ (∀ k, k < i → I' 80 k = I 80 k) ∧ (∀ q, q ≠ 80 → I' q = I q) := by
      intro v hv
      obtain ⟨I', a1, a2, a3, a4⟩ := ih (i + 1) n (tb_up2 I 80 i v) J (by omega) (by omega)
      refine ⟨I', a1, fun k h1 h2 => ?_, fun k h1 => by rw [a3 k (by omega), pu_u2k _ _ _ _ (by omega)], fun q hq => by rw [a4 q hq, pu_u2p _ _ _ _ hq]⟩
      by_cases hk : k = i
      · subst hk
        rw [a3 k (by omega), pu_u2s]
        exact hv
      · rw [a2 k (by omega) h2, pu_u2p _ _ _ _ (show (76 : Nat) ≠ 80 by decide)]
    by_cases h1 : i < 118
    · obtain ⟨I', a⟩ := key (I 76 i) (by rw [if_pos h1])
      refine ⟨I', ?_, a.2⟩
      rw [fl_m_street_25.eq_2]
      simp only [e, e2, h1, show i < 149 by omega, ↓reduceIte, pu_gN (pu_m70 hM), pu_r7 hM, pu_r20 hM, Option.bind_some, pu_l76 hM rfl h1, pu_tI (pu_m80 hM) (show i < 149 by omega) (show 149 ≤ 100000 by omega), pu_R1, a.1]
    · obtain ⟨I', a⟩ := key 0 (by rw [if_neg h1])
      refine ⟨I', ?_, a.2⟩
      rw [fl_m_street_25.eq_2]
      simp only [e, e2, h1, show i < 149 by omega, ↓reduceIte, pu_gN (pu_m70 hM), pu_r20 hM, Option.bind_some, pu_tI (pu_m80 hM) (show i < 149 by omega) (show 149 ≤ 100000 by omega), pu_R1, a.1]
theorem pu_m_street {I : Nat → Nat → Int32} {J : Nat → Nat → Int64} (hM : pu_M s R) (hb : pu_MB I b tl) {F : pu_A} {r : List (Nat × Nat × Nat)} {f : Nat} (hr : pu_rd 41 0 pu_A0 (pu_tt b tl 0) 0 = (F, r, f)) (hfin : pu_fin r f < 10000) :
    ∃ I', fb_m_street 70 (s, I, J, R) = some (if pu_fin r f = 0 then nI (F.1 0 3) else -2 - nI (pu_fin r f), (s, I', J, R)) ∧ I' 70 1 = 0 ∧ (pu_fin r f = 0 → pu_Q (I' 80) (pu_Td F) ∧ pu_TM (I' 80) (pu_Td F) ∧ I' 70 24 = 0 ∧ I' 80 148 = 0) ∧ (pu_fin r f ≠ 0 → I' 80 = I 80 ∧ I' 70 24 = I 70 24) ∧ (∀ q, q ≠ 70 → q ≠ 73 → q ≠ 76 → q ≠ 80 → I' q = I q) ∧ (∀ k, k ≠ 1 → k ≠ 8 → k ≠ 9 → k ≠ 10 → k ≠ 11 → k ≠ 12 → k ≠ 14 → k ≠ 24 → I' 70 k = I 70 k) := by
  have h400 := hb.2.1
  obtain ⟨I1, a1, a2, _, a4⟩ := pu_m_street_5 hM 118 0 1048576 (tb_up2 I 70 11 6) J (by omega) (by omega)
  rw [show nI 0 = 0 from rfl] at a1
  have e70 : ∀ k, k ≠ 11 → I1 70 k = I 70 k := fun k hk => by rw [a4 70 (by decide), pu_u2k _ _ _ _ hk]
  have hb1 : pu_MB I1 b tl := ⟨by rw [e70 1 (by decide)]; exact hb.1, h400, fun k hk => by rw [a4 71 (by decide), pu_u2p _ _ _ _ (by decide)]; exact hb.2.2 k hk⟩
  obtain ⟨I2, b1, b2, b3, b4, b5⟩ := pu_m_readsAll (J := J) hM hb1 (by rw [a4 70 (by decide), pu_u2s]) (fun k hk => a2 k (Nat.zero_le _) hk) hr hfin
  have fr2 : ∀ q, q ≠ 70 → q ≠ 73 → q ≠ 76 → I2 q = I q := fun q h1 h2 h3 => by rw [b5.1 q h1 h2 h3, a4 q h3, pu_u2p _ _ _ _ h1]
  have f70 : ∀ k, k ≠ 1 → k ≠ 8 → k ≠ 9 → k ≠ 10 → k ≠ 11 → k ≠ 12 → k ≠ 14 → I2 70 k = I 70 k := fun k h1 h2 h3 h4 h5 h6 h7 => by rw [b5.2 k h1 h2 h3 h4 h6 h7, e70 k h5]
  have start : fb_m_street 70 (s, I, J, R) = if pu_b (decide (pu_fin r f = 0)) = 0 then (tb_gI 22 9 70 (s, I2, J, R)).bind fun x6 => some ((-2) - x6, (s, I2, J, R)) else (fl_m_street_25 1048576 70 0 (s, I2, J, R)).bind fun o12 => (tb_on 22 o12.1 o12.2 (fb_m_begins o12.1 o12.2)).bind fun x13 => (tb_pI 22 24 o12.1 0 x13).bind fun w14 => (tb_gN 22 20 o12.1 w14).bind fun p15 => (tb_lI [1, 9] p15 3 w14).bind fun x16 => some (x16, w14) := by
    unfold fb_m_street
    simp only [pu_pI (pu_m70 hM), Option.bind_some, a1, pu_on (pu_m70 hM), b1]
  rw [start]
  by_cases hz : pu_fin r f = 0
  · obtain ⟨c, c0, ⟨⟨r0, r1, r2, r3⟩, rb, rl⟩, fv, sz⟩ := b3 hz
    obtain ⟨I3, g1, g2, _, g4⟩ := pu_m_street_25 hM 149 0 1048576 I2 J (by omega) (by omega)
    rw [show nI 0 = 0 from rfl] at g1
    have c80 : ∀ k, k < 118 → I3 80 k = I2 76 k := fun k hk => by rw [g2 k (Nat.zero_le _) (by omega), if_pos hk]
    have h8 := fv.1.2.2.1
    have tm : pu_TM (I3 80) (pu_Td F) := by
      refine ⟨⟨?_, by rw [c80 1 (by omega)]; exact r1, by rw [c80 2 (by omega)]; exact r2, by rw [c80 3 (by omega)]; exact r3, fv.2.1⟩, fun h hh => ⟨by rw [c80 _ (by omega)]; exact (rb h hh).1, by rw [c80 _ (by omega)]; exact (rb h hh).2⟩, fun l hl => ?_, fv.2.2.1, fun _ => rfl⟩
      · rw [c80 0 (by omega), r0, if_neg (by omega)]
        show (1 : Int32) = pu_b (decide (0 < F.1 0 0))
        rw [decide_eq_true sz]; rfl
      · have hl : l < F.1 0 3 := hl
        rw [c80 _ (by omega), c80 _ (by omega), c80 _ (by omega)]
        exact rl l hl
    have wf : pu_wf (pu_Td F) := (pu_Td_go fv).1
    obtain ⟨I4, k1, k2, k3⟩ := pu_m_begins (J := J) hM tm wf
    have tm4 : pu_TM (I4 80) (pu_Td F) := by
      obtain ⟨⟨t0, t1, t2, t3, t4⟩, tb, tl', tu, ts⟩ := tm
      refine ⟨⟨by rw [k3.2 0 (by omega)]; exact t0, by rw [k3.2 1 (by omega)]; exact t1, by rw [k3.2 2 (by omega)]; exact t2, by rw [k3.2 3 (by omega)]; exact t3, t4⟩, fun h hh => ⟨by rw [k3.2 _ (by omega)]; exact (tb h hh).1, by rw [k3.2 _ (by omega)]; exact (tb h hh).2⟩, fun l hl => ⟨by rw [k3.2 _ (by omega)]; exact (tl' l hl).1, by rw [k3.2 _ (by omega)]; exact (tl' l hl).2.1, by rw [k3.2 _ (by omega)]; exact (tl' l hl).2.2⟩, tu, ts⟩
    have e80 : tb_up2 I4 70 24 0 80 = I4 80 := pu_u2p _ _ _ _ (by decide)
    have e703 : I4 70 = I2 70 := by rw [k3.1 70 (by decide), g4 70 (by decide)]
    refine ⟨tb_up2 I4 70 24 0, ?_, by rw [pu_u2k _ _ _ _ (by decide), e703]; exact b2, fun _ => ⟨by rw [e80]; exact k2, by rw [e80]; exact tm4, pu_u2s _ _ _ _, by rw [e80, k3.2 148 (by omega), g2 148 (by omega) (by omega), if_neg (by omega)]⟩, fun h => absurd hz h, fun q h1 h2 h3 h4 => by rw [pu_u2p _ _ _ _ h1, k3.1 q h4, g4 q h4]; exact fr2 q h1 h2 h3, fun k h1 h2 h3 h4 h5 h6 h7 h8 => by rw [pu_u2k _ _ _ _ h8, e703]; exact f70 k h1 h2 h3 h4 h5 h6 h7⟩
    rw [decide_eq_true hz, if_neg (by decide), if_pos hz]
    have e3 : tb_up2 I4 70 24 0 80 3 = nI (F.1 0 3) := by rw [e80]; exact tm4.1.2.2.2.1
    simp only [g1, Option.bind_some, pu_on (pu_m70 hM), k1, pu_pI (pu_m70 hM), pu_gN (pu_m70 hM), pu_r20 hM, show (3 : Int32) = nI 3 from rfl, pu_lI (pu_m80 hM) (show 3 < 149 by omega) (show 149 ≤ 100000 by omega), e3]
  · refine ⟨I2, ?_, b2, fun h => absurd h hz, fun _ => ⟨fr2 80 (by decide) (by decide) (by decide), f70 24 (by decide) (by decide) (by decide) (by decide) (by decide) (by decide) (by decide)⟩, fun q h1 h2 h3 _ => fr2 q h1 h2 h3, fun k h1 h2 h3 h4 h5 h6 h7 _ => f70 k h1 h2 h3 h4 h5 h6 h7⟩
    rw [decide_eq_false hz, if_pos (by decide), if_neg hz]
    simp only [pu_gI (pu_m70 hM), b4 hz, Option.bind_some]
end PURB
