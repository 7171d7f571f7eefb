/-! ===== winters of the reference ===== -/
section PUm
variable {s : List (Nat × Nat)} {R : Nat → Nat → Option Nat} {I : Nat → Nat → Int32} {J : Nat → Nat → Int64} {A : pu_A} {ro : Option pu_Ru} {D : Nat → Nat}
theorem pu_Tf.j {k : Nat} {x : Int64} : pu_Tf I I J (tb_up2 J 70 k x) := ⟨fun _ _ _ _ => rfl, fun _ _ => rfl, fun _ _ => rfl, fun _ h _ _ => pu_u2p _ _ _ _ h⟩
theorem pu_m_wa (hD : pu_DR D) (hM : pu_M s R) {p N : Nat} {m w x y j : Int32} (hp : p ≤ 100) (hN : N ≤ 60) : ∀ d i n I J z B, i + d = N → d < n → pu_Q (I 80) B → pu_wf B → pu_FM I ro → z < 2147483648 → J 70 31 = lN z → 0 < B.1 0 0 → (∀ k, B.1 1 k ≤ 100 + i) →
    ∃ I' J', fl_m_winters_47 n 70 m (nI N) (nI p) w x y j (nI i) (s, I, J, R) = some (70, m, nI N, nI p, w, x, y, j, (s, I', J', R)) ∧ pu_Q (I' 80) (pu_wa D ro p d z B).2 ∧ pu_wf (pu_wa D ro p d z B).2 ∧ J' 70 31 = lN (pu_wa D ro p d z B).1 ∧ (pu_wa D ro p d z B).1 < 2147483648 ∧ I' 82 = I 82 ∧ pu_Tf I I' J J' := by
  intro d
  induction d with
  | zero =>
    intro i n I J z B hi hn q wf hF hz e h0 hb
    obtain ⟨n, rfl⟩ : ∃ z, n = z + 1 := ⟨n - 1, by omega⟩
    unfold fl_m_winters_47
    simp only [pu_ltI (show i < 2147483648 by omega) (show N < 2147483648 by omega), show ¬ i < N by omega, ↓reduceIte]
    exact ⟨I, J, rfl, q, wf, e, hz, rfl, pu_Tf.rf⟩
  | succ d ih =>
    intro i n I J z B hi hn q wf hF hz e h0 hb
    obtain ⟨n, rfl⟩ : ∃ z, n = z + 1 := ⟨n - 1, by omega⟩
    have h5 := wf.1
    have hd := hD.1 z
    have hd2 := hD.1 (D z)
    have hm : D z / 65536 % 100 < 100 := Nat.mod_lt _ (by decide)
    have hm2 : D (D z) / 65536 % (2 * B.1 0 0) < 2 * B.1 0 0 := Nat.mod_lt _ (by omega)
    have es : pu_wa D ro p (d + 1) z B = pu_wa D ro p d (pu_sn D p z B).1 (pu_year ro (pu_sn D p z B).2) := rfl
    have wf1 : pu_wf (pu_sn D p z B).2 := pu_sn_wf wf (fun k => by have := hb k; omega)
    -- behind the snow: a year, and on
    have go : ∀ (I1 : Nat → Nat → Int32) (J1 : Nat → Nat → Int64), pu_Q (I1 80) (pu_sn D p z B).2 → J1 70 31 = lN (pu_sn D p z B).1 → I1 82 = I 82 → pu_Tf I I1 J J1 →
        ∃ I' J', ((tb_on 22 70 (s, I1, J1, R) (fb_m_passes 70 (s, I1, J1, R))).bind fun x15 => fl_m_winters_47 n 70 m (nI N) (nI p) w x y j (nI i + 1) x15.2) = some (70, m, nI N, nI p, w, x, y, j, (s, I', J', R)) ∧ pu_Q (I' 80) (pu_wa D ro p (d + 1) z B).2 ∧ pu_wf (pu_wa D ro p (d + 1) z B).2 ∧ J' 70 31 = lN (pu_wa D ro p (d + 1) z B).1 ∧ (pu_wa D ro p (d + 1) z B).1 < 2147483648 ∧ I' 82 = I 82 ∧ pu_Tf I I' J J' := by
      intro I1 J1 q1 e1 e82 f1
      obtain ⟨I2, J2, b1, b2, b3⟩ := pu_m_passes (I := I1) (J := J1) (ro := ro) hM q1 wf1 (pu_FM_tf f1 hF)
      have f2 : pu_Tf I I2 J J2 := f1.tr (pu_Tf.pf b3)
      simp only [pu_on (pu_m70 hM), b1, Option.bind_some]
      rw [← nI_succ, es]
      obtain ⟨I', J', c1, c2, c3, c4, c5, c6, c7⟩ := ih (i + 1) n I2 J2 (pu_sn D p z B).1 (pu_year ro (pu_sn D p z B).2) (by omega) (by omega) b2 (pu_year_wf wf1) (pu_FM_tf f2 hF) (pu_sn_lt hD) (by rw [b3.2.2.2 70 (by decide) (by decide)]; exact e1) (by rw [pu_year_r 0 0 (by omega) (fun _ => by omega), pu_sn_0]; exact h0) (fun k => by
        rw [pu_year_r 1 k (by omega) (fun h => by omega)]
        have := pu_sn_b (D := D) (p := p) (z := z) hb k
        omega)
      exact ⟨I', J', c1, c2, c3, c4, c5, by rw [c6, b3.1 82 (by decide) (by decide), e82], f2.tr c7⟩
    have hdr := pu_m_draw (I := I) (J := J) hD hM hz (show 0 < 100 by decide) (show 100 < 2147483648 by decide) e
    have hdr2 := pu_m_draw (I := I) (J := tb_up2 J 70 31 (lN (D z))) hD hM hd (show 0 < 2 * B.1 0 0 by omega) (show 2 * B.1 0 0 < 2147483648 by omega) (pu_u2s _ _ _ _)
    have hdr : fb_m_draw 70 100 (s, I, J, R) = some (nI (D z / 65536 % 100), (s, I, tb_up2 J 70 31 (lN (D z)), R)) := hdr
    rw [fl_m_winters_47.eq_2]
    simp only [pu_ltI (show i < 2147483648 by omega) (show N < 2147483648 by omega), show i < N by omega, ↓reduceIte, pu_on (pu_m70 hM), hdr, Option.bind_some, pu_ltI (show D z / 65536 % 100 < 2147483648 by omega) (show p < 2147483648 by omega)]
    by_cases hc : D z / 65536 % 100 < p
    · have esn : pu_sn D p z B = (D (D z), pu_n B 1 (D (D z) / 65536 % (2 * B.1 0 0)) (B.1 1 (D (D z) / 65536 % (2 * B.1 0 0)) + 1)) := by
        unfold pu_sn
        rw [if_pos hc]
      rw [esn] at go
      simp only [hc, ↓reduceIte, pu_gN (pu_m70 hM), pu_r20 hM, Option.bind_some, pu_on (pu_m70 hM), pu_m_houses hM q, hdr2, pu_cell' hM (pu_L12 (D (D z) / 65536 % (2 * B.1 0 0))) (show 12 + D (D z) / 65536 % (2 * B.1 0 0) < 149 by omega), (q.2.1 (D (D z) / 65536 % (2 * B.1 0 0)) (by omega)).1, pu_R1, pu_put' hM (pu_L12 (D (D z) / 65536 % (2 * B.1 0 0))) (show 12 + D (D z) / 65536 % (2 * B.1 0 0) < 149 by omega)]
      have g := go (tb_up2 I 80 (12 + D (D z) / 65536 % (2 * B.1 0 0)) (nI (B.1 1 (D (D z) / 65536 % (2 * B.1 0 0)) + 1))) (tb_up2 (tb_up2 J 70 31 (lN (D z))) 70 31 (lN (D (D z)))) (pu_Q_n1 q wf (show D (D z) / 65536 % (2 * B.1 0 0) < 10 by omega) _) (pu_u2s _ _ _ _) (pu_u2p _ _ _ _ (by decide)) ((pu_Tf.j.tr pu_Tf.j).tr (pu_Tf.mf (pu_Mf.u2 (by omega) (by omega))))
      rw [pu_on (pu_m70 hM), ← nI_succ] at g
      exact g
    · have esn : pu_sn D p z B = (D z, B) := by
        unfold pu_sn
        rw [if_neg hc]
      rw [esn] at go
      simp only [hc, ↓reduceIte]
      have g := go I (tb_up2 J 70 31 (lN (D z))) q (pu_u2s _ _ _ _) rfl pu_Tf.j
      rw [pu_on (pu_m70 hM)] at g
      exact g
theorem pu_m_wb {I0 : Nat → Nat → Int32} {J0 : Nat → Nat → Int64} (hD : pu_DR D) (hM : pu_M s R) (q : pu_Q (I0 80) A) (wf : pu_wf A) (hF : pu_FM I0 ro) {p N M : Nat} {w : Int32} (hp : p ≤ 100) (hN : N ≤ 60) (hM1 : M ≤ 10) (h0 : 0 < A.1 0 0) (hb : ∀ k, A.1 1 k ≤ 100) : ∀ d i n I J z a b, i + d = M → d < n → pu_Zf I0 I J0 J → (∀ k, k < 64 → I 82 k = I0 80 (10 + k)) → z < 2147483648 → J 70 31 = lN z →
    ∃ I' J', fl_m_winters_42 n 70 (nI M) (nI N) (nI p) w (nI a) (nI b) (nI i) (s, I, J, R) = some (w, nI (pu_wb D ro p N A d z a b).1, nI (pu_wb D ro p N A d z a b).2, (s, I', J', R)) ∧ pu_Zf I0 I' J0 J' := by
  intro d
  induction d with
  | zero =>
    intro i n I J z a b hi hn f h82 hz e
    obtain ⟨n, rfl⟩ : ∃ z, n = z + 1 := ⟨n - 1, by omega⟩
    unfold fl_m_winters_42
    simp only [pu_ltI (show i < 2147483648 by omega) (show M < 2147483648 by omega), show ¬ i < M by omega, ↓reduceIte]
    exact ⟨I, J, rfl, f⟩
  | succ d ih =>
    intro i n I J z a b hi hn f h82 hz e
    obtain ⟨n, rfl⟩ : ∃ z, n = z + 1 := ⟨n - 1, by omega⟩
    have q1 : pu_Q (I 80) A := by rw [f.1 80 (by decide) (by omega)]; exact q
    obtain ⟨I2, J2, b1, b2, b3, b4, b5, b6, b7⟩ := pu_m_wa (ro := ro) (m := nI M) (w := w) (x := nI a) (y := nI b) (j := nI i) hD hM hp hN N 0 1048576 I J z A (by omega) (by omega) q1 wf (pu_FM_tf (pu_Tf.zf f) hF) hz e h0 (fun k => by have := hb k; omega)
    rw [show nI 0 = 0 from rfl] at b1
    have h822 : ∀ k, k < 64 → I2 82 k = I0 80 (10 + k) := fun k hk => by rw [b6]; exact h82 k hk
    obtain ⟨I3, c1, c2, c3, -⟩ := pu_m_laysBack (I := I2) (I0 := I0) (J := J2) (J0 := J0) hM h822 ((pu_Tf.zf f).tr b7)
    rw [fl_m_winters_42.eq_2]
    simp only [pu_ltI (show i < 2147483648 by omega) (show M < 2147483648 by omega), show i < M by omega, ↓reduceIte, b1, Option.bind_some, pu_on (pu_m70 hM), pu_m_standingOnes hM b2 b3, pu_m_linesUp hM b2 b3, pu_m_bits, pu_m_bits8, c1, nI_add]
    rw [← nI_succ]
    exact ih (i + 1) n I3 J2 _ _ _ (by omega) (by omega) c2 (fun k hk => by rw [c3]; exact h822 k hk) b5 b4
theorem pu_m_winters (hD : pu_DR D) (hM : pu_M s R) (q : pu_Q (I 80) A) (wf : pu_wf A) (hF : pu_FM I ro) (hb : ∀ k, A.1 1 k ≤ 100) {z : Nat} (hz : z < 2147483648) (ez : I 70 22 = nI z) (a b c d : Int32) : ∃ I' J', fb_m_winters 70 a b c d (s, I, J, R) = some (pu_a_winters D ro A z a b c d, (s, I', J', R)) ∧ pu_Zf I I' J J' := by
  unfold fb_m_winters pu_a_winters
  simp only [pu_on (pu_m70 hM), pu_m_isStreet hM q, Option.bind_some, pu_b0, decide_eq_false_iff_not, pu_m_in a 1 10 (show (1 : Int64) = (1 : Int32).toInt64 from rfl) (show (10 : Int64) = (10 : Int32).toInt64 from rfl), pu_m_in b 1 60 (show (1 : Int64) = (1 : Int32).toInt64 from rfl) (show (60 : Int64) = (60 : Int32).toInt64 from rfl), pu_m_in c 0 100 (show (0 : Int64) = (0 : Int32).toInt64 from rfl) (show (100 : Int64) = (100 : Int32).toInt64 from rfl), pu_m_in d 0 1 (show (0 : Int64) = (0 : Int32).toInt64 from rfl) (show (1 : Int64) = (1 : Int32).toInt64 from rfl)]
  by_cases h0 : A.1 0 0 = 0
  · simp only [h0, Nat.lt_irrefl, not_false_eq_true, ↓reduceIte]
    exact ⟨I, J, rfl, pu_Zf.rf⟩
  · simp only [show 0 < A.1 0 0 by omega, not_true, ↓reduceIte, h0]
    cases h1 : pu_wi a 1 10
    · simp only [↓reduceIte]
      exact ⟨I, J, rfl, pu_Zf.rf⟩
    · cases h2 : pu_wi b 1 60
      · simp only [Bool.true_eq_false, ↓reduceIte]
        exact ⟨I, J, rfl, pu_Zf.rf⟩
      · cases h3 : pu_wi c 0 100
        · simp only [Bool.true_eq_false, ↓reduceIte]
          exact ⟨I, J, rfl, pu_Zf.rf⟩
        · cases h4 : pu_wi d 0 1
          · simp only [Bool.true_eq_false, ↓reduceIte]
            exact ⟨I, J, rfl, pu_Zf.rf⟩
          · obtain ⟨M, hM1, rfl, -⟩ := pu_wi_n h1 (by decide) (show (10 : Int32) = nI 10 from rfl) (by omega)
            obtain ⟨N, hN, rfl, -⟩ := pu_wi_n h2 (by decide) (show (60 : Int32) = nI 60 from rfl) (by omega)
            obtain ⟨p, hp, rfl, -⟩ := pu_wi_n h3 (by decide) (show (100 : Int32) = nI 100 from rfl) (by omega)
            obtain ⟨I1, a1, a2, a3⟩ := pu_m_keeps (I := I) (J := tb_up2 J 70 31 (lN z)) hM
            have f1 : pu_Zf I I1 J (tb_up2 J 70 31 (lN z)) := ⟨fun z _ h3 => a3 z (by omega), fun k _ => congrFun (a3 70 (by decide)) k, fun _ h _ _ => pu_u2p _ _ _ _ h⟩
            obtain ⟨I2, J2, b1, b2⟩ := pu_m_wb (I0 := I) (J0 := J) (ro := ro) (w := d) hD hM q wf hF hp hN hM1 (by omega) hb M 0 1048576 I1 (tb_up2 J 70 31 (lN z)) z 0 0 (by omega) (by omega) f1 a2 hz (pu_u2s _ _ _ _)
            rw [show nI 0 = 0 from rfl] at b1
            simp only [Bool.true_eq_false, ↓reduceIte, pu_gI (pu_m70 hM), Option.bind_some, ez, nI_l (show z < 2 ^ 31 from hz), pu_pJ (pu_m70 hM), a1, pu_on (pu_m70 hM), b1]
            rw [pu_cl (show M < 2147483648 by omega), pu_cl (show N < 2147483648 by omega), pu_cl (show p < 2147483648 by omega)]
            refine ⟨I2, J2, ?_, b2⟩
            split <;> rfl
end PUm
