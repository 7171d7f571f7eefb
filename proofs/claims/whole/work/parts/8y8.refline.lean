/-! ===== The reference reads a line, and the first clause ===== -/
theorem pu_rn_keep (lo hi f : Nat) (hf : f ≠ 0) : (pu_rn lo hi [] f).2.2 = f := by
  show pu_ft [] f 0 = f
  unfold pu_ft
  rw [if_neg hf]
theorem pu_rn_nil {lo hi : Nat} {r : List (Nat × Nat × Nat)} (hf : (pu_rn lo hi r 0).2.2 ≠ 0) : (pu_rn lo hi r 0).2.1 = [] := by
  unfold pu_rn at hf ⊢
  cases r with
  | nil => rfl
  | cons t r =>
    dsimp only at hf ⊢
    split at hf
    · exact absurd rfl hf
    · rename_i hx; rw [if_neg hx]
section PUR8
variable {s : List (Nat × Nat)} {R : Nat → Nat → Option Nat} {b : Nat → Nat} {tl : Nat}
theorem pu_l76 {I : Nat → Nat → Int32} {J : Nat → Nat → Int64} (hM : pu_M s R) {j : Nat} {a : Int32} (e : a = nI j) (hj : j < 118) : tb_lI [1, 9] 76 a (s, I, J, R) = some (I 76 j) := e ▸ pu_lI (pu_m76 hM) hj (by omega)
theorem pu_t76 {I : Nat → Nat → Int32} {J : Nat → Nat → Int64} (hM : pu_M s R) {j : Nat} {a v : Int32} (e : a = nI j) (hj : j < 118) : tb_tI 76 a v (s, I, J, R) = some (s, tb_up2 I 76 j v, J, R) := e ▸ pu_tI (pu_m76 hM) hj (by omega)
theorem pu_RS_76 {I : Nat → Nat → Int32} {r : List (Nat × Nat × Nat)} {k : Nat} {v : Int32} (h : pu_RS I b tl r) : pu_RS (tb_up2 I 76 k v) b tl r := by
  obtain ⟨c1, c2, q, c3, c4, c5⟩ := h
  exact ⟨⟨by rw [pu_u2p _ _ _ _ (by decide)]; exact c1.1, c1.2.1, fun k hk => by rw [pu_u2p _ _ _ _ (by decide)]; exact c1.2.2 k hk⟩, by rw [pu_u2p _ _ _ _ (by decide)]; exact c2, q, c3, by rw [pu_u2p _ _ _ _ (by decide)]; exact c4, c5⟩
theorem pu_m_line_ {I : Nat → Nat → Int32} {J : Nat → Nat → Int64} (hM : pu_M s R) {p c : Nat} {F : pu_A} (hb : pu_MB I b tl) (h9 : I 70 9 = 0) (hp : p ≤ tl) (e : I 70 8 = nI p) (hr : pu_Rdd I c F) (hc : c ≠ 0) (fv : pu_Fv F) (hsz : 0 < F.1 0 0) (h8 : F.1 0 3 < 8) (a : Int32) :
    ∃ I', fb_m_isLineHere 70 a (s, I, J, R) = some (pu_b (decide ((let x := pu_rn 0 (F.1 0 0) (pu_tt b tl (pu_le b tl p)) 0; let y := pu_rn (F.1 0 0) (2 * F.1 0 0) x.2.1 x.2.2; pu_rn 1 41 y.2.1 y.2.2).2.2 = 0)), (s, I', J, R)) ∧ pu_Cl I I' b tl c (let x := pu_rn 0 (F.1 0 0) (pu_tt b tl (pu_le b tl p)) 0; let y := pu_rn (F.1 0 0) (2 * F.1 0 0) x.2.1 x.2.2; let z := pu_rn 1 41 y.2.1 y.2.2; (if z.2.2 = 0 then pu_put F (F.1 0 3) x.1 y.1 z.1 else F, z.2)) := by
  have h5 := fv.1.1
  obtain ⟨I1, a1, a2, a3⟩ := pu_m_pass (J := J) hM hb h9 hp e
  generalize hrr : pu_tt b tl (pu_le b tl p) = r at *
  have e76 : I1 76 = I 76 := a2.1 76 (by decide)
  obtain ⟨⟨r0, r1, r2, r3⟩, rb, rl⟩ := hr
  have hi1 : (2 : Int32) * nI (F.1 0 0) - 1 = nI (2 * F.1 0 0 - 1) := by rw [pu_M2]; rw [show 2 * F.1 0 0 = (2 * F.1 0 0 - 1) + 1 by omega, nI_pred]; congr 1
  have hi0 : nI (F.1 0 0) - 1 = nI (F.1 0 0 - 1) := by rw [show F.1 0 0 = (F.1 0 0 - 1) + 1 by omega, nI_pred]; congr 1
  have ne8 : ¬ nI (F.1 0 3) = (8 : Int32) := by rw [show (8 : Int32) = nI 8 from rfl, pu_eqI (by omega) (by omega)]; omega
  have i0 : (94 : Int32) + 3 * nI (F.1 0 3) = nI (94 + 3 * F.1 0 3) := by rw [pu_M3, pu_L94]
  have i1 : (94 : Int32) + 3 * nI (F.1 0 3) + 1 = nI (94 + 3 * F.1 0 3 + 1) := by rw [i0, pu_R1]
  have i2 : (94 : Int32) + 3 * nI (F.1 0 3) + 2 = nI (94 + 3 * F.1 0 3 + 2) := by rw [i0, pu_R2]
  obtain ⟨I2, b1, b2, b3, b4, b5, b6⟩ := pu_m_cell (J := J) (lo := 0) (hi := F.1 0 0) hM a3 i0 (show 94 + 3 * F.1 0 3 < 118 by omega) (by omega) (by omega) (by omega) hi0
  rw [show nI 0 = 0 from rfl] at b1
  dsimp only
  unfold fb_m_isLineHere
  simp only [pu_gN (pu_m70 hM), pu_r7 hM, Option.bind_some, pu_l76 hM (show (3 : Int32) = nI 3 from rfl) (show 3 < 118 by omega), r3, ne8, ↓reduceIte, pu_on (pu_m70 hM), a1, e76, pu_l76 hM (show (1 : Int32) = nI 1 from rfl) (show 1 < 118 by omega), r1, b1, pu_b0, decide_eq_false_iff_not]
  by_cases f1 : (pu_rn 0 (F.1 0 0) r 0).2.2 = 0
  · obtain ⟨c1, c2⟩ := b5 f1
    have q1 : I2 76 1 = nI (F.1 0 0) := by rw [b4 1 (by omega), e76]; exact r1
    obtain ⟨I3, d1, d2, d3, d4, d5, d6⟩ := pu_m_cell (J := J) (lo := F.1 0 0) (hi := 2 * F.1 0 0) hM c1 i1 (show 94 + 3 * F.1 0 3 + 1 < 118 by omega) (by omega) (by omega) (by omega) hi1
    simp only [f1, not_true, ↓reduceIte, pu_gN (pu_m70 hM), pu_r7 hM, Option.bind_some, pu_l76 hM (show (1 : Int32) = nI 1 from rfl) (show 1 < 118 by omega), q1, pu_on (pu_m70 hM), d1, pu_b0, decide_eq_false_iff_not]
    by_cases f2 : (pu_rn (F.1 0 0) (2 * F.1 0 0) (pu_rn 0 (F.1 0 0) r 0).2.1 0).2.2 = 0
    · obtain ⟨g1, g2⟩ := d5 f2
      obtain ⟨I4, k1, k2, k3, k4, k5, k6⟩ := pu_m_cell (J := J) (lo := 1) (hi := 41) (a2 := 40) hM g1 i2 (show 94 + 3 * F.1 0 3 + 2 < 118 by omega) (by omega) (by omega) (by omega) rfl
      rw [show nI 1 = 1 from rfl] at k1
      have q3 : I4 76 3 = nI (F.1 0 3) := by rw [k4 3 (by omega), d4 3 (by omega), b4 3 (by omega), e76]; exact r3
      simp only [f2, not_true, ↓reduceIte, pu_on (pu_m70 hM), k1, Option.bind_some, pu_b0, decide_eq_false_iff_not]
      by_cases f3 : (pu_rn 1 41 (pu_rn (F.1 0 0) (2 * F.1 0 0) (pu_rn 0 (F.1 0 0) r 0).2.1 0).2.1 0).2.2 = 0
      · obtain ⟨m1, m2⟩ := k5 f3
        have w : ∀ k, k ≠ 94 + 3 * F.1 0 3 → k ≠ 94 + 3 * F.1 0 3 + 1 → k ≠ 94 + 3 * F.1 0 3 + 2 → I4 76 k = I 76 k := fun k h1 h2 h3 => by rw [k4 k h3, d4 k h2, b4 k h1, e76]
        have w0 : I4 76 (94 + 3 * F.1 0 3) = nI (pu_rn 0 (F.1 0 0) r 0).1 := by rw [k4 _ (by omega), d4 _ (by omega)]; exact c2
        have w1 : I4 76 (94 + 3 * F.1 0 3 + 1) = nI (pu_rn (F.1 0 0) (2 * F.1 0 0) (pu_rn 0 (F.1 0 0) r 0).2.1 0).1 := by rw [k4 _ (by omega)]; exact g2
        refine ⟨tb_up2 I4 76 3 (nI (F.1 0 3 + 1)), ?_, ⟨fun q h1 h2 => ?_, fun k h1 h2 h3 h4 => ?_⟩, ?_, fun _ => ⟨pu_RS_76 m1, ?_⟩, fun hz => absurd f3 hz⟩
        · simp only [f3, not_true, ↓reduceIte, pu_gN (pu_m70 hM), pu_r7 hM, Option.bind_some, pu_l76 hM (show (3 : Int32) = nI 3 from rfl) (show 3 < 118 by omega), q3, pu_R1, pu_t76 hM (show (3 : Int32) = nI 3 from rfl) (show 3 < 118 by omega), decide_true, pu_bt]
        · rw [pu_u2p _ _ _ _ h2, k2.1 q h1 h2, d2.1 q h1 h2, b2.1 q h1 h2, a2.1 q h1]
        · rw [pu_u2p _ _ _ _ (by decide), k2.2 k h1 h2 h3 h4, d2.2 k h1 h2 h3 h4, b2.2 k h1 h2 h3 h4, a2.2 k h1]
        · rw [pu_u2p _ _ _ _ (by decide), k3, d3, b3, a2.2 14 (by decide)]
        · dsimp only
          rw [if_pos f3]
          refine ⟨⟨by rw [pu_u2k _ _ _ _ (by decide), w 0 (by omega) (by omega) (by omega), if_neg (by omega)]; rw [if_neg hc] at r0; exact r0, by rw [pu_u2k _ _ _ _ (by decide), w 1 (by omega) (by omega) (by omega)]; exact r1, by rw [pu_u2k _ _ _ _ (by decide), w 2 (by omega) (by omega) (by omega)]; exact r2, ?_⟩, fun h hh => ?_, fun k hk => ?_⟩
          · rw [pu_u2s]
            show _ = nI (if F.1 0 3 = F.1 0 3 then F.1 0 3 + 1 else F.1 0 3)
            rw [if_pos rfl]
          · rw [pu_u2k _ _ _ _ (by omega), pu_u2k _ _ _ _ (by omega), w (74 + h) (by omega) (by omega) (by omega), w (84 + h) (by omega) (by omega) (by omega)]
            show _ = nI (if h = F.1 0 3 then F.1 1 h else F.1 1 h) ∧ _ = nI (if h = F.1 0 3 then F.1 2 h else F.1 2 h)
            rw [ite_self, ite_self]
            exact rb h hh
          · have hk : k < (if F.1 0 3 = F.1 0 3 then F.1 0 3 + 1 else F.1 0 3) := hk
            rw [if_pos rfl] at hk
            rw [pu_u2k _ _ _ _ (by omega), pu_u2k _ _ _ _ (by omega), pu_u2k _ _ _ _ (by omega)]
            show _ = nI (if k = F.1 0 3 then (pu_rn 0 (F.1 0 0) r 0).1 else F.1 3 k) ∧ _ = nI (if k = F.1 0 3 then (pu_rn (F.1 0 0) (2 * F.1 0 0) (pu_rn 0 (F.1 0 0) r 0).2.1 0).1 else F.1 4 k) ∧ _ = nI (if k = F.1 0 3 then (pu_rn 1 41 (pu_rn (F.1 0 0) (2 * F.1 0 0) (pu_rn 0 (F.1 0 0) r 0).2.1 0).2.1 0).1 else F.1 5 k)
            by_cases hkl : k = F.1 0 3
            · rw [if_pos hkl, if_pos hkl, if_pos hkl, hkl]
              exact ⟨w0, w1, m2⟩
            · rw [if_neg hkl, if_neg hkl, if_neg hkl, w (94 + 3 * k) (by omega) (by omega) (by omega), w (94 + 3 * k + 1) (by omega) (by omega) (by omega), w (94 + 3 * k + 2) (by omega) (by omega) (by omega)]
              exact rl k (by omega)
      · refine ⟨I4, ?_, ((pu_Uf.nf a2).tr b2).tr (d2.tr k2), by rw [k3, d3, b3, a2.2 14 (by decide)], fun hz => absurd hz f3, fun hz => k6 hz⟩
        simp only [f3, not_false_eq_true, ↓reduceIte, decide_false, pu_bf]
    · have ez := pu_rn_keep 1 41 _ f2
      have en := pu_rn_nil f2
      simp only [en, ez]
      refine ⟨I3, ?_, ((pu_Uf.nf a2).tr b2).tr d2, by rw [d3, b3, a2.2 14 (by decide)], fun hz => absurd (ez.symm.trans hz) f2, fun _ => (d6 f2).trans (by show _ = nI (pu_rn 1 41 [] _).2.2; rw [ez])⟩
      simp only [f2, not_false_eq_true, ↓reduceIte, decide_false, pu_bf]
  · have ey := pu_rn_keep (F.1 0 0) (2 * F.1 0 0) _ f1
    have en := pu_rn_nil f1
    have ez := pu_rn_keep 1 41 _ f1
    simp only [en, ey, show ∀ f, (pu_rn (F.1 0 0) (2 * F.1 0 0) [] f).2.1 = [] from fun _ => rfl, ez]
    refine ⟨I2, ?_, (pu_Uf.nf a2).tr b2, by rw [b3, a2.2 14 (by decide)], fun hz => absurd (ez.symm.trans hz) f1, fun _ => (b6 f1).trans (by show _ = nI (pu_rn 1 41 [] _).2.2; rw [ez])⟩
    simp only [f1, not_false_eq_true, ↓reduceIte, decide_false, pu_bf]
theorem pu_m_street_ {I : Nat → Nat → Int32} {J : Nat → Nat → Int64} (hM : pu_M s R) {p : Nat} {F : pu_A} (hb : pu_MB I b tl) (h9 : I 70 9 = 0) (hp : p ≤ tl) (e : I 70 8 = nI p) (hr : pu_Rdd I 0 F) (h3 : F.1 0 3 = 0) (a : Int32) :
    ∃ I', fb_m_isStreetHere 70 a (s, I, J, R) = some (pu_b (decide ((pu_rn 0 10 (pu_rn 1 6 (pu_tt b tl (pu_le b tl p)) 0).2.1 (pu_rn 1 6 (pu_tt b tl (pu_le b tl p)) 0).2.2).2.2 = 0)), (s, I', J, R)) ∧ pu_Cl I I' b tl 0 (pu_hs2 F (pu_rn 1 6 (pu_tt b tl (pu_le b tl p)) 0).1 (pu_rn 0 10 (pu_rn 1 6 (pu_tt b tl (pu_le b tl p)) 0).2.1 (pu_rn 1 6 (pu_tt b tl (pu_le b tl p)) 0).2.2).1, (pu_rn 0 10 (pu_rn 1 6 (pu_tt b tl (pu_le b tl p)) 0).2.1 (pu_rn 1 6 (pu_tt b tl (pu_le b tl p)) 0).2.2).2) := by
  obtain ⟨I1, a1, a2, a3⟩ := pu_m_pass (J := J) hM hb h9 hp e
  generalize hrr : pu_tt b tl (pu_le b tl p) = r at *
  have e76 : I1 76 = I 76 := a2.1 76 (by decide)
  obtain ⟨⟨r0, r1, r2, r3⟩, rb, rl⟩ := hr
  rw [if_pos rfl] at r0
  obtain ⟨I2, b1, b2, b3, b4, b5, b6⟩ := pu_m_cell (J := J) (lo := 1) (hi := 6) (ac := 1) (a2 := 5) hM a3 (show (1 : Int32) = nI 1 from rfl) (show 1 < 118 by omega) (by omega) (by omega) (by omega) rfl
  rw [show nI 1 = 1 from rfl] at b1
  unfold fb_m_isStreetHere
  simp only [pu_gN (pu_m70 hM), pu_r7 hM, Option.bind_some, pu_l76 hM (show (0 : Int32) = nI 0 from rfl) (show 0 < 118 by omega), r0, show ¬ ((0 : Int32) < 0) by decide, ↓reduceIte, pu_on (pu_m70 hM), a1, b1, pu_b0, decide_eq_false_iff_not]
  by_cases f1 : (pu_rn 1 6 r 0).2.2 = 0
  · obtain ⟨c1, c2⟩ := b5 f1
    obtain ⟨I3, d1, d2, d3, d4, d5, d6⟩ := pu_m_cell (J := J) (lo := 0) (hi := 10) (ac := 2) (a2 := 9) hM c1 (show (2 : Int32) = nI 2 from rfl) (show 2 < 118 by omega) (by omega) (by omega) (by omega) rfl
    rw [show nI 0 = 0 from rfl] at d1
    simp only [f1, not_true, ↓reduceIte, pu_on (pu_m70 hM), d1, Option.bind_some, pu_b0, decide_eq_false_iff_not]
    by_cases f2 : (pu_rn 0 10 (pu_rn 1 6 r 0).2.1 0).2.2 = 0
    · obtain ⟨g1, g2⟩ := d5 f2
      refine ⟨tb_up2 I3 76 0 1, ?_, ⟨fun q h1 h2 => ?_, fun k h1 h2 h3 h4 => ?_⟩, ?_, fun _ => ⟨pu_RS_76 g1, ?_⟩, fun hz => absurd f2 hz⟩
      · simp only [f2, not_true, ↓reduceIte, pu_gN (pu_m70 hM), pu_r7 hM, Option.bind_some, pu_t76 hM (show (0 : Int32) = nI 0 from rfl) (show 0 < 118 by omega), decide_true, pu_bt]
      · rw [pu_u2p _ _ _ _ h2, d2.1 q h1 h2, b2.1 q h1 h2, a2.1 q h1]
      · rw [pu_u2p _ _ _ _ (by decide), d2.2 k h1 h2 h3 h4, b2.2 k h1 h2 h3 h4, a2.2 k h1]
      · rw [pu_u2p _ _ _ _ (by decide), d3, b3, a2.2 14 (by decide)]
      · have w : ∀ k, k ≠ 0 → k ≠ 1 → k ≠ 2 → tb_up2 I3 76 0 1 76 k = I 76 k := fun k h0 h1 h2 => by rw [pu_u2k _ _ _ _ h0, d4 k h2, b4 k h1, e76]
        have er : ∀ v1 v2 i k, i ≠ 0 → (pu_hs2 F v1 v2).1 i k = F.1 i k := fun v1 v2 i k hi => by show tb_up2 (tb_up2 F.1 0 0 v1) 0 1 v2 i k = _; rw [pu_u2p _ _ _ _ hi, pu_u2p _ _ _ _ hi]
        have e3 : ∀ v1 v2, (pu_hs2 F v1 v2).1 0 3 = F.1 0 3 := fun v1 v2 => by show tb_up2 (tb_up2 F.1 0 0 v1) 0 1 v2 0 3 = _; rw [pu_u2k _ _ _ _ (by decide), pu_u2k _ _ _ _ (by decide)]
        refine ⟨⟨by rw [pu_u2s]; rfl, ?_, ?_, ?_⟩, fun h hh => ?_, fun k hk => ?_⟩
        · show _ = nI (tb_up2 (tb_up2 F.1 0 0 (pu_rn 1 6 r 0).1) 0 1 (pu_rn 0 10 (pu_rn 1 6 r 0).2.1 0).1 0 0)
          rw [pu_u2k _ _ _ _ (by decide), pu_u2k _ _ _ _ (by decide), pu_u2s, d4 1 (by omega)]; exact c2
        · show _ = nI (tb_up2 (tb_up2 F.1 0 0 (pu_rn 1 6 r 0).1) 0 1 (pu_rn 0 10 (pu_rn 1 6 r 0).2.1 0).1 0 1)
          rw [pu_u2k _ _ _ _ (by decide), pu_u2s]; exact g2
        · rw [e3, w 3 (by omega) (by omega) (by omega)]; exact r3
        · rw [er _ _ 1 h (by decide), er _ _ 2 h (by decide), w (74 + h) (by omega) (by omega) (by omega), w (84 + h) (by omega) (by omega) (by omega)]; exact rb h hh
        · rw [e3, h3] at hk; exact absurd hk (Nat.not_lt_zero _)
    · refine ⟨I3, ?_, (pu_Uf.nf a2).tr (b2.tr d2), by rw [d3, b3, a2.2 14 (by decide)], fun hz => absurd hz f2, fun hz => d6 hz⟩
      simp only [f2, not_false_eq_true, ↓reduceIte, decide_false, pu_bf]
  · have en := pu_rn_nil f1
    have ez := pu_rn_keep 0 10 _ f1
    simp only [en, ez]
    refine ⟨I2, ?_, (pu_Uf.nf a2).tr b2, by rw [b3, a2.2 14 (by decide)], fun hz => absurd (ez.symm.trans hz) f1, fun _ => (b6 f1).trans (by show _ = nI (pu_rn 0 10 [] _).2.2; rw [ez])⟩
    simp only [f1, not_false_eq_true, ↓reduceIte, decide_false, pu_bf]
end PUR8
