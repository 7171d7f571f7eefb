/-! ===== The reference reads a street ===== -/
theorem pu_sp_idem {b : Nat → Nat} {tl p : Nat} (hp : p ≤ tl) (h32 : p < tl → b p ≠ 32) : pu_sp b tl p = p := by
  unfold pu_sp
  by_cases hlt : p < tl
  · obtain ⟨n, hn⟩ : ∃ n, tl - p = n + 1 := ⟨tl - p - 1, by omega⟩
    rw [hn]
    show (if (!decide (b p = 32)) = true then p else _) = p
    rw [decide_eq_false (h32 hlt), if_pos (by decide)]
  · rw [show tl - p = 0 by omega]; rfl
section PUR9
variable {s : List (Nat × Nat)} {R : Nat → Nat → Option Nat} {b : Nat → Nat} {tl : Nat}
/-- a word at a place past spaces -/
theorem pu_m_isW {I : Nat → Nat → Int32} {J : Nat → Nat → Int64} (hM : pu_M s R) (h : pu_MB I b tl) {p : Nat} (hp : p ≤ tl) (h32 : p < tl → b p ≠ 32) (e : I 70 8 = nI p) {k : Nat} (hk : k < 19) {W : Int64} (hW : W = lN (pu_wv (pu_wl.getD k []))) : ∃ I', fb_m_isWord 70 W (s, I, J, R) = some (pu_b (decide (pu_hk (pu_tt b tl p) = 20 + k)), (s, I', J, R)) ∧ I' 70 8 = nI p ∧ pu_Nf I I' := by
  obtain ⟨I', a1, a2, a3⟩ := pu_m_isWord (J := J) hM h hp e hk hW
  rw [pu_sp_idem hp h32] at a2
  exact ⟨I', a1, a2, a3⟩
theorem pu_W12 : (126943972648308 : Int64) = lN (pu_wv (pu_wl.getD 12 [])) := by decide
theorem pu_W13 : (448546567013 : Int64) = lN (pu_wv (pu_wl.getD 13 [])) := by decide
theorem pu_W0 : (1818848869 : Int64) = lN (pu_wv (pu_wl.getD 0 [])) := by decide
theorem pu_m_isStreetWord {I : Nat → Nat → Int32} {J : Nat → Nat → Int64} (hM : pu_M s R) (h : pu_MB I b tl) {p : Nat} (hp : p ≤ tl) (h32 : p < tl → b p ≠ 32) (e : I 70 8 = nI p) : ∃ I', fb_m_isStreetWord 70 (s, I, J, R) = some (pu_b (decide (pu_hk (pu_tt b tl p) = 32 ∨ pu_hk (pu_tt b tl p) = 33 ∨ pu_hk (pu_tt b tl p) = 20)), (s, I', J, R)) ∧ I' 70 8 = nI p ∧ pu_Nf I I' := by
  obtain ⟨I1, a1, a2, a3⟩ := pu_m_isW (J := J) hM h hp h32 e (show 12 < 19 by omega) pu_W12
  obtain ⟨I2, b1, b2, b3⟩ := pu_m_isW (J := J) hM (h.nf a3) hp h32 a2 (show 13 < 19 by omega) pu_W13
  obtain ⟨I3, c1, c2, c3⟩ := pu_m_isW (J := J) hM ((h.nf a3).nf b3) hp h32 b2 (show 0 < 19 by omega) pu_W0
  unfold fb_m_isStreetWord
  simp only [pu_on (pu_m70 hM), a1, b1, c1, Option.bind_some, pu_b0, decide_eq_false_iff_not]
  by_cases x1 : pu_hk (pu_tt b tl p) = 32
  · refine ⟨I1, ?_, a2, a3⟩
    simp only [x1, show 20 + 12 = 32 from rfl, not_true, ↓reduceIte, true_or, decide_true, pu_bt]
  · by_cases x2 : pu_hk (pu_tt b tl p) = 33
    · refine ⟨I2, ?_, b2, a3.tr b3⟩
      simp only [x2, show 20 + 12 = 32 from rfl, show 20 + 13 = 33 from rfl, show ¬ (33 = 32) by decide, not_true, not_false_eq_true, ↓reduceIte, true_or, or_true, decide_true, pu_bt]
    · by_cases x3 : pu_hk (pu_tt b tl p) = 20
      · refine ⟨I3, ?_, c2, (a3.tr b3).tr c3⟩
        simp only [x3, show 20 + 12 = 32 from rfl, show 20 + 13 = 33 from rfl, show 20 + 0 = 20 from rfl, show ¬ (20 = 32) by decide, show ¬ (20 = 33) by decide, not_true, not_false_eq_true, ↓reduceIte, or_true, decide_true, pu_bt]
      · refine ⟨I3, ?_, c2, (a3.tr b3).tr c3⟩
        simp only [x1, x2, x3, show 20 + 12 = 32 from rfl, show 20 + 13 = 33 from rfl, show 20 + 0 = 20 from rfl, not_false_eq_true, ↓reduceIte, or_self, decide_false, pu_bf]
theorem pu_tz (x : Bool) (w : tb_Hp) : tb_z (pu_b x) w = some (pu_b x, w) := by
  unfold tb_z
  cases x
  · rw [if_pos (by decide)]
  · rw [if_pos (by decide)]
theorem pu_m_clause {I : Nat → Nat → Int32} {J : Nat → Nat → Int64} (hM : pu_M s R) {r : List (Nat × Nat × Nat)} {c : Nat} {F : pu_A} (h : pu_RS I b tl r) (h11 : I 70 11 = 6) (h14 : I 70 14 = nI c) (hc : c ≤ 40) (hr : pu_Rdd I c F) (fv : pu_Fv F) (hc0 : c = 0 → F.1 0 3 = 0) (hsz : c ≠ 0 → 0 < F.1 0 0) :
    ∃ I', fb_m_clauseHere 70 (s, I, J, R) = some (pu_b (decide ((pu_cla c F r 0).2.2 = 0)), (s, I', J, R)) ∧ pu_Uf I I' ∧ ((pu_cla c F r 0).2.2 = 0 → pu_RS I' b tl (pu_cla c F r 0).2.1 ∧ pu_Rdd I' (c + 1) (pu_cla c F r 0).1 ∧ I' 70 14 = nI (c + 1)) ∧ ((pu_cla c F r 0).2.2 ≠ 0 → I' 70 9 = nI (pu_cla c F r 0).2.2) := by
  obtain ⟨hb, h9, q, hq, e8, rfl⟩ := h
  have h400 := hb.2.1
  obtain ⟨I1, a1, a2, a3⟩ := pu_m_see (J := J) hM hb hq e8
  have hs := pu_sp_le b hq
  have h32 : pu_sp b tl q < tl → b (pu_sp b tl q) ≠ 32 := fun hx => pu_sp_ne hq hx
  rw [pu_tt_sp b hq]
  generalize pu_sp b tl q = p at *
  have hb1 := hb.nf a3
  obtain ⟨I2, b1, b2, b3⟩ := pu_m_isStreetWord (J := J) hM hb1 hs.1 h32 a2
  have hb2 := hb1.nf b3
  have n12 := a3.tr b3
  have h92 : I2 70 9 = 0 := by rw [n12.2 9 (by decide)]; exact h9
  have h142 : I2 70 14 = nI c := by rw [n12.2 14 (by decide)]; exact h14
  have hr2 : pu_Rdd I2 c F := pu_Rdd_eq (n12.1 76 (by decide)) hr
  obtain ⟨t, r1, et, tp, tw⟩ := pu_hd hs.1 h32
  have hk : pu_hk (pu_tt b tl p) = t.1 := by rw [et]; rfl
  rw [hk] at b1
  have ecl : fb_m_clauseHere 70 (s, I, J, R) = (if t.1 = 32 ∨ t.1 = 33 ∨ t.1 = 20 then fj_m_clauseHere_j29 70 (nI p) 1 (s, I2, J, R) else (tb_on 22 70 (s, I2, J, R) (fb_m_fails 70 0 (nI p) (s, I2, J, R))).bind fun x13 => tb_z x13.1 x13.2) := by
    unfold fb_m_clauseHere
    simp only [pu_on (pu_m70 hM), a1, Option.bind_some, pu_gI (pu_m70 hM), a2, a3.2 11 (by decide), h11, ↓reduceIte, fj_m_clauseHere_j13, show ¬ ((1 : Int32) = 0) by decide, b1, pu_b0, decide_eq_false_iff_not]
    by_cases x : t.1 = 32 ∨ t.1 = 33 ∨ t.1 = 20
    · simp only [x, not_true, ↓reduceIte]
    · simp only [x, not_false_eq_true, ↓reduceIte]
  rw [ecl, et]
  have ft0 : ∀ why, pu_ft (t :: r1) 0 why = 1 + 8 * p + why := fun why => by unfold pu_ft; rw [if_pos rfl]; dsimp only; rw [tp]
  -- a fault of kind why, at heap I3
  have bad : ∀ (why : Nat) (I3 : Nat → Nat → Int32), pu_Uf I I3 → I3 70 9 = 0 → pu_cla c F (t :: r1) 0 = (F, [], pu_ft (t :: r1) 0 why) → ∃ I', (tb_on 22 70 (s, I3, J, R) (fb_m_fails 70 (nI why) (nI p) (s, I3, J, R))).bind (fun x13 => tb_z x13.1 x13.2) = some (pu_b (decide ((pu_cla c F (t :: r1) 0).2.2 = 0)), (s, I', J, R)) ∧ pu_Uf I I' ∧ ((pu_cla c F (t :: r1) 0).2.2 = 0 → pu_RS I' b tl (pu_cla c F (t :: r1) 0).2.1 ∧ pu_Rdd I' (c + 1) (pu_cla c F (t :: r1) 0).1 ∧ I' 70 14 = nI (c + 1)) ∧ ((pu_cla c F (t :: r1) 0).2.2 ≠ 0 → I' 70 9 = nI (pu_cla c F (t :: r1) 0).2.2) := by
    intro why I3 u3 z3 e
    rw [e, ft0]
    have hf := pu_m_fails (J := J) hM z3 why p
    refine ⟨tb_up2 I3 70 9 (nI (1 + 8 * p + why)), ?_, ⟨fun q h1 h2 => by rw [pu_u2p _ _ _ _ h1]; exact u3.1 q h1 h2, fun k h1 h2 h3 h4 => by rw [pu_u2k _ _ _ _ h2]; exact u3.2 k h1 h2 h3 h4⟩, fun hz => ?_, fun _ => pu_u2s _ _ _ _⟩
    · rw [pu_on (pu_m70 hM), hf, Option.bind_some, decide_eq_false (show ¬ (1 + 8 * p + why = 0) by omega)]
      rfl
    · have hz : 1 + 8 * p + why = 0 := hz
      omega
  by_cases hw : t.1 = 32 ∨ t.1 = 33 ∨ t.1 = 20
  · rw [if_pos hw]
    obtain ⟨plt, rr⟩ := tw (by omega)
    have e40 : (nI c = (40 : Int32)) = (c = 40) := pu_eqI (b := 40) (by omega) (by omega)
    have j36 : fj_m_clauseHere_j29 70 (nI p) 1 (s, I2, J, R) = (if c = 40 then (tb_on 22 70 (s, I2, J, R) (fb_m_fails 70 4 (nI p) (s, I2, J, R))).bind (fun x7 => tb_z x7.1 x7.2) else (tb_on 22 70 (s, tb_up2 I2 70 14 (nI (c + 1)), J, R) (fb_m_streetLineHere 70 (nI p) (s, tb_up2 I2 70 14 (nI (c + 1)), J, R))).bind fun x11 => tb_z x11.1 x11.2) := by
      unfold fj_m_clauseHere_j29 fj_m_clauseHere_j36
      simp only [pu_gI (pu_m70 hM), h142, Option.bind_some, show ¬ ((1 : Int32) = 0) by decide, ↓reduceIte, e40, pu_R1, pu_pI (pu_m70 hM)]
    rw [j36]
    by_cases c40 : c = 40
    · rw [if_pos c40]
      refine bad 4 I2 (pu_Uf.nf n12) h92 ?_
      unfold pu_cla
      dsimp only
      rw [if_neg (by simp only [hw, not_true, not_false_eq_true]), if_pos (Or.inr (Or.inr (by omega)))]
    · rw [if_neg c40]
      -- the line of text that is begun
      have u3 : pu_Uf I (tb_up2 I2 70 14 (nI (c + 1))) := ⟨fun q h1 h2 => by rw [pu_u2p _ _ _ _ h1, n12.1 q h1], fun k h1 h2 h3 h4 => by rw [pu_u2k _ _ _ _ h4, n12.2 k h1]⟩
      have b3' : pu_MB (tb_up2 I2 70 14 (nI (c + 1))) b tl := ⟨by rw [pu_u2k _ _ _ _ (by decide)]; exact hb2.1, h400, fun k hk => by rw [pu_u2p _ _ _ _ (by decide)]; exact hb2.2.2 k hk⟩
      have z3 : tb_up2 I2 70 14 (nI (c + 1)) 70 9 = 0 := by rw [pu_u2k _ _ _ _ (by decide)]; exact h92
      have e3 : tb_up2 I2 70 14 (nI (c + 1)) 70 8 = nI p := by rw [pu_u2k _ _ _ _ (by decide)]; exact b2
      have r3 : pu_Rdd (tb_up2 I2 70 14 (nI (c + 1))) c F := pu_Rdd_eq (pu_u2p _ _ _ _ (by decide)) hr2
      have l3 : tb_up2 I2 70 14 (nI (c + 1)) 70 14 = nI (c + 1) := pu_u2s _ _ _ _
      generalize tb_up2 I2 70 14 (nI (c + 1)) = I3 at *
      obtain ⟨I4, d1, d2, d3⟩ := pu_m_isW (J := J) hM b3' hs.1 h32 e3 (show 12 < 19 by omega) pu_W12
      rw [hk] at d1
      have hb4 := b3'.nf d3
      have z4 : I4 70 9 = 0 := by rw [d3.2 9 (by decide)]; exact z3
      have r4 : pu_Rdd I4 c F := pu_Rdd_eq (d3.1 76 (by decide)) r3
      have l4 : I4 70 14 = nI (c + 1) := by rw [d3.2 14 (by decide)]; exact l3
      have u4 : pu_Uf I I4 := u3.tr (pu_Uf.nf d3)
      -- what comes of a part is what comes of the clause
      have fin : ∀ (I5 I' : Nat → Nat → Int32) (x : pu_A × List (Nat × Nat × Nat) × Nat), pu_cla c F (t :: r1) 0 = x → pu_Uf I I5 → I5 70 14 = nI (c + 1) → pu_Cl I5 I' b tl c x → (pu_Uf I I' ∧ ((pu_cla c F (t :: r1) 0).2.2 = 0 → pu_RS I' b tl (pu_cla c F (t :: r1) 0).2.1 ∧ pu_Rdd I' (c + 1) (pu_cla c F (t :: r1) 0).1 ∧ I' 70 14 = nI (c + 1)) ∧ ((pu_cla c F (t :: r1) 0).2.2 ≠ 0 → I' 70 9 = nI (pu_cla c F (t :: r1) 0).2.2)) := by
        intro I5 I' x ex u5 l5 cl
        rw [ex]
        exact ⟨u5.tr cl.1, fun hz => ⟨(cl.2.2.1 hz).1, (cl.2.2.1 hz).2, cl.2.1.trans l5⟩, cl.2.2.2⟩
      unfold fb_m_streetLineHere
      simp only [pu_on (pu_m70 hM), d1, Option.bind_some, pu_b0, decide_eq_false_iff_not, show 20 + 12 = 32 from rfl]
      by_cases t32 : t.1 = 32
      · by_cases c0 : c = 0
        · subst c0
          obtain ⟨I5, k1, k2⟩ := pu_m_street_ (J := J) hM hb4 z4 hs.1 d2 r4 (hc0 rfl) (nI p)
          rw [← rr] at k1 k2
          have ex : pu_cla 0 F (t :: r1) 0 = (pu_hs2 F (pu_rn 1 6 r1 0).1 (pu_rn 0 10 (pu_rn 1 6 r1 0).2.1 (pu_rn 1 6 r1 0).2.2).1, (pu_rn 0 10 (pu_rn 1 6 r1 0).2.1 (pu_rn 1 6 r1 0).2.2).2) := by
            unfold pu_cla
            dsimp only
            rw [if_neg (by simp only [hw, not_true, not_false_eq_true]), if_neg (by omega), if_pos t32]
          refine ⟨I5, ?_, fin I4 I5 _ ex u4 l4 k2⟩
          rw [ex]
          simp only [t32, not_true, ↓reduceIte, k1, Option.bind_some, pu_tz]
        · -- a second street
          have q0 : I4 76 0 = 1 := by have := r4.1.1; rw [if_neg c0] at this; exact this
          have ex : pu_cla c F (t :: r1) 0 = (F, [], pu_ft (t :: r1) 0 4) := by
            unfold pu_cla
            dsimp only
            rw [if_neg (by simp only [hw, not_true, not_false_eq_true]), if_pos (Or.inl (by simp only [t32, c0, iff_false, not_true, not_false_eq_true]))]
          obtain ⟨I5, k1, k2⟩ := bad 4 I4 u4 z4 ex
          rw [show nI 4 = 4 from rfl, pu_on (pu_m70 hM)] at k1
          refine ⟨I5, ?_, k2⟩
          simp only [t32, not_true, ↓reduceIte, fb_m_isStreetHere, pu_gN (pu_m70 hM), pu_r7 hM, Option.bind_some, pu_l76 hM (show (0 : Int32) = nI 0 from rfl) (show 0 < 118 by omega), q0, show ((0 : Int32) < 1) by decide, pu_on (pu_m70 hM), k1, pu_tz]
      · by_cases c0 : c = 0
        · -- no street yet
          have q0 : I4 76 0 = 0 := by have := r4.1.1; rw [if_pos c0] at this; exact this
          have ex : pu_cla c F (t :: r1) 0 = (F, [], pu_ft (t :: r1) 0 4) := by
            unfold pu_cla
            dsimp only
            rw [if_neg (by simp only [hw, not_true, not_false_eq_true]), if_pos (Or.inl (by simp only [t32, c0, false_iff, not_true, not_false_eq_true]))]
          obtain ⟨I5, k1, k2⟩ := bad 4 I4 u4 z4 ex
          rw [show nI 4 = 4 from rfl, pu_on (pu_m70 hM)] at k1
          refine ⟨I5, ?_, k2⟩
          simp only [t32, not_false_eq_true, ↓reduceIte, pu_gN (pu_m70 hM), pu_r7 hM, Option.bind_some, pu_l76 hM (show (0 : Int32) = nI 0 from rfl) (show 0 < 118 by omega), q0, pu_on (pu_m70 hM), k1, pu_tz]
        · have q0 : I4 76 0 = 1 := by have := r4.1.1; rw [if_neg c0] at this; exact this
          obtain ⟨I5, g1, g2, g3⟩ := pu_m_isW (J := J) hM hb4 hs.1 h32 d2 (show 13 < 19 by omega) pu_W13
          rw [hk] at g1
          have hb5 := hb4.nf g3
          have z5 : I5 70 9 = 0 := by rw [g3.2 9 (by decide)]; exact z4
          have r5 : pu_Rdd I5 c F := pu_Rdd_eq (g3.1 76 (by decide)) r4
          have l5 : I5 70 14 = nI (c + 1) := by rw [g3.2 14 (by decide)]; exact l4
          have u5 : pu_Uf I I5 := u4.tr (pu_Uf.nf g3)
          simp only [t32, not_false_eq_true, ↓reduceIte, pu_gN (pu_m70 hM), pu_r7 hM, Option.bind_some, pu_l76 hM (show (0 : Int32) = nI 0 from rfl) (show 0 < 118 by omega), q0, show ¬ ((1 : Int32) = 0) by decide, pu_on (pu_m70 hM), g1, pu_b0, decide_eq_false_iff_not, show 20 + 13 = 33 from rfl]
          by_cases t33 : t.1 = 33
          · obtain ⟨I6, k1, k2⟩ := pu_m_house_ (J := J) hM hb5 z5 hs.1 g2 r5 c0 fv (hsz c0)
            rw [← rr] at k1 k2
            have ex : pu_cla c F (t :: r1) 0 = (let x := pu_rn 0 (2 * F.1 0 0) r1 0; let y := pu_rn 0 61 x.2.1 x.2.2; let z := pu_rn 0 31 y.2.1 y.2.2; (if z.2.2 = 0 then pu_hh2 F x.1 y.1 z.1 else F, z.2)) := by
              unfold pu_cla
              dsimp only
              rw [if_neg (by simp only [hw, not_true, not_false_eq_true]), if_neg (by omega), if_neg t32, if_pos t33]
            refine ⟨I6, ?_, fin I5 I6 _ ex u5 l5 k2⟩
            rw [ex]
            simp only [t33, not_true, ↓reduceIte, k1, Option.bind_some, pu_tz]
          · have t20 : t.1 = 20 := by omega
            by_cases h8 : 8 ≤ F.1 0 3
            · -- a ninth line
              have h88 : F.1 0 3 = 8 := by have := fv.1.2.2.1; omega
              have ex : pu_cla c F (t :: r1) 0 = (F, [], pu_ft (t :: r1) 0 4) := by
                unfold pu_cla
                dsimp only
                rw [if_neg (by simp only [hw, not_true, not_false_eq_true]), if_pos (Or.inr (Or.inl ⟨t20, h8⟩))]
              obtain ⟨I6, k1, k2⟩ := bad 4 I5 u5 z5 ex
              rw [show nI 4 = 4 from rfl, pu_on (pu_m70 hM)] at k1
              refine ⟨I6, ?_, k2⟩
              have q3 : I5 76 3 = 8 := by rw [r5.1.2.2.2, h88]; rfl
              simp only [t33, not_false_eq_true, ↓reduceIte, fb_m_isLineHere, pu_gN (pu_m70 hM), pu_r7 hM, Option.bind_some, pu_l76 hM (show (3 : Int32) = nI 3 from rfl) (show 3 < 118 by omega), q3, pu_on (pu_m70 hM), k1, pu_tz]
            · obtain ⟨I6, k1, k2⟩ := pu_m_line_ (J := J) hM hb5 z5 hs.1 g2 r5 c0 fv (hsz c0) (by omega) (nI p)
              rw [← rr] at k1 k2
              have ex : pu_cla c F (t :: r1) 0 = (let x := pu_rn 0 (F.1 0 0) r1 0; let y := pu_rn (F.1 0 0) (2 * F.1 0 0) x.2.1 x.2.2; let z := pu_rn 1 41 y.2.1 y.2.2; (if z.2.2 = 0 then pu_put F (F.1 0 3) x.1 y.1 z.1 else F, z.2)) := by
                unfold pu_cla
                dsimp only
                rw [if_neg (by simp only [hw, not_true, not_false_eq_true]), if_neg (by omega), if_neg t32, if_neg t33]
              refine ⟨I6, ?_, fin I5 I6 _ ex u5 l5 k2⟩
              rw [ex]
              simp only [t33, not_false_eq_true, ↓reduceIte, k1, Option.bind_some, pu_tz]
  · rw [if_neg hw]
    refine bad 0 I2 (pu_Uf.nf n12) h92 ?_
    unfold pu_cla
    dsimp only
    rw [if_pos hw]
end PUR9
