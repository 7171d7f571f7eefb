/-! ===== The class reads a street: all of it ===== -/
section PUY1
variable {s : List (Nat × Nat)} {R : Nat → Nat → Option Nat} {l r : List (Nat × Nat × Nat)} {f : Nat} {F : pu_A}
theorem pu_sr_clause {I : Nat → Nat → Int32} {J : Nat → Nat → Int64} (hX : pu_X s R) (v : pu_V I 8 F) (fv : pu_Fv F) (h : pu_TX I l r f) (hs : pu_Rs r f) (hg : pu_Tg l) (he : pu_En l) (hf : f < 10000) {c : Nat} (hc : c ≤ 40) (h0 : c = 0 → F.1 0 3 = 0) :
    ∃ I', fb_sr_readClause 7 (nI c) (s, I, J, R) = some (s, I', J, R) ∧ pu_V I' 8 (pu_cla c F r f).1 ∧ pu_Fv (pu_cla c F r f).1 ∧ pu_TX I' l (pu_cla c F r f).2.1 (pu_cla c F r f).2.2 ∧ pu_Rs (pu_cla c F r f).2.1 (pu_cla c F r f).2.2 ∧ (pu_cla c F r f).2.2 < 10000 ∧ pu_Yx I I' := by
  have hk := h.kd
  have hk38 := pu_hk_le h hg
  have h8 := fv.1.2.2.1
  have e32 : (nI (pu_hk r) = (32 : Int32)) = (pu_hk r = 32) := pu_eqI (b := 32) (by omega) (by omega)
  have e33 : (nI (pu_hk r) = (33 : Int32)) = (pu_hk r = 33) := pu_eqI (b := 33) (by omega) (by omega)
  have e20 : (nI (pu_hk r) = (20 : Int32)) = (pu_hk r = 20) := pu_eqI (b := 20) (by omega) (by omega)
  have e0 : (nI c = (0 : Int32)) = (c = 0) := pu_eqI (b := 0) (by omega) (by omega)
  have e40 : (nI c < (40 : Int32)) = (c < 40) := pu_ltI (b := 40) (by omega) (by omega)
  have el8 : (nI (F.1 0 3) < (8 : Int32)) = (F.1 0 3 < 8) := pu_ltI (b := 8) (by omega) (by omega)
  -- a fault
  have bad : ∀ (why : Nat), why ≤ 4 → pu_cla c F r f = (F, [], pu_ft r f why) → ∃ I', fb_t_fail 2 (nI why) (s, I, J, R) = some (s, I', J, R) ∧ pu_V I' 8 (pu_cla c F r f).1 ∧ pu_Fv (pu_cla c F r f).1 ∧ pu_TX I' l (pu_cla c F r f).2.1 (pu_cla c F r f).2.2 ∧ pu_Rs (pu_cla c F r f).2.1 (pu_cla c F r f).2.2 ∧ (pu_cla c F r f).2.2 < 10000 ∧ pu_Yx I I' := by
    intro why hw e
    obtain ⟨I', b1, b2, b3, b4, b5⟩ := pu_t_fail (J := J) (why := why) hX h hs hg hf hw
    rw [e]
    exact ⟨I', b1, pu_V8_xf b5 v, fv, b2, b3, b4, pu_Yx.xf b5⟩
  by_cases hw : pu_hk r = 32 ∨ pu_hk r = 33 ∨ pu_hk r = 20
  · obtain ⟨t, r1, rfl⟩ : ∃ t r1, r = t :: r1 := by
      cases r with
      | nil => exact absurd hw (by decide)
      | cons t r1 => exact ⟨t, r1, rfl⟩
    have hwt : t.1 = 32 ∨ t.1 = 33 ∨ t.1 = 20 := hw
    have ht : pu_hk (t :: r1) = t.1 := rfl
    rw [ht] at e32 e33 e20 hk
    have hf0 : f = 0 := by
      rcases hs with ⟨x, _⟩ | ⟨_, x⟩
      · exact x
      · cases x
    -- which clause it is
    have j18 : fb_sr_readClause 7 (nI c) (s, I, J, R) = fj_sr_readClause_j18 7 (nI c) (nI t.1) (s, I, J, R) := by
      unfold fb_sr_readClause
      simp only [pu_gN (pu_c7 hX), pu_f7_1 hX, Option.bind_some, pu_gI (pu_c2 hX), hk, e32, e33, e20]
      rcases hwt with x | x | x <;> simp [x]
    have j33 : fj_sr_readClause_j18 7 (nI c) (nI t.1) (s, I, J, R) = fj_sr_readClause_j33 7 (nI c) (nI t.1) (pu_b (decide (t.1 = 32 ↔ c = 0))) (s, I, J, R) := by
      unfold fj_sr_readClause_j18 fj_sr_readClause_j24
      simp only [e32, e0]
      by_cases x : t.1 = 32 <;> by_cases y : c = 0 <;> simp [x, y, pu_b]
    have j45 : fj_sr_readClause_j33 7 (nI c) (nI t.1) (pu_b (decide (t.1 = 32 ↔ c = 0))) (s, I, J, R) = fj_sr_readClause_j45 7 (nI c) (nI t.1) (pu_b (decide (t.1 = 32 ↔ c = 0))) (pu_b (decide (t.1 = 20 ∧ 8 ≤ F.1 0 3))) (s, I, J, R) := by
      unfold fj_sr_readClause_j33
      simp only [e20, pu_gN (pu_c7 hX), pu_f7_0 hX, Option.bind_some, pu_gI (pu_c8 hX), v.1.2.2.2.1, el8]
      by_cases x : t.1 = 20
      · by_cases y : F.1 0 3 < 8
        · rw [if_pos x, if_pos y, decide_eq_false (show ¬ (t.1 = 20 ∧ 8 ≤ F.1 0 3) by omega)]; rfl
        · rw [if_pos x, if_neg y, decide_eq_true (show t.1 = 20 ∧ 8 ≤ F.1 0 3 by omega)]; rfl
      · rw [if_neg x, decide_eq_false (show ¬ (t.1 = 20 ∧ 8 ≤ F.1 0 3) by omega)]; rfl
    rw [j18, j33, j45]
    by_cases hb : ¬ (t.1 = 32 ↔ c = 0) ∨ (t.1 = 20 ∧ 8 ≤ F.1 0 3) ∨ 40 ≤ c
    · have ecl : pu_cla c F (t :: r1) f = (F, [], pu_ft (t :: r1) f 4) := by
        unfold pu_cla
        dsimp only
        rw [if_neg (by simp only [hwt, not_true, not_false_eq_true]), if_pos hb]
      obtain ⟨I', b1, b2⟩ := bad 4 (by omega) ecl
      rw [show nI 4 = 4 from rfl] at b1
      refine ⟨I', ?_, b2⟩
      unfold fj_sr_readClause_j45
      simp only [pu_b0, decide_eq_false_iff_not, e40, pu_gN (pu_c7 hX), pu_f7_1 hX, Option.bind_some, pu_on (pu_c2 hX), b1]
      by_cases x : (t.1 = 32 ↔ c = 0)
      · rw [if_neg (by simp [x])]
        by_cases y : t.1 = 20 ∧ 8 ≤ F.1 0 3
        · rw [if_neg (by simp [y])]
        · rw [if_pos (by exact y), if_neg (by omega)]
      · rw [if_pos (by exact x)]
    · have hb1 : (t.1 = 32 ↔ c = 0) := Classical.byContradiction (fun x => hb (Or.inl x))
      have hb2 : ¬ (t.1 = 20 ∧ 8 ≤ F.1 0 3) := fun x => hb (Or.inr (Or.inl x))
      have hb3 : c < 40 := by
        rcases Nat.lt_or_ge c 40 with x | x
        · exact x
        · exact absurd (Or.inr (Or.inr x)) hb
      obtain ⟨I1, a1, a2, a3⟩ := pu_t_adv (J := J) hX h
      have hs1 : pu_Rs r1 f := by
        obtain ⟨i, _, _, h6⟩ := h.2.2.2.1
        exact Or.inl ⟨hf0, he t r1 ⟨i, h6.symm⟩ (by omega)⟩
      have v1 := pu_V8_xf a3 v
      have ej : fj_sr_readClause_j45 7 (nI c) (nI t.1) (pu_b (decide (t.1 = 32 ↔ c = 0))) (pu_b (decide (t.1 = 20 ∧ 8 ≤ F.1 0 3))) (s, I, J, R) = (if t.1 = 32 then (tb_gN 18 0 7 (s, I1, J, R)).bind fun p9 => (tb_on 18 7 (s, I1, J, R) (fb_sr_readNumber 7 1 5 (s, I1, J, R))).bind fun x10 => (tb_pI 17 0 p9 x10.1 x10.2).bind fun w11 => (tb_gN 18 0 7 w11).bind fun p12 => (tb_on 18 7 w11 (fb_sr_readNumber 7 0 9 w11)).bind fun x13 => (tb_pI 17 1 p12 x13.1 x13.2).bind fun w14 => some w14 else (if t.1 = 33 then (tb_on 18 7 (s, I1, J, R) (fb_sr_readHouse 7 (s, I1, J, R))).bind fun x15 => some x15 else (tb_on 18 7 (s, I1, J, R) (fb_sr_readLine 7 (s, I1, J, R))).bind fun x16 => some x16)) := by
        unfold fj_sr_readClause_j45
        rw [decide_eq_true hb1, decide_eq_false hb2, if_neg (by decide), if_pos (by decide)]
        simp only [e40, hb3, ↓reduceIte, pu_gN (pu_c7 hX), pu_f7_1 hX, Option.bind_some, pu_on (pu_c2 hX), a1, e32, e33]
      rw [ej]
      by_cases t32 : t.1 = 32
      · have c0 := hb1.mp t32
        have ecl : pu_cla c F (t :: r1) f = (pu_hs2 F (pu_rn 1 6 r1 f).1 (pu_rn 0 10 (pu_rn 1 6 r1 f).2.1 (pu_rn 1 6 r1 f).2.2).1, (pu_rn 0 10 (pu_rn 1 6 r1 f).2.1 (pu_rn 1 6 r1 f).2.2).2) := by
          unfold pu_cla
          dsimp only
          rw [if_neg (by simp only [hwt, not_true, not_false_eq_true]), if_neg hb, if_pos t32]
        obtain ⟨I2, b1, b2, b3, b4, b5⟩ := pu_sr_number (J := J) (lo := 1) (hi := 6) (a2 := 5) hX a2 hs1 hg he hf (by omega) (by omega) rfl
        have v2 := pu_V8_xf b5 v1
        have b2' : pu_TX (tb_up2 I2 8 0 (nI (pu_rn 1 6 r1 f).1)) l (pu_rn 1 6 r1 f).2.1 (pu_rn 1 6 r1 f).2.2 := pu_TX_eq (pu_u2p _ _ _ _ (by decide)) (pu_u2p _ _ _ _ (by decide)) (pu_u2p _ _ _ _ (by decide)) (pu_u2p _ _ _ _ (by decide)) b2
        obtain ⟨I3, c1, c2, c3, c4, c5⟩ := pu_sr_number (J := J) (lo := 0) (hi := 10) (a2 := 9) hX b2' b3 hg he b4 (by omega) (by omega) rfl
        rw [show nI 1 = 1 from rfl] at b1
        rw [show nI 0 = 0 from rfl] at c1
        have hv3 : pu_V (tb_up2 I3 8 1 (nI (pu_rn 0 10 (pu_rn 1 6 r1 f).2.1 (pu_rn 1 6 r1 f).2.2).1)) 8 (pu_hs2 F (pu_rn 1 6 r1 f).1 (pu_rn 0 10 (pu_rn 1 6 r1 f).2.1 (pu_rn 1 6 r1 f).2.2).1) := by
          refine pu_V_eq (fun i hi => ?_) (pu_V_hs v2 (pu_rn 1 6 r1 f).1 (pu_rn 0 10 (pu_rn 1 6 r1 f).2.1 (pu_rn 1 6 r1 f).2.2).1)
          by_cases hi0 : i = 0
          · subst hi0
            funext k
            show tb_up2 I3 8 1 _ 8 k = tb_up2 (tb_up2 I2 8 0 _) 8 1 _ 8 k
            rw [pu_u2i, pu_u2i, c5.1 8 (by decide)]
          · rw [pu_u2p _ _ _ _ (by omega), pu_u2p _ _ _ _ (by omega), c5.1 _ (by omega)]
        rw [ecl]
        refine ⟨tb_up2 I3 8 1 (nI (pu_rn 0 10 (pu_rn 1 6 r1 f).2.1 (pu_rn 1 6 r1 f).2.2).1), ?_, hv3, pu_hs2_fv fv (h0 c0) (pu_rn_lt (by omega)) (pu_rn_lt (by omega)), pu_TX_eq (pu_u2p _ _ _ _ (by decide)) (pu_u2p _ _ _ _ (by decide)) (pu_u2p _ _ _ _ (by decide)) (pu_u2p _ _ _ _ (by decide)) c2, c3, c4, ?_⟩
        · rw [if_pos t32]
          simp only [pu_gN (pu_c7 hX), pu_f7_0 hX, Option.bind_some, pu_on (pu_c7 hX), b1, pu_pI (pu_c8 hX), c1]
        · exact ((pu_Yx.xf (a3.tr b5)).tr (pu_Yx.fr (pu_Fr.u2 (p := 8) (i := 0) (by omega)))).tr ((pu_Yx.xf c5).tr (pu_Yx.fr (pu_Fr.u2 (p := 8) (i := 0) (by omega))))
      · rw [if_neg t32]
        by_cases t33 : t.1 = 33
        · obtain ⟨I2, F', r', f', ex, b1, b2, b3, b4, b5, b6, b7⟩ := pu_sr_house (J := J) hX v1 fv a2 hs1 hg he hf
          have ecl : pu_cla c F (t :: r1) f = (F', r', f') := by
            unfold pu_cla
            dsimp only
            rw [if_neg (by simp only [hwt, not_true, not_false_eq_true]), if_neg hb, if_neg t32, if_pos t33]
            exact ex
          rw [ecl]
          refine ⟨I2, ?_, b2, b3, b4, b5, b6, (pu_Yx.xf a3).tr b7⟩
          rw [if_pos t33]
          simp only [pu_on (pu_c7 hX), b1, Option.bind_some]
        · have t20 : t.1 = 20 := by omega
          obtain ⟨I2, F', r', f', ex, b1, b2, b3, b4, b5, b6, b7⟩ := pu_sr_line (J := J) hX v1 fv (by omega) a2 hs1 hg he hf
          have ecl : pu_cla c F (t :: r1) f = (F', r', f') := by
            unfold pu_cla
            dsimp only
            rw [if_neg (by simp only [hwt, not_true, not_false_eq_true]), if_neg hb, if_neg t32, if_neg t33]
            exact ex
          rw [ecl]
          refine ⟨I2, ?_, b2, b3, b4, b5, b6, (pu_Yx.xf a3).tr b7⟩
          rw [if_neg t33]
          simp only [pu_on (pu_c7 hX), b1, Option.bind_some]
  · have ecl : pu_cla c F r f = (F, [], pu_ft r f 0) := by
      cases r with
      | nil => rfl
      | cons t r1 =>
        unfold pu_cla
        dsimp only
        rw [if_pos (show ¬ (t.1 = 32 ∨ t.1 = 33 ∨ t.1 = 20) from hw)]
    obtain ⟨I', b1, b2⟩ := bad 0 (by omega) ecl
    rw [show nI 0 = 0 from rfl] at b1
    refine ⟨I', ?_, b2⟩
    unfold fb_sr_readClause
    simp only [pu_gN (pu_c7 hX), pu_f7_1 hX, Option.bind_some, pu_gI (pu_c2 hX), hk, e32, e33, e20, show ¬ pu_hk r = 32 from fun x => hw (Or.inl x), show ¬ pu_hk r = 33 from fun x => hw (Or.inr (Or.inl x)), show ¬ pu_hk r = 20 from fun x => hw (Or.inr (Or.inr x)), ↓reduceIte, pu_on (pu_c2 hX), b1]
end PUY1
