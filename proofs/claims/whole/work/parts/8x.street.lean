/-! ===== The class reads a street: clauses ===== -/
section PUX1
variable {s : List (Nat × Nat)} {R : Nat → Nat → Option Nat} {l r : List (Nat × Nat × Nat)} {f : Nat} {F : pu_A}
theorem pu_V8_xf {I I' : Nat → Nat → Int32} (a : pu_Xf I I') (v : pu_V I 8 F) : pu_V I' 8 F := pu_V_eq (fun i hi => a.1 _ (by omega)) v
theorem pu_V_hs {I : Nat → Nat → Int32} (v : pu_V I 8 F) (v1 v2 : Nat) : pu_V (tb_up2 (tb_up2 I 8 0 (nI v1)) 8 1 (nI v2)) 8 (pu_hs2 F v1 v2) := by
  obtain ⟨⟨a0, a1, a2, a3, a4, a5⟩, b, c⟩ := v
  have e3 : (pu_hs2 F v1 v2).1 0 3 = F.1 0 3 := by show tb_up2 (tb_up2 F.1 0 0 v1) 0 1 v2 0 3 = _; rw [pu_u2k _ _ _ _ (by decide), pu_u2k _ _ _ _ (by decide)]
  have er : ∀ r k, r ≠ 0 → (pu_hs2 F v1 v2).1 r k = F.1 r k := fun r k hr => by show tb_up2 (tb_up2 F.1 0 0 v1) 0 1 v2 r k = _; rw [pu_u2p _ _ _ _ hr, pu_u2p _ _ _ _ hr]
  refine ⟨⟨?_, ?_, ?_, ?_, ?_, ?_⟩, fun k hk => ?_, fun k hk => ?_⟩
  · show _ = nI (tb_up2 (tb_up2 F.1 0 0 v1) 0 1 v2 0 0)
    rw [pu_u2k _ _ _ _ (by decide), pu_u2s, pu_u2k _ _ _ _ (by decide), pu_u2s]
  · show _ = nI (tb_up2 (tb_up2 F.1 0 0 v1) 0 1 v2 0 1)
    rw [pu_u2s, pu_u2s]
  · show _ = nI (tb_up2 (tb_up2 F.1 0 0 v1) 0 1 v2 0 2)
    rw [pu_u2k _ _ _ _ (by decide), pu_u2k _ _ _ _ (by decide), pu_u2k _ _ _ _ (by decide), pu_u2k _ _ _ _ (by decide)]; exact a2
  · rw [e3, pu_u2k _ _ _ _ (by decide), pu_u2k _ _ _ _ (by decide)]; exact a3
  · rw [pu_u2k _ _ _ _ (by decide), pu_u2k _ _ _ _ (by decide)]; exact a4
  · rw [pu_u2k _ _ _ _ (by decide), pu_u2k _ _ _ _ (by decide)]; exact a5
  · rw [er 1 k (by decide), er 2 k (by decide), pu_u2p _ _ _ _ (show (8 + 1 : Nat) ≠ 8 by decide), pu_u2p _ _ _ _ (show (8 + 1 : Nat) ≠ 8 by decide), pu_u2p _ _ _ _ (show (8 + 2 : Nat) ≠ 8 by decide), pu_u2p _ _ _ _ (show (8 + 2 : Nat) ≠ 8 by decide)]; exact b k hk
  · rw [e3] at hk
    rw [er 3 k (by decide), er 4 k (by decide), er 5 k (by decide), pu_u2p _ _ _ _ (show (8 + 3 : Nat) ≠ 8 by decide), pu_u2p _ _ _ _ (show (8 + 3 : Nat) ≠ 8 by decide), pu_u2p _ _ _ _ (show (8 + 4 : Nat) ≠ 8 by decide), pu_u2p _ _ _ _ (show (8 + 4 : Nat) ≠ 8 by decide), pu_u2p _ _ _ _ (show (8 + 5 : Nat) ≠ 8 by decide), pu_u2p _ _ _ _ (show (8 + 5 : Nat) ≠ 8 by decide)]; exact c k hk
theorem pu_sr_house {I : Nat → Nat → Int32} {J : Nat → Nat → Int64} (hX : pu_X s R) (v : pu_V I 8 F) (fv : pu_Fv F) (h : pu_TX I l r f) (hs : pu_Rs r f) (hg : pu_Tg l) (he : pu_En l) (hf : f < 10000) :
    ∃ I' F' r' f', (let x := pu_rn 0 (2 * F.1 0 0) r f; let y := pu_rn 0 61 x.2.1 x.2.2; let z := pu_rn 0 31 y.2.1 y.2.2; (if z.2.2 = 0 then pu_hh2 F x.1 y.1 z.1 else F, z.2)) = (F', r', f') ∧ fb_sr_readHouse 7 (s, I, J, R) = some (s, I', J, R) ∧ pu_V I' 8 F' ∧ pu_Fv F' ∧ pu_TX I' l r' f' ∧ pu_Rs r' f' ∧ f' < 10000 ∧ pu_Yx I I' := by
  have h5 := fv.1.1
  obtain ⟨I1, a1, a2, a3, a4, a5⟩ := pu_sr_number (J := J) (lo := 0) (hi := 2 * F.1 0 0) hX h hs hg he hf (by omega) (by omega) rfl
  obtain ⟨I2, b1, b2, b3, b4, b5⟩ := pu_sr_number (J := J) (lo := 0) (hi := 61) (a2 := 60) hX a2 a3 hg he a4 (by omega) (by omega) rfl
  obtain ⟨I3, c1, c2, c3, c4, c5⟩ := pu_sr_number (J := J) (lo := 0) (hi := 31) (a2 := 30) hX b2 b3 hg he b4 (by omega) (by omega) rfl
  rw [show nI 0 = 0 from rfl] at a1 b1 c1
  have fx : pu_Xf I I3 := (a5.tr b5).tr c5
  have v3 : pu_V I3 8 F := pu_V8_xf fx v
  have hf3 : I3 2 3 = nI (pu_rn 0 31 (pu_rn 0 61 (pu_rn 0 (2 * F.1 0 0) r f).2.1 (pu_rn 0 (2 * F.1 0 0) r f).2.2).2.1 (pu_rn 0 61 (pu_rn 0 (2 * F.1 0 0) r f).2.1 (pu_rn 0 (2 * F.1 0 0) r f).2.2).2.2).2.2 := c2.2.2.1
  have hy := pu_rn_lt (lo := 0) (hi := 61) (by omega) (r := (pu_rn 0 (2 * F.1 0 0) r f).2.1) (f := (pu_rn 0 (2 * F.1 0 0) r f).2.2)
  have hz := pu_rn_lt (lo := 0) (hi := 31) (by omega) (r := (pu_rn 0 61 (pu_rn 0 (2 * F.1 0 0) r f).2.1 (pu_rn 0 (2 * F.1 0 0) r f).2.2).2.1) (f := (pu_rn 0 61 (pu_rn 0 (2 * F.1 0 0) r f).2.1 (pu_rn 0 (2 * F.1 0 0) r f).2.2).2.2)
  dsimp only
  by_cases h0 : (pu_rn 0 31 (pu_rn 0 61 (pu_rn 0 (2 * F.1 0 0) r f).2.1 (pu_rn 0 (2 * F.1 0 0) r f).2.2).2.1 (pu_rn 0 61 (pu_rn 0 (2 * F.1 0 0) r f).2.1 (pu_rn 0 (2 * F.1 0 0) r f).2.2).2.2).2.2 = 0
  · have g1 := pu_rn_f b3 h0
    have g2 := pu_rn_f a3 g1.1
    have g3 := pu_rn_f hs g2.1
    generalize hx : pu_rn 0 (2 * F.1 0 0) r f = x at *
    generalize hyy : pu_rn 0 61 x.2.1 x.2.2 = y at *
    generalize hzz : pu_rn 0 31 y.2.1 y.2.2 = z at *
    have v4 : pu_V (tb_up2 I3 (8 + 1) x.1 (nI y.1)) 8 (pu_n F 1 x.1 y.1) := pu_V_n1 v3
    have wf4 : pu_wf (pu_n F 1 x.1 y.1) := by
      have := (pu_hh2_fv fv (a := x.1) (l := y.1) (o := F.1 2 x.1) (by omega) (fv.2.2.2.2 x.1).2.1).1
      have e : pu_hh2 F x.1 y.1 (F.1 2 x.1) = pu_n F 1 x.1 y.1 := by
        unfold pu_hh2 pu_n
        refine Prod.ext ?_ rfl
        funext i k
        show tb_up2 (tb_up2 F.1 1 x.1 y.1) 2 x.1 (F.1 2 x.1) i k = tb_up2 F.1 1 x.1 y.1 i k
        by_cases h2 : i = 2
        · subst h2
          rw [pu_u2i, pu_u2p _ _ _ _ (show (2 : Nat) ≠ 1 by decide)]
          split
          · rename_i hk; rw [hk]
          · rfl
        · rw [pu_u2p _ _ _ _ h2]
      rw [e] at this
      exact this
    have v5 : pu_V (tb_up2 (tb_up2 I3 (8 + 1) x.1 (nI y.1)) (8 + 2) x.1 (nI z.1)) 8 (pu_hh2 F x.1 y.1 z.1) := pu_V_n2 v4
    refine ⟨tb_up2 (tb_up2 I3 (8 + 1) x.1 (nI y.1)) (8 + 2) x.1 (nI z.1), pu_hh2 F x.1 y.1 z.1, z.2.1, z.2.2, by rw [if_pos h0], ?_, v5, pu_hh2_fv fv (by omega) (by omega), ?_, c3, c4, (pu_Yx.xf fx).tr ((pu_Yx.fr (pu_Fr.u2 (by omega))).tr (pu_Yx.fr (pu_Fr.u2 (by omega))))⟩
    · unfold fb_sr_readHouse
      have n4 : fb_s_setFoot 8 (nI x.1) (nI z.1) (s, tb_up2 I3 (8 + 1) x.1 (nI y.1), J, R) = some (s, tb_up2 (tb_up2 I3 (8 + 1) x.1 (nI y.1)) (8 + 2) x.1 (nI z.1), J, R) := pu_s_setFoot (pu_st8 hX) v4 wf4 (by show x.1 < 2 * F.1 0 0; omega)
      simp only [pu_gN (pu_c7 hX), pu_f7_0 hX, pu_f7_1 hX, Option.bind_some, pu_on (pu_c8 hX), pu_s_houses (pu_st8 hX) v, pu_on (pu_c7 hX), a1, b1, c1, pu_gI (pu_c2 hX), hf3, h0, show nI 0 = 0 from rfl, ↓reduceIte, pu_s_setLean (pu_st8 hX) v3 fv.1 (show x.1 < 2 * F.1 0 0 by omega), n4]
    · exact pu_TX_eq (by rw [pu_u2p _ _ _ _ (by decide), pu_u2p _ _ _ _ (by decide)]) (by rw [pu_u2p _ _ _ _ (by decide), pu_u2p _ _ _ _ (by decide)]) (by rw [pu_u2p _ _ _ _ (by decide), pu_u2p _ _ _ _ (by decide)]) (by rw [pu_u2p _ _ _ _ (by decide), pu_u2p _ _ _ _ (by decide)]) c2
  · have hne := nI_ne0 (Nat.pos_of_ne_zero h0) (by omega)
    refine ⟨I3, F, _, _, by rw [if_neg h0], ?_, v3, fv, c2, c3, c4, pu_Yx.xf fx⟩
    unfold fb_sr_readHouse
    simp only [pu_gN (pu_c7 hX), pu_f7_0 hX, pu_f7_1 hX, Option.bind_some, pu_on (pu_c8 hX), pu_s_houses (pu_st8 hX) v, pu_on (pu_c7 hX), a1, b1, c1, pu_gI (pu_c2 hX), hf3, hne, ↓reduceIte]
theorem pu_sr_line {I : Nat → Nat → Int32} {J : Nat → Nat → Int64} (hX : pu_X s R) (v : pu_V I 8 F) (fv : pu_Fv F) (h8 : F.1 0 3 < 8) (h : pu_TX I l r f) (hs : pu_Rs r f) (hg : pu_Tg l) (he : pu_En l) (hf : f < 10000) :
    ∃ I' F' r' f', (let x := pu_rn 0 (F.1 0 0) r f; let y := pu_rn (F.1 0 0) (2 * F.1 0 0) x.2.1 x.2.2; let z := pu_rn 1 41 y.2.1 y.2.2; (if z.2.2 = 0 then pu_put F (F.1 0 3) x.1 y.1 z.1 else F, z.2)) = (F', r', f') ∧ fb_sr_readLine 7 (s, I, J, R) = some (s, I', J, R) ∧ pu_V I' 8 F' ∧ pu_Fv F' ∧ pu_TX I' l r' f' ∧ pu_Rs r' f' ∧ f' < 10000 ∧ pu_Yx I I' := by
  have h5 := fv.1.1
  obtain ⟨I1, a1, a2, a3, a4, a5⟩ := pu_sr_number (J := J) (lo := 0) (hi := F.1 0 0) hX h hs hg he hf (by omega) (by omega) rfl
  have v1 := pu_V8_xf a5 v
  obtain ⟨I2, b1, b2, b3, b4, b5⟩ := pu_sr_number (J := J) (lo := F.1 0 0) (hi := 2 * F.1 0 0) hX a2 a3 hg he a4 (by omega) (by omega) rfl
  obtain ⟨I3, c1, c2, c3, c4, c5⟩ := pu_sr_number (J := J) (lo := 1) (hi := 41) (a2 := 40) hX b2 b3 hg he b4 (by omega) (by omega) rfl
  rw [show nI 0 = 0 from rfl] at a1
  rw [show nI 1 = 1 from rfl] at c1
  have fx : pu_Xf I I3 := (a5.tr b5).tr c5
  have v3 : pu_V I3 8 F := pu_V8_xf fx v
  have hf3 : I3 2 3 = nI (pu_rn 1 41 (pu_rn (F.1 0 0) (2 * F.1 0 0) (pu_rn 0 (F.1 0 0) r f).2.1 (pu_rn 0 (F.1 0 0) r f).2.2).2.1 (pu_rn (F.1 0 0) (2 * F.1 0 0) (pu_rn 0 (F.1 0 0) r f).2.1 (pu_rn 0 (F.1 0 0) r f).2.2).2.2).2.2 := c2.2.2.1
  dsimp only
  by_cases h0 : (pu_rn 1 41 (pu_rn (F.1 0 0) (2 * F.1 0 0) (pu_rn 0 (F.1 0 0) r f).2.1 (pu_rn 0 (F.1 0 0) r f).2.2).2.1 (pu_rn (F.1 0 0) (2 * F.1 0 0) (pu_rn 0 (F.1 0 0) r f).2.1 (pu_rn 0 (F.1 0 0) r f).2.2).2.2).2.2 = 0
  · have g1 := pu_rn_f b3 h0
    have g2 := pu_rn_f a3 g1.1
    have g3 := pu_rn_f hs g2.1
    generalize hx : pu_rn 0 (F.1 0 0) r f = x at *
    generalize hyy : pu_rn (F.1 0 0) (2 * F.1 0 0) x.2.1 x.2.2 = y at *
    generalize hzz : pu_rn 1 41 y.2.1 y.2.2 = z at *
    obtain ⟨I4, d1, d2, d3⟩ := pu_s_putUp (J := J) (l := F.1 0 3) (o := x.1) (e := y.1) (m := z.1) (pu_st8 hX) v3 fv.1 (Nat.le_refl _) h8
    refine ⟨I4, pu_put F (F.1 0 3) x.1 y.1 z.1, z.2.1, z.2.2, by rw [if_pos h0], ?_, d2, pu_put_fv fv h8 (by omega) (by omega) (by omega) (by omega), ?_, c3, c4, (pu_Yx.xf fx).tr (pu_Yx.fr d3)⟩
    · unfold fb_sr_readLine
      simp only [pu_gN (pu_c7 hX), pu_f7_0 hX, pu_f7_1 hX, Option.bind_some, pu_gI (pu_c8 hX), v.1.1, pu_on (pu_c7 hX), a1, v1.1.1, pu_on (pu_c8 hX), pu_s_houses (pu_st8 hX) v1, b1, c1, pu_gI (pu_c2 hX), hf3, h0, show nI 0 = 0 from rfl, ↓reduceIte, v3.1.2.2.2.1, d1]
    · exact pu_TX_eq (d3 2 (by omega)) (d3 4 (by omega)) (d3 5 (by omega)) (d3 6 (by omega)) c2
  · have hne := nI_ne0 (Nat.pos_of_ne_zero h0) (by omega)
    refine ⟨I3, F, _, _, by rw [if_neg h0], ?_, v3, fv, c2, c3, c4, pu_Yx.xf fx⟩
    unfold fb_sr_readLine
    simp only [pu_gN (pu_c7 hX), pu_f7_0 hX, pu_f7_1 hX, Option.bind_some, pu_gI (pu_c8 hX), v.1.1, pu_on (pu_c7 hX), a1, v1.1.1, pu_on (pu_c8 hX), pu_s_houses (pu_st8 hX) v1, b1, c1, pu_gI (pu_c2 hX), hf3, hne, ↓reduceIte]
end PUX1
