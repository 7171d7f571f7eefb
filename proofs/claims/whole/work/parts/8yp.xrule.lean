/-! ===== The class: rule() ===== -/
theorem pu_tR4 {s : List (Nat × Nat)} {I : Nat → Nat → Int32} {J : Nat → Nat → Int64} {R : Nat → Nat → Option Nat} {p n j v m : Nat} (h : s[p]? = some (4, n)) (hj : j < n) (hn : n ≤ 100000) (hv : s[v]? = some (1, m)) : tb_tR tb_P.2.2.1 p (nI j) v (s, I, J, R) = some (s, I, J, tb_up2 R p j (some v)) := by
  have hk : tb_kd (s, I, J, R) v = some 1 := by show (s[v]?).map Prod.fst = some 1; rw [hv]; rfl
  have hc : tb_P.2.2.1 4 = 1 := by unfold tb_P; rfl
  unfold tb_tR
  simp only [h, hk, hc, pu_in hj hn, nI_clamp (show j < 2 ^ 31 by omega)]
  rfl
theorem pu_al4 {s : List (Nat × Nat)} {I : Nat → Nat → Int32} {J : Nat → Nat → Int64} {R : Nat → Nat → Option Nat} {p n : Nat} (h : s[p]? = some (4, n)) : tb_al p (s, I, J, R) = some (nI n) := by
  unfold tb_al
  simp only [h]
  rfl
section PUP9
variable {s : List (Nat × Nat)} {I : Nat → Nat → Int32} {J : Nat → Nat → Int64} {R : Nat → Nat → Option Nat} {b : Nat → Nat} {tl rc : Nat} {y : pz_Y}
theorem pz_x_full (hX : pu_X s R) (h4 : I 1 4 = nI 6) : fb_x_rule 1 (s, I, J, R) = some (-1, (s, I, J, R)) := by
  unfold fb_x_rule
  simp only [pu_gI (pu_c1 hX), h4, Option.bind_some, pu_lt0 (show 6 < 2147483648 by omega), ↓reduceIte, pu_gN (pu_c1 hX), pu_f1_3 hX, pu_al4 (pu_c17 hX), pu_ltI (show 6 < 2147483648 by omega) (show 6 < 2147483648 by omega), Nat.lt_irrefl]
theorem pz_x_bad (hX : pu_X s R) (h : pu_TB I b tl) (h4 : I 1 4 = nI rc) (hrc : rc < 6) (hy : pz_rr 13 0 ([], 0, pu_tt b tl 0, 0) = y) (hf : pu_fin y.2.2.1 y.2.2.2 ≠ 0) :
    ∃ I', fb_x_rule 1 (s, I, J, R) = some (-2 - nI (pu_fin y.2.2.1 y.2.2.2), (s, I', J, R)) ∧ I' 2 0 = 0 ∧ (∀ q, q ≠ 2 → q ≠ 15 → q ≠ 16 → (q < 4 ∨ 6 < q) → I' q = I q) := by
  obtain ⟨I1, a1, a2, a3, a4, a5⟩ := pz_read (J := J) hX h hy
  have e0 : (nI (pu_fin y.2.2.1 y.2.2.2) = (0 : Int32)) = (pu_fin y.2.2.1 y.2.2.2 = 0) := pu_eqI (b := 0) (by omega) (by omega)
  refine ⟨tb_up2 I1 2 0 0, ?_, pu_u2s _ _ _ _, fun q x1 x2 x3 x4 => by rw [pu_u2p _ _ _ _ x1]; exact a4 q x1 x2 x3 x4⟩
  unfold fb_x_rule
  simp only [pu_gI (pu_c1 hX), h4, Option.bind_some, pu_lt0 (show rc < 2147483648 by omega), ↓reduceIte, pu_gN (pu_c1 hX), pu_f1_3 hX, pu_al4 (pu_c17 hX), pu_ltI (show rc < 2147483648 by omega) (show 6 < 2147483648 by omega), hrc, pu_f1_2 hX, pu_on (pu_c15 hX), a1, pu_f1_0 hX, pu_pI (pu_c2 hX), e0, hf]
theorem pz_x_good (hX : pu_X s R) (h : pu_TB I b tl) (h4 : I 1 4 = nI rc) (hrc : rc < 6) (hy : pz_rr 13 0 ([], 0, pu_tt b tl 0, 0) = y) (hf : pu_fin y.2.2.1 y.2.2.2 = 0) :
    ∃ I' J' R', fb_x_rule 1 (s, I, J, R) = some (nI rc, (s ++ [(1, pu_rl y.1)], I', J', R')) ∧ I' 2 0 = 0 ∧ I' 1 4 = nI (rc + 1) ∧ (∀ k, k ≠ 4 → I' 1 k = I 1 k) ∧ (∀ q, q < s.length → q ≠ 1 → q ≠ 2 → q ≠ 15 → q ≠ 16 → (q < 4 ∨ 6 < q) → I' q = I q) ∧ (∀ q, q < s.length → J' q = J q) ∧ (∀ q, q < s.length → q ≠ 17 → R' q = R q) ∧ (∀ z, R' 17 z = if z = rc then some s.length else R 17 z) ∧ (pu_RC (I' s.length) 0 y.1 ∧ pu_ok y.1 ∧ pu_rl y.1 < 399 ∧ y.1.length ≤ 12) := by
  obtain ⟨I1, a1, a2, a3, a4, a5⟩ := pz_read (J := J) hX h hy
  obtain ⟨ry, f0⟩ := a3 hf
  obtain ⟨sh1, sh2⟩ := pz_short h.2.1 hy ry f0
  obtain ⟨g1, g2, g3, g4, g5, g6⟩ := ry.2.2.2 f0
  obtain ⟨I2, J2, R2, b1, b2, b3⟩ := pz_copy (I := tb_up2 I1 2 0 0) (J := J) hX (m := pu_rl y.1) (by rw [pu_u2p _ _ _ _ (by decide)]; exact g1) (by omega)
  have l1 := pu_slt (pu_c1 hX)
  have l17 := pu_slt (pu_c17 hX)
  have c1 : (s ++ [(1, pu_rl y.1)])[1]? = some (21, 12) := by rw [List.getElem?_append_left l1]; exact pu_c1 hX
  have c17 : (s ++ [(1, pu_rl y.1)])[17]? = some (4, 6) := by rw [List.getElem?_append_left l17]; exact pu_c17 hX
  have cn : (s ++ [(1, pu_rl y.1)])[s.length]? = some (1, pu_rl y.1) := by rw [List.getElem?_append_right (Nat.le_refl _), Nat.sub_self]; rfl
  have i1 : I1 1 = I 1 := a4 1 (by decide) (by decide) (by decide) (by omega)
  have i14 : I2 1 4 = nI rc := by rw [(b2 1 l1).1, pu_u2p _ _ _ _ (by decide), i1]; exact h4
  have u14 : tb_up2 I1 2 0 0 1 4 = nI rc := by rw [pu_u2p _ _ _ _ (by decide), i1]; exact h4
  have e0 : (nI (pu_fin y.2.2.1 y.2.2.2) = (0 : Int32)) = (pu_fin y.2.2.1 y.2.2.2 = 0) := pu_eqI (b := 0) (by omega) (by omega)
  refine ⟨tb_up2 I2 1 4 (nI (rc + 1)), J2, tb_up2 R2 17 rc (some s.length), ?_, ?_, pu_u2s _ _ _ _, fun k hk => by rw [pu_u2k _ _ _ _ hk, (b2 1 l1).1, pu_u2p _ _ _ _ (by decide), i1], fun q x0 x1 x2 x3 x4 x5 => by rw [pu_u2p _ _ _ _ x1, (b2 q x0).1, pu_u2p _ _ _ _ x2]; exact a4 q x2 x3 x4 x5, fun q x0 => (b2 q x0).2.1, fun q x0 x1 => by rw [pu_u2p _ _ _ _ x1, (b2 q x0).2.2], fun z => by rw [pu_u2i, (b2 17 l17).2.2], ?_, g6, sh1, sh2⟩
  · unfold fb_x_rule
    simp only [pu_gI (pu_c1 hX), h4, Option.bind_some, pu_lt0 (show rc < 2147483648 by omega), ↓reduceIte, pu_gN (pu_c1 hX), pu_f1_3 hX, pu_al4 (pu_c17 hX), pu_ltI (show rc < 2147483648 by omega) (show 6 < 2147483648 by omega), hrc, pu_f1_2 hX, pu_on (pu_c15 hX), a1, pu_f1_0 hX, pu_pI (pu_c2 hX), e0, hf, u14, b1, pu_tR4 c17 hrc (show 6 ≤ 100000 by omega) cn, pu_gI c1, i14, pu_R1, pu_pI c1, pu_u2s, nI_pred, show nI 0 = 0 from rfl]
  · rw [pu_u2p _ _ _ _ (by decide), (b2 2 (by omega)).1, pu_u2s]
  · rw [pu_u2p _ _ _ _ (by omega)]
    exact pz_RC_eq y.1 0 (fun k _ h2 => by rw [b3 k (by omega), pu_u2p _ _ _ _ (by decide)]) g4
end PUP9
