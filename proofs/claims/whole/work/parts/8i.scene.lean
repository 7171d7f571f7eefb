/-! ===== A Scene made at run time; a Scene copied ===== -/
def pu_NoS : List (Nat × Nat) := [(12, 4), (1, 10), (1, 10), (1, 10)]
def pu_ScS : List (Nat × Nat) := (15, 5) :: (pu_StS ++ (pu_StS ++ pu_NoS))
theorem pu_app {s t : List (Nat × Nat)} {k : Nat} {q : Nat × Nat} (h : s[k]? = some q) : (s ++ t)[k]? = some q := by rw [List.getElem?_append_left (pu_slt h)]; exact h
theorem pu_St.gr {s s' : List (Nat × Nat)} {R R' : Nat → Nat → Option Nat} {p : Nat} (h : pu_St s R p) (hs : ∀ (k : Nat) (q : Nat × Nat), s[k]? = some q → s'[k]? = some q) (hR : R' p = R p) : pu_St s' R' p := ⟨hs _ _ h.1, ⟨hs _ _ h.2.1.1, hs _ _ h.2.1.2.1, hs _ _ h.2.1.2.2.1, hs _ _ h.2.1.2.2.2.1, hs _ _ h.2.1.2.2.2.2.1, hs _ _ h.2.1.2.2.2.2.2⟩, by rw [hR]; exact h.2.2⟩
section PUI1
variable {s : List (Nat × Nat)} {I : Nat → Nat → Int32} {J : Nat → Nat → Int64} {R : Nat → Nat → Option Nat}
theorem pu_newNo : ∃ I' J' R', tb_on 12 s.length (tb_new (s, I, J, R) 12 4) (fb_n_init s.length (tb_new (s, I, J, R) 12 4)) = some (s ++ pu_NoS, I', J', R') ∧ (R' s.length 1 = some (s.length + 1) ∧ R' s.length 2 = some (s.length + 2) ∧ R' s.length 3 = some (s.length + 3)) ∧ pu_Bw s.length I I' J J' R R' ∧ (∀ i, i < 4 → I' (s.length + i) = fun _ => 0) := by
  have h0 : (s ++ [(12, 4)])[s.length]? = some (12, 4) := by rw [List.getElem?_append_right (Nat.le_refl _), Nat.sub_self]; rfl
  have e : fb_n_init s.length (tb_new (s, I, J, R) 12 4) = some (s ++ pu_NoS, tb_up1 (tb_up1 (tb_up1 (tb_up1 I s.length (fun _ => 0)) (s.length + 1) (fun _ => 0)) (s.length + 2) (fun _ => 0)) (s.length + 3) (fun _ => 0), tb_up1 (tb_up1 (tb_up1 (tb_up1 J s.length (fun _ => 0)) (s.length + 1) (fun _ => 0)) (s.length + 2) (fun _ => 0)) (s.length + 3) (fun _ => 0),
      tb_up2 (tb_up1 (tb_up2 (tb_up1 (tb_up2 (tb_up1 (tb_up1 R s.length (fun _ => none)) (s.length + 1) (fun _ => none)) s.length 1 (some (s.length + 1))) (s.length + 2) (fun _ => none)) s.length 2 (some (s.length + 2))) (s.length + 3) (fun _ => none)) s.length 3 (some (s.length + 3))) := by
    unfold fb_n_init
    show ((tb_na 1 (nI 10) (s ++ [(12, 4)], tb_up1 I s.length (fun _ => 0), tb_up1 J s.length (fun _ => 0), tb_up1 R s.length (fun _ => none))).bind fun w1 => (tb_pR 12 1 s.length (s ++ [(12, 4)]).length w1).bind _) = _
    rw [pu_row h0 (by omega)]
    show ((tb_na 1 (nI 10) _).bind fun w1 => (tb_pR 12 2 s.length (s ++ [(12, 4)] ++ [(1, 10)]).length w1).bind _) = _
    rw [pu_row (pu_app h0) (by omega)]
    show ((tb_na 1 (nI 10) _).bind fun w1 => (tb_pR 12 3 s.length (s ++ [(12, 4)] ++ [(1, 10)] ++ [(1, 10)]).length w1).bind _) = _
    rw [pu_row (pu_app (pu_app h0)) (by omega)]
    simp only [List.length_append, List.length_cons, List.length_nil, List.append_assoc, List.cons_append, List.nil_append]
    rfl
  have hk : tb_kd (tb_new (s, I, J, R) 12 4) s.length = some 12 := by
    show ((s ++ [(12, 4)])[s.length]?).map Prod.fst = some 12
    rw [h0]; rfl
  have e3 : tb_on 12 s.length (tb_new (s, I, J, R) 12 4) (fb_n_init s.length (tb_new (s, I, J, R) 12 4)) = fb_n_init s.length (tb_new (s, I, J, R) 12 4) := by unfold tb_on; rw [hk]; rfl
  refine ⟨_, _, _, e3.trans e, ?_, ?_, ?_⟩
  · simp (disch := omega) only [pu_u2k, pu_u2s, pu_u2p, pu_u1p, and_self]
  · intro q hq
    simp (disch := omega) only [pu_u2p, pu_u1p, and_self]
  · intro i hi
    have : i = 0 ∨ i = 1 ∨ i = 2 ∨ i = 3 := by omega
    rcases this with h | h | h | h <;> subst h <;> simp (disch := omega) only [pu_u1p, pu_u1s, Nat.add_zero]
theorem pu_newSc : ∃ I' J' R', tb_on 15 s.length (tb_new (s, I, J, R) 15 5) (fb_sc_init s.length (tb_new (s, I, J, R) 15 5)) = some (s ++ pu_ScS, I', J', R') ∧ pu_SR (s ++ pu_ScS) R' s.length ∧ pu_Bw s.length I I' J J' R R' ∧ I' s.length 3 = -1 ∧ (∀ i k, i < 19 → (i = 0 → k ≠ 3) → I' (s.length + i) k = 0) := by
  have h0 : (s ++ [(15, 5)])[s.length]? = some (15, 5) := by rw [List.getElem?_append_right (Nat.le_refl _), Nat.sub_self]; rfl
  have l1 : (s ++ [(15, 5)]).length = s.length + 1 := by rw [List.length_append]; rfl
  have l2 : (s ++ [(15, 5)] ++ pu_StS).length = s.length + 8 := by rw [List.length_append, l1]; rfl
  have l3 : (s ++ [(15, 5)] ++ pu_StS ++ pu_StS).length = s.length + 15 := by rw [List.length_append, l2]; rfl
  obtain ⟨I1, J1, R1, a1, a2, a3, a4⟩ := pu_newSt (s := s ++ [(15, 5)]) (I := tb_up1 I s.length (fun _ => 0)) (J := tb_up1 J s.length (fun _ => 0)) (R := tb_up1 R s.length (fun _ => none))
  obtain ⟨I2, J2, R2, b1, b2, b3, b4⟩ := pu_newSt (s := s ++ [(15, 5)] ++ pu_StS) (I := I1) (J := J1) (R := tb_up2 R1 s.length 0 (some (s.length + 1)))
  obtain ⟨I3, J3, R3, c1, c2, c3, c4⟩ := pu_newNo (s := s ++ [(15, 5)] ++ pu_StS ++ pu_StS) (I := I2) (J := J2) (R := tb_up2 R2 s.length 1 (some (s.length + 8)))
  rw [l1] at a1 a2 a3 a4
  rw [l2] at b1 b2 b3 b4
  rw [l3] at c1 c2 c3 c4
  have es : s ++ [(15, 5)] ++ pu_StS ++ pu_StS ++ pu_NoS = s ++ pu_ScS := by
    simp only [List.append_assoc]; rfl
  have hp : ∀ i, i < 19 → (s ++ pu_ScS)[s.length + i]? = pu_ScS[i]? := fun i _ => by rw [List.getElem?_append_right (by omega), Nat.add_sub_cancel_left]
  have k1 : tb_kd (tb_new (s, I, J, R) 15 5) s.length = some 15 := by
    show ((s ++ [(15, 5)])[s.length]?).map Prod.fst = some 15
    rw [h0]; rfl
  refine ⟨tb_up2 I3 s.length 3 (-1), J3, tb_up2 R3 s.length 2 (some (s.length + 15)), ?_, ?_, ?_, pu_u2s _ _ _ _, ?_⟩
  · unfold tb_on
    rw [k1]
    show fb_sc_init s.length (s ++ [(15, 5)], tb_up1 I s.length (fun _ => 0), tb_up1 J s.length (fun _ => 0), tb_up1 R s.length (fun _ => none)) = _
    unfold fb_sc_init
    simp only [a1, Option.bind_some, pu_pR (pu_app (t := pu_StS) h0), l1, b1, pu_pR (pu_app (t := pu_StS) (pu_app (t := pu_StS) h0)), l2, c1, pu_pR (pu_app (t := pu_NoS) (pu_app (t := pu_StS) (pu_app (t := pu_StS) h0))), l3, es]
    have h5 := hp 0 (by omega)
    rw [Nat.add_zero] at h5
    simp only [pu_pR (show (s ++ pu_ScS)[s.length]? = some (15, 5) from h5), pu_pI (show (s ++ pu_ScS)[s.length]? = some (15, 5) from h5), Option.bind_some]
  · have r3 : ∀ q, q < s.length + 15 → q ≠ s.length → tb_up2 R3 s.length 2 (some (s.length + 15)) q = R2 q := fun q h1 h2 => by rw [pu_u2p _ _ _ _ h2, (c3 q h1).2.2, pu_u2p _ _ _ _ h2]
    have r2 : ∀ q, q < s.length + 8 → q ≠ s.length → R2 q = R1 q := fun q h1 h2 => by rw [(b3 q h1).2.2, pu_u2p _ _ _ _ h2]
    refine ⟨⟨hp 0 (by omega), ?_, ?_, pu_u2s _ _ _ _⟩, ⟨?_, ?_⟩, ⟨hp 15 (by omega), hp 16 (by omega), hp 17 (by omega), hp 18 (by omega)⟩, ?_⟩
    · rw [pu_u2k _ _ _ _ (by decide), (c3 s.length (by omega)).2.2, pu_u2k _ _ _ _ (by decide), (b3 s.length (by omega)).2.2, pu_u2s]
    · rw [pu_u2k _ _ _ _ (by decide), (c3 s.length (by omega)).2.2, pu_u2s]
    · refine pu_St.gr a2 (fun k q h => by rw [← es]; exact pu_app (pu_app h)) ?_
      rw [r3 (s.length + 1) (by omega) (by omega), r2 (s.length + 1) (by omega) (by omega)]
    · refine pu_St.gr b2 (fun k q h => by rw [← es]; exact pu_app h) ?_
      rw [r3 (s.length + 8) (by omega) (by omega)]
    · rw [pu_u2p _ _ _ _ (by omega)]
      exact c2
  · intro q hq
    refine ⟨?_, ?_, ?_⟩
    · rw [pu_u2p _ _ _ _ (by omega), (c3 q (by omega)).1, (b3 q (by omega)).1, (a3 q (by omega)).1, pu_u1p _ _ _ (by omega)]
    · rw [(c3 q (by omega)).2.1, (b3 q (by omega)).2.1, (a3 q (by omega)).2.1, pu_u1p _ _ _ (by omega)]
    · rw [pu_u2p _ _ _ _ (by omega), (c3 q (by omega)).2.2, pu_u2p _ _ _ _ (by omega), (b3 q (by omega)).2.2, pu_u2p _ _ _ _ (by omega), (a3 q (by omega)).2.2, pu_u1p _ _ _ (by omega)]
  · intro i k hi hk
    by_cases h1 : i = 0
    · subst h1
      rw [Nat.add_zero, pu_u2k _ _ _ _ (hk rfl), (c3 s.length (by omega)).1, (b3 s.length (by omega)).1, (a3 s.length (by omega)).1, pu_u1s]
    · rw [pu_u2p _ _ _ _ (by omega)]
      by_cases h2 : i < 8
      · rw [(c3 (s.length + i) (by omega)).1, (b3 (s.length + i) (by omega)).1]
        have := a4 (i - 1) (by omega)
        rw [show s.length + 1 + (i - 1) = s.length + i by omega] at this
        rw [this]
      · by_cases h3 : i < 15
        · rw [(c3 (s.length + i) (by omega)).1]
          have := b4 (i - 8) (by omega)
          rw [show s.length + 8 + (i - 8) = s.length + i by omega] at this
          rw [this]
        · have := c4 (i - 15) (by omega)
          rw [show s.length + 15 + (i - 15) = s.length + i by omega] at this
          rw [this]
/-- notes copied -/
theorem pu_n_copyFrom {p q : Nat} (hp : s[p]? = some (12, 4) ∧ s[p + 1]? = some (1, 10) ∧ s[p + 2]? = some (1, 10) ∧ s[p + 3]? = some (1, 10)) (hp2 : R p 1 = some (p + 1) ∧ R p 2 = some (p + 2) ∧ R p 3 = some (p + 3)) (hq : s[q]? = some (12, 4) ∧ s[q + 1]? = some (1, 10) ∧ s[q + 2]? = some (1, 10) ∧ s[q + 3]? = some (1, 10)) (hq2 : R q 1 = some (q + 1) ∧ R q 2 = some (q + 2) ∧ R q 3 = some (q + 3)) (hd : p + 4 ≤ q ∨ q + 4 ≤ p) :
    ∃ I', fb_n_copyFrom p q (s, I, J, R) = some (s, I', J, R) ∧ I' p 0 = I q 0 ∧ (∀ i k, 1 ≤ i → i < 4 → k < 10 → I' (p + i) k = I (q + i) k) ∧ (∀ z, (z < p ∨ p + 4 ≤ z) → I' z = I z) := by
  have cp : ∀ (f g : Nat → Int32) k, k < 10 → va_cpy f g 0 0 10 k = f k := by
    intro f g k hk
    unfold va_cpy
    simp only [Nat.zero_le, true_and, Nat.zero_add, hk, ↓reduceIte, Nat.sub_zero, and_self]
  refine ⟨tb_up1 (tb_up1 (tb_up1 (tb_up2 I p 0 (I q 0)) (p + 1) (va_cpy (I (q + 1)) (I (p + 1)) 0 0 10)) (p + 2) (va_cpy (I (q + 2)) (I (p + 2)) 0 0 10)) (p + 3) (va_cpy (I (q + 3)) (I (p + 3)) 0 0 10), ?_, ?_, ?_, ?_⟩
  · unfold fb_n_copyFrom
    simp only [pu_gI hq.1, Option.bind_some, pu_pI hp.1, pu_gN hq.1, hq2.1, pu_gN hp.1, hp2.1, pu_cy10 hq.2.1 hp.2.1 (show 10 ≤ 10 by omega) (show 10 ≤ 10 by omega), hq2.2.1, hp2.2.1, pu_cy10 hq.2.2.1 hp.2.2.1 (show 10 ≤ 10 by omega) (show 10 ≤ 10 by omega), hq2.2.2, hp2.2.2, pu_cy10 hq.2.2.2 hp.2.2.2 (show 10 ≤ 10 by omega) (show 10 ≤ 10 by omega)]
    simp (disch := omega) only [pu_u1p, pu_u2p]
  · simp (disch := omega) only [pu_u1p, pu_u2s]
  · intro i k h1 h2 hk
    have : i = 1 ∨ i = 2 ∨ i = 3 := by omega
    rcases this with h | h | h <;> subst h <;> simp (disch := omega) only [pu_u1p, pu_u1s, cp _ _ k hk]
  · intro z hz
    simp (disch := omega) only [pu_u1p, pu_u2p]
theorem pu_sc_copyFrom {p q : Nat} {f : Nat → Int32} {A T : pu_A} {nn : Nat} (hp : pu_SR s R p) (hq : pu_SR s R q) (hd : p + 19 ≤ q ∨ q + 19 ≤ p) (h : pu_Sc I q f A T nn) :
    ∃ I', fb_sc_copyFrom p q (s, I, J, R) = some (s, I', J, R) ∧ pu_Sc I' p f A T nn ∧ I' p 3 = I q 3 ∧ I' p 4 = I q 4 ∧ (∀ z, (z < p ∨ p + 19 ≤ z) → I' z = I z) := by
  obtain ⟨g, ⟨v1, v2⟩, qq, ng⟩ := h
  obtain ⟨I1, a1, a2, a3⟩ := pu_s_copyFrom (J := J) hp.2.1.1 hq.2.1.1 (by omega) v1 g.1.1
  have v2' : pu_V I1 (q + 8) T := pu_V_eq (fun i hi => a3 _ (by omega)) v2
  obtain ⟨I2, b1, b2, b3⟩ := pu_s_copyFrom (J := J) hp.2.1.2 hq.2.1.2 (by omega) v2' g.2.1.1
  obtain ⟨I3, c1, c2, c3, c4⟩ := pu_n_copyFrom (I := I2) (J := J) hp.2.2.1 hp.2.2.2 hq.2.2.1 hq.2.2.2 (by omega)
  have o3 : ∀ z, (z < p + 1 ∨ p + 19 ≤ z) → I3 z = I z := fun z hz => by rw [c4 z (by omega), b3 z (by omega), a3 z (by omega)]
  have e4 : tb_up2 I3 p 3 (I q 3) q 4 = I q 4 := by rw [pu_u2p _ _ _ _ (by omega), o3 q (by omega)]
  refine ⟨tb_up2 (tb_up2 I3 p 3 (I q 3)) p 4 (I q 4), ?_, ⟨g, ⟨pu_V_eq (fun i hi => ?_) a2, pu_V_eq (fun i hi => ?_) b2⟩, qq, ?_⟩, ?_, pu_u2s _ _ _ _, fun z hz => ?_⟩
  · unfold fb_sc_copyFrom
    simp only [pu_gN hp.1.1, hp.1.2.1, pu_gN hq.1.1, hq.1.2.1, Option.bind_some, pu_on hp.2.1.1.1, a1, hp.1.2.2.1, hq.1.2.2.1, pu_on hp.2.1.2.1, b1, hp.1.2.2.2, hq.1.2.2.2, pu_on hp.2.2.1.1, c1, pu_gI hq.1.1, o3 q (by omega), pu_pI hp.1.1, e4]
  · rw [pu_u2p _ _ _ _ (by omega), pu_u2p _ _ _ _ (by omega), c4 _ (by omega), b3 _ (by omega)]
  · rw [pu_u2p _ _ _ _ (by omega), pu_u2p _ _ _ _ (by omega), c4 _ (by omega)]
  · obtain ⟨n1, n2, n3, n4⟩ := ng
    have w : ∀ i, i < 4 → tb_up2 (tb_up2 I3 p 3 (I q 3)) p 4 (I q 4) (p + 15 + i) = I3 (p + 15 + i) := fun i hi => by rw [pu_u2p _ _ _ _ (by omega), pu_u2p _ _ _ _ (by omega)]
    have w2 : ∀ i, i < 4 → I2 (q + 15 + i) = I (q + 15 + i) := fun i hi => by rw [b3 _ (by omega), a3 _ (by omega)]
    refine ⟨by rw [show p + 15 = p + 15 + 0 from rfl, w 0 (by omega)]; exact c2.trans (by rw [show q + 15 = q + 15 + 0 from rfl, w2 0 (by omega)]; exact n1), n2, n3, fun i hi => ?_⟩
    obtain ⟨n, h, t, d1, d2, d3, ⟨d4, d5, d6⟩, d7⟩ := n4 i hi
    refine ⟨n, h, t, d1, d2, d3, ⟨?_, ?_, ?_⟩, d7⟩
    · rw [w 1 (by omega), c3 1 i (by omega) (by omega) (by omega), w2 1 (by omega)]; exact d4
    · rw [w 2 (by omega), c3 2 i (by omega) (by omega) (by omega), w2 2 (by omega)]; exact d5
    · rw [w 3 (by omega), c3 3 i (by omega) (by omega) (by omega), w2 3 (by omega)]; exact d6
  · rw [pu_u2k _ _ _ _ (by decide), pu_u2s]
  · rw [pu_u2p _ _ _ _ (by omega), pu_u2p _ _ _ _ (by omega), o3 z (by omega)]
end PUI1
