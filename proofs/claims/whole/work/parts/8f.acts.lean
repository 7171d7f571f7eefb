/-! ===== Acts: year, tighten, cut, hang, prop, undo ===== -/
section PUF1
variable {s : List (Nat × Nat)} {I : Nat → Nat → Int32} {J : Nat → Nat → Int64} {R : Nat → Nat → Option Nat} {own : Nat → Nat} {A T : pu_A} {nn : Nat} {L : List pu_A} {j tl : Nat} {rs : List pu_Ru}
/-- the past takes the state on both sides; then each changes it -/
theorem pu_keep2 (H : pu_In s I R own A T nn L j tl rs) {N : Nat} (h0 : s[0]? = some (9, N)) : ∃ s' Ik Jk R' own', fb_p_keep 38 19 (s, I, J, R) = some (s', Ik, Jk, R') ∧ pu_X s' R' ∧ pu_M s' R' ∧ pu_V Ik 19 A ∧ s'[0]? = some (9, N) ∧ ∃ ro, pu_FX s' Ik R' ro ∧
    ∀ I1 J1, (∀ q, (q < 19 ∨ 26 ≤ q) → q ≠ 40 → I1 q = Ik q) → ∃ Im, (pu_Q (I1 80) A ∧ I1 0 = I 0) ∧ fb_m_keepsAct 70 (s', I1, J1, R') = some (s', Im, J1, R') ∧ pu_Q (Im 80) A ∧ pu_FM Im ro ∧
    ∀ A' I2, pu_V I1 19 A' → pu_Q (I2 80) A' → (∀ q, q ≠ 70 → q ≠ 80 → I2 q = Im q) → (∀ k, k ≠ 18 → I2 70 k = Im 70 k) → (∀ k, k < 10 ∨ 74 ≤ k → I2 80 k = Im 80 k) → pu_Go A' → A'.1 0 0 = A.1 0 0 → A'.1 0 1 = A.1 0 1 →
      pu_In s' I2 R' own' A' T nn ((A :: L).take 20) ((j + 1) % 20) tl rs ∧ I2 0 = I 0 := by
  obtain ⟨ro, hx, hm, htr⟩ := H.ro2
  have h92 := H.hM.len
  have hgo : pu_Go A := H.2.1.1.1
  have hj : j < 20 := H.2.2.1.1.1.2.2.1
  obtain ⟨s', Ik, Jk, R', own', a1, a2, a3, a4, a5, a6, a7, a8⟩ := pu_p_keep (J := J) H.hX h92 H.v H.wf H.2.2.1.1
  have hX' : pu_X s' R' := H.hX.gr a3.1 (fun q h1 h2 _ _ => a6 q h1 h2)
  have hM' : pu_M s' R' := H.hM.gr a3.1 (a6 70 (by omega) (by omega))
  have hP : ∀ x, 100 ≤ x → x ≠ 1 + j := fun x hx => by omega
  refine ⟨s', Ik, Jk, R', own', a1, hX', hM', pu_V_eq (fun i hi => a4 _ (by omega) (by omega)) H.v, a3.1 _ _ h0, ro, htr _ s' Ik R' own' hP a3 (a6 17 (by omega) (by omega)) (by rw [a4 18 (by omega) (by omega)]), ?_⟩
  intro I1 J1 f1
  have w : ∀ q, q < 92 → q ≠ 38 → q ≠ 40 → (q < 19 ∨ 26 ≤ q) → I1 q = I q := fun q h1 h2 h3 h4 => (f1 q h4 h3).trans (a4 q h1 h2)
  obtain ⟨_, hU1, hU2⟩ := H.2.2.1
  obtain ⟨Im, b1, b2, b3, b4, b5⟩ := pu_m_keepsAct (J := J1) (I := I1) (P := pu_PP A) hM' (by rw [w 80 (by omega) (by omega) (by omega) (by omega)]; exact H.q) H.wf ⟨hgo, rfl, rfl⟩ (by rw [w 70 (by omega) (by omega) (by omega) (by omega)]; exact hU1) H.2.2.1.1.1.2.2.2 (by rw [w 81 (by omega) (by omega) (by omega) (by omega)]; exact hU2)
  refine ⟨Im, ⟨by rw [w 80 (by omega) (by omega) (by omega) (by omega)]; exact H.q, w 0 (by omega) (by omega) (by omega) (by omega)⟩, b1, by rw [b4 80 (by omega) (by omega), w 80 (by omega) (by omega) (by omega) (by omega)]; exact H.q, ?_, ?_⟩
  · have e72 : Im 72 = I 72 := by rw [b4 72 (by omega) (by omega), w 72 (by omega) (by omega) (by omega) (by omega)]
    have e74 : Im 74 = I 74 := by rw [b4 74 (by omega) (by omega), w 74 (by omega) (by omega) (by omega) (by omega)]
    have e75 : Im 75 = I 75 := by rw [b4 75 (by omega) (by omega), w 75 (by omega) (by omega) (by omega) (by omega)]
    have e21 : Im 70 21 = I 70 21 := by rw [b5 21 (by omega), w 70 (by omega) (by omega) (by omega) (by omega)]
    cases ro with
    | none => exact e21.trans hm
    | some ru =>
      obtain ⟨r, c1, c2, c3, c4, c5, c6⟩ := hm
      exact ⟨r, c1, e21.trans c2, c3, by rw [e75]; exact c4, by rw [e72, e74]; exact c5, c6⟩
  · intro A' I2 v q g1 g2 g3 go e0 e1
    refine ⟨H.act (P := fun x => x ≠ 1 + j) hP (I1 := I1) ⟨a3.1, fun k h1 h2 => ⟨(a3.2 k h1 h2).1, fun h => by rw [f1 k (by omega) (by omega)]; exact (a3.2 k h1 h2).2 h⟩⟩ (pu_RG_eq (fun q hq => f1 q (by omega) (by omega)) (f1 38 (by omega) (by omega)) a2) w a6 (H.1.2.2.keep hj (a6 37 (by omega) (by omega)) a7 a8) v (fun q h1 h2 h3 => (g1 q h1 h2).trans (b4 q h3 h1)) (fun k h1 h2 => (g2 k h1).trans (b5 k h2)) (fun k hk => (g3 k hk).trans (by rw [b4 80 (by omega) (by omega)])) q ((g2 24 (by omega)).trans b2) (by rw [g1 81 (by omega) (by omega)]; exact b3) go e0 e1, ?_⟩
    rw [g1 0 (by omega) (by omega), b4 0 (by omega) (by omega), w 0 (by omega) (by omega) (by omega) (by omega)]
end PUF1
/-- the end of a line that is up, by any number -/
def pu_iu (A : pu_A) (a : Int32) : Bool := !decide (a < 0) && A.2 0 a.toNatClampNeg
section PUF2
variable {s : List (Nat × Nat)} {I : Nat → Nat → Int32} {J : Nat → Nat → Int64} {R : Nat → Nat → Option Nat} {A : pu_A}
theorem pu_s_isUpA {p : Nat} (h : pu_St s R p) (v : pu_V I p A) (wf : pu_wf A) (a : Int32) : fb_s_isUp p a (s, I, J, R) = some (pu_b (pu_iu A a), (s, I, J, R)) := by
  unfold pu_iu
  by_cases ha : a < 0
  · rw [pu_s_isUp_neg ha, decide_eq_true ha]; rfl
  · obtain ⟨n, hn, rfl⟩ := nI_of ha
    rw [pu_s_isUp h v wf (by omega), decide_eq_false ha, pu_cl (by omega)]; rfl
theorem pu_m_isUpA (hM : pu_M s R) (q : pu_Q (I 80) A) (wf : pu_wf A) (a : Int32) : fb_m_isUp 70 a (s, I, J, R) = some (pu_b (pu_iu A a), (s, I, J, R)) := by
  unfold pu_iu
  by_cases ha : a < 0
  · rw [pu_m_isUp_neg hM ha, decide_eq_true ha]; rfl
  · obtain ⟨n, hn, rfl⟩ := nI_of ha
    rw [pu_m_isUp hM q wf (by omega), decide_eq_false ha, pu_cl (by omega)]; rfl
theorem pu_iu_n (wf : pu_wf A) {a : Int32} (h : pu_iu A a = true) : ∃ k, k < A.1 0 3 ∧ a = nI k ∧ A.2 0 k = true := by
  unfold pu_iu at h
  rw [Bool.and_eq_true, Bool.not_eq_true', decide_eq_false_iff_not] at h
  obtain ⟨n, hn, rfl⟩ := nI_of h.1
  rw [pu_cl (by omega)] at h
  exact ⟨n, wf.2.2.2.2.2.2.1 n h.2, rfl, h.2⟩
end PUF2
/-! states that acts come to -/
theorem pu_year_go {ro : Option pu_Ru} {A : pu_A} (h : pu_Go A) (hy : A.1 0 2 < 999) : pu_Go (pu_year ro A) := by
  refine ⟨pu_year_wf h.1, pu_year_we h.2.1, fun k => ⟨?_, ?_, ?_⟩, by rw [pu_year_y]; omega⟩
  · rw [pu_year_r 1 k (by decide) (fun h => absurd h (by decide))]; exact (h.2.2.1 k).1
  · rw [pu_year_r 2 k (by decide) (fun h => absurd h (by decide))]; exact (h.2.2.1 k).2.1
  · have h5 := (h.2.2.1 k).2.2
    show tb_up2 (pu_gw 11 (pu_fade (pu_go ro A))).1 0 2 (A.1 0 2 + 1) 5 k ≤ 60
    rw [pu_u2p _ _ _ _ (by decide), pu_gw_1]
    unfold pu_fade pu_fd
    show (if (5 : Nat) = 5 then (if _ then A.1 5 k - A.1 0 1 else A.1 5 k) else A.1 5 k) ≤ 60
    rw [if_pos rfl]
    split
    · exact Nat.le_trans (Nat.sub_le _ _) h5
    · exact h5
theorem pu_n_go {A : pu_A} (h : pu_Go A) {r k m : Nat} (hr : r = 2 ∨ r = 5) (hm : m ≤ 60) : pu_Go (pu_n A r k m) := by
  obtain ⟨⟨w1, w2, w3, w4, w5, w6, w7, w8⟩, we, ⟨b1, b2⟩⟩ := h
  have c : ∀ r' k', r' ≠ r → (pu_n A r k m).1 r' k' = A.1 r' k' := fun r' k' hne => by show tb_up2 A.1 r k m r' k' = _; rw [pu_u2p _ _ _ _ hne]
  have d : ∀ r' k', (pu_n A r k m).1 r' k' ≤ max 60 (A.1 r' k') := fun r' k' => by
    by_cases e : r' = r
    · subst e
      show tb_up2 A.1 r' k m r' k' ≤ _
      rw [pu_u2i]
      split <;> omega
    · rw [c r' k' e]; omega
  have c0 : ∀ k', (pu_n A r k m).1 0 k' = A.1 0 k' := fun k' => c 0 k' (by omega)
  have c1 : ∀ k', (pu_n A r k m).1 1 k' = A.1 1 k' := fun k' => c 1 k' (by omega)
  have c3 : ∀ k', (pu_n A r k m).1 3 k' = A.1 3 k' := fun k' => c 3 k' (by omega)
  have c4 : ∀ k', (pu_n A r k m).1 4 k' = A.1 4 k' := fun k' => c 4 k' (by omega)
  have c2 : (pu_n A r k m).2 = A.2 := rfl
  refine ⟨⟨?_, ?_, ?_, fun h => ⟨?_, ?_⟩, fun l => ?_, fun l => ?_, fun l => ?_, fun h => ?_⟩, fun l => ?_, fun z => ⟨?_, ?_, ?_⟩, ?_⟩
  · rw [c0]; exact w1
  · rw [c0]; exact w2
  · rw [c0]; exact w3
  · rw [c1]; exact (w4 h).1
  · have := d 2 h; have := (w4 h).2; omega
  · have := d 5 l; have := w5 l; omega
  · rw [c0, c0, c3, c4]; exact w6 l
  · rw [c0, c2]; exact w7 l
  · rw [c0, c2]; exact w8 h
  · rw [c2, c3, c4]; exact we l
  · rw [c1]; exact (b1 z).1
  · have := d 2 z; have := (b1 z).2.1; omega
  · have := d 5 z; have := (b1 z).2.2; omega
  · rw [c0]; exact b2
theorem pu_gw_go {A : pu_A} (h : pu_Go A) (n : Nat) : pu_Go (pu_gw n A) := ⟨pu_gw_wf n h.1, pu_gw_we n h.2.1, by unfold pu_bd; rw [pu_gw_1]; exact h.2.2⟩
theorem pu_t2_go {A : pu_A} (h : pu_Go A) {u : Nat → Bool} (hu : ∀ l, u l = true → A.2 0 l = true) : pu_Go (pu_t2 A u (A.2 1)) := ⟨pu_t2_wf h.1 hu (fun _ h => h), fun l hl => h.2.1 l (hu l hl), h.2.2⟩
theorem pu_put_go {A : pu_A} (h : pu_Go A) {l o e m : Nat} (hl : l ≤ A.1 0 3) (hl8 : l < 8) (ho : o < A.1 0 0) (he : A.1 0 0 ≤ e) (so : A.2 1 o = true) (se : A.2 1 e = true) (hm : m ≤ 60) : pu_Go (pu_put A l o e m) := by
  refine ⟨pu_put_wf h.1 hl hl8 ho he (h.1.2.2.2.2.2.2.2 e se) (by omega), fun k hk => ?_, fun z => ⟨?_, ?_, ?_⟩, h.2.2.2⟩
  · have hk : (A.2 0 k || decide (k = l)) = true := hk
    show A.2 1 (if k = l then o else A.1 3 k) = true ∧ A.2 1 (if k = l then e else A.1 4 k) = true
    by_cases hkl : k = l
    · rw [if_pos hkl, if_pos hkl]; exact ⟨so, se⟩
    · rw [decide_eq_false hkl, Bool.or_false] at hk
      rw [if_neg hkl, if_neg hkl]; exact h.2.1 k hk
  · show (if z = l then A.1 1 z else A.1 1 z) ≤ 60
    rw [ite_self]; exact (h.2.2.1 z).1
  · show (if z = l then A.1 2 z else A.1 2 z) ≤ 60
    rw [ite_self]; exact (h.2.2.1 z).2.1
  · show (if z = l then m else A.1 5 z) ≤ 60
    split
    · exact hm
    · exact (h.2.2.1 z).2.2
section PUF3
variable {N : Nat} {xs : Nat → Int32}
theorem pu_INV.w1 {w : tb_Hp} (h : pu_INV N xs w) : pu_W1 N xs w := by
  obtain ⟨h0, hxs, own, A, T, nn, L, j, tl, rs, H⟩ := h
  exact ⟨h0, hxs, pu_m70 H.hM⟩
theorem pu_none {w : tb_Hp} (h : pu_INV N xs w) {fx fm : tb_Hp → Option (Int32 × tb_Hp)} {a : Int32} (e1 : fx w = some (a, w)) (e2 : fm w = some (a, w)) : ∃ a w1 w2, fx w = some (a, w1) ∧ fm w1 = some (a, w2) ∧ pu_W1 N xs w1 ∧ pu_INV N xs w2 := ⟨a, w, w, e1, e2, h.w1, h⟩
theorem pu_k_year : pu_Step N xs (fb_x_year 1) (fb_m_year 70) := by
  rintro ⟨s, I, J, R⟩ ⟨h0, hxs, own, A, T, nn, L, j, tl, rs, H⟩
  have hinv : pu_INV N xs (s, I, J, R) := ⟨h0, hxs, own, A, T, nn, L, j, tl, rs, H⟩
  have H : pu_In s I R own A T nn L j tl rs := H
  have h0 : s[0]? = some (9, N) := h0
  have hxs : I 0 = xs := hxs
  have hX := H.hX
  have hM := H.hM
  have hy := H.bd.2
  have h5 := H.wf.1
  by_cases hz : A.1 0 0 = 0
  · refine pu_none hinv (a := -1) ?_ ?_
    · unfold fb_x_year
      simp only [pu_gN (pu_c1 hX), pu_f1_5 hX, Option.bind_some, pu_on (pu_c18 hX), pu_sc_isEmpty hX H.v H.wf, pu_b0, decide_eq_false_iff_not, hz, not_true, ↓reduceIte]
    · unfold fb_m_year
      simp only [pu_on (pu_m70 hM), pu_m_isStreet hM H.q, Option.bind_some, pu_b0, decide_eq_false_iff_not, hz, Nat.lt_irrefl, not_false_eq_true, ↓reduceIte]
  · by_cases hy2 : A.1 0 2 = 999
    · refine pu_none hinv (a := -1) ?_ ?_
      · unfold fb_x_year
        simp only [pu_gN (pu_c1 hX), pu_f1_5 hX, Option.bind_some, pu_on (pu_c18 hX), pu_sc_isEmpty hX H.v H.wf, pu_b0, decide_eq_false_iff_not, hz, not_false_eq_true, ↓reduceIte, pu_gN (pu_c18 hX), pu_f18_0 hX, pu_gI (pu_c19 hX), H.v.1.2.2.1, hy2, show (999 : Int32) = nI 999 from rfl, pu_ltI (show 999 < 2147483648 by omega) (show 999 < 2147483648 by omega), Nat.lt_irrefl]
      · unfold fb_m_year
        simp only [pu_on (pu_m70 hM), pu_m_isStreet hM H.q, Option.bind_some, pu_b0, decide_eq_false_iff_not, show 0 < A.1 0 0 by omega, not_true, ↓reduceIte, pu_gN (pu_m70 hM), pu_r20 hM, pu_cell' hM (show (10 : Int32) = nI 10 from rfl) (show 10 < 149 by omega), H.q.1.2.2.2.1, hy2, show (999 : Int32) = nI 999 from rfl]
    · obtain ⟨s', Ik, Jk, R', own', a1, hX', hM', vk, h0', ro, hx, hb⟩ := pu_keep2 (J := J) H h0
      obtain ⟨c, c1, c2⟩ := pu_x_ruleInForce (J := Jk) hX' hx
      obtain ⟨I1, J1, d1, d2, d3⟩ := pu_jg_passYear (J := Jk) (pu_jg hX') (pu_st19 hX') (Or.inl (by omega)) vk H.wf c2
      obtain ⟨Im, ⟨q1, i10⟩, e1, e2, e3, e4⟩ := hb I1 J1 (fun q h1 h2 => d3.1 q (by omega) h2)
      obtain ⟨I2, J2, f1, f2, f3⟩ := pu_m_passes (J := J1) hM' e2 H.wf e3
      obtain ⟨hin, hi0⟩ := e4 (pu_year ro A) I2 d2 f2 f3.1 f3.2.1 f3.2.2.1 (pu_year_go H.2.1.1.1 (by omega)) (pu_year_r 0 0 (by decide) (fun _ => by decide)) (pu_year_r 0 1 (by decide) (fun _ => by decide))
      refine ⟨pu_mk (pu_fallen A (pu_year ro A)) 10, (s', I1, J1, R'), (s', I2, J2, R'), ?_, ?_, ⟨h0', i10.trans hxs, pu_m70 hM'⟩, h0', hi0.trans hxs, own', _, _, _, _, _, _, _, hin⟩
      · unfold fb_x_year
        simp only [pu_gN (pu_c1 hX), pu_f1_5 hX, pu_f1_7 hX, Option.bind_some, pu_on (pu_c18 hX), pu_sc_isEmpty hX H.v H.wf, pu_b0, decide_eq_false_iff_not, hz, not_false_eq_true, ↓reduceIte, pu_gN (pu_c18 hX), pu_f18_0 hX, pu_gI (pu_c19 hX), H.v.1.2.2.1, show (999 : Int32) = nI 999 from rfl, pu_ltI (show A.1 0 2 < 2147483648 by omega) (show 999 < 2147483648 by omega), show A.1 0 2 < 999 by omega, pu_on (pu_c38 hX), a1, pu_gN (pu_c1 hX'), pu_f1_8 hX', pu_f1_5 hX', pu_gN (pu_c18 hX'), pu_f18_0 hX', pu_on (pu_c1 hX'), c1, pu_on (pu_c40 hX'), d1]
      · unfold fb_m_year
        simp only [pu_on (pu_m70 hM'), pu_m_isStreet hM' q1, Option.bind_some, pu_b0, decide_eq_false_iff_not, show 0 < A.1 0 0 by omega, not_true, ↓reduceIte, pu_gN (pu_m70 hM'), pu_r20 hM', pu_cell' hM' (show (10 : Int32) = nI 10 from rfl) (show 10 < 149 by omega), q1.1.2.2.2.1, show (999 : Int32) = nI 999 from rfl, pu_eqI (show A.1 0 2 < 2147483648 by omega) (show 999 < 2147483648 by omega), hy2, e1, f1]
theorem pu_min60 (x : Nat) (hx : x ≤ 1000) (w : tb_Hp) : fb_ma_min 60 (nI x) w = some (nI (min 60 x), w) := by
  unfold fb_ma_min
  rw [show (60 : Int32) = nI 60 from rfl]
  simp only [pu_leI (show 60 < 2147483648 by omega) (show x < 2147483648 by omega)]
  by_cases h : 60 ≤ x
  · rw [if_pos h, Nat.min_eq_left h]
  · rw [if_neg h, Nat.min_eq_right (by omega)]
theorem pu_wi19 {a : Int32} (h : pu_wi a 1 9 = true) : ∃ m, m ≤ 9 ∧ a = nI m := by
  obtain ⟨m, h1, h2, _⟩ := pu_wi_n (h := 9) h (by decide) rfl (by decide)
  exact ⟨m, h1, h2⟩
theorem pu_Q_n5 {I : Nat → Nat → Int32} {A : pu_A} (q : pu_Q (I 80) A) (wf : pu_wf A) {l m : Nat} (hl : l < A.1 0 3) (hu : A.2 0 l = true) : pu_Q ((tb_up2 I 80 (42 + 4 * l + 2) (nI m)) 80) (pu_n A 5 l m) := by
  have h5 := wf.1
  have h8 := wf.2.2.1
  obtain ⟨⟨a0, a1, a2, a3, a4⟩, b, c, d⟩ := q
  refine ⟨⟨?_, ?_, ?_, ?_, ?_⟩, ?_, ?_, ?_⟩
  · simp (disch := omega) only [pu_u2k]; exact a0
  · simp (disch := omega) only [pu_u2k]; exact a1
  · simp (disch := omega) only [pu_u2k]; exact a2
  · simp (disch := omega) only [pu_u2k]; exact a3
  · simp (disch := omega) only [pu_u2k]; exact a4
  · intro h hh
    simp (disch := omega) only [pu_u2k]; exact b h hh
  · intro h hh
    have hh : h < 2 * A.1 0 0 := hh
    simp (disch := omega) only [pu_u2k]; exact c h hh
  · intro k hk
    have hk : k < A.1 0 3 := hk
    obtain ⟨d1, d2, d3, d4⟩ := d k hk
    show _ = nI (A.1 3 k) ∧ _ = nI (A.1 4 k) ∧ _ = (if A.2 0 k then nI (tb_up2 A.1 5 l m 5 k) else 0) ∧ _ = pu_b (A.2 0 k)
    by_cases e : k = l
    · subst e
      rw [pu_u2s, hu, if_pos rfl]
      simp (disch := omega) only [pu_u2k, pu_u2s]
      exact ⟨d1, d2, trivial, by rw [d4, hu]⟩
    · rw [pu_u2k _ _ _ _ e]
      simp (disch := omega) only [pu_u2k]
      exact ⟨d1, d2, d3, d4⟩
theorem pu_k_tighten (a b : Int32) : pu_Step N xs (fb_x_tighten 1 a b) (fb_m_tighten 70 a b) := by
  rintro ⟨s, I, J, R⟩ ⟨h0, hxs, own, A, T, nn, L, j, tl, rs, H⟩
  have hinv : pu_INV N xs (s, I, J, R) := ⟨h0, hxs, own, A, T, nn, L, j, tl, rs, H⟩
  have H : pu_In s I R own A T nn L j tl rs := H
  have h0 : s[0]? = some (9, N) := h0
  have hxs : I 0 = xs := hxs
  have hX := H.hX
  have hM := H.hM
  have h8 := H.wf.2.2.1
  have hcx : fb_x_tighten 1 a b (s, I, J, R) = if pu_iu A a = false then some (-1, (s, I, J, R)) else if pu_wi b 1 9 = false then some (-1, (s, I, J, R)) else fb_x_tighten 1 a b (s, I, J, R) := by
    unfold fb_x_tighten
    simp only [pu_gN (pu_c1 hX), pu_f1_5 hX, Option.bind_some, pu_gN (pu_c18 hX), pu_f18_0 hX, pu_on (pu_c19 hX), pu_s_isUpA (pu_st19 hX) H.v H.wf, pu_b0, pu_x_within]
    cases pu_iu A a <;> cases pu_wi b 1 9 <;> simp only [Bool.true_eq_false, ↓reduceIte]
  cases hu : pu_iu A a
  · refine pu_none hinv (a := -1) (by rw [hcx, hu, if_pos rfl]) ?_
    unfold fb_m_tighten
    simp only [pu_on (pu_m70 hM), pu_m_isUpA hM H.q H.wf, Option.bind_some, pu_b0, hu, ↓reduceIte]
  · cases hw : pu_wi b 1 9
    · refine pu_none hinv (a := -1) (by rw [hcx, hu, hw]; rfl) ?_
      unfold fb_m_tighten
      simp only [pu_on (pu_m70 hM), pu_m_isUpA hM H.q H.wf, Option.bind_some, pu_b0, hu, Bool.true_eq_false, ↓reduceIte, pu_m_in b 1 9 (show (1 : Int64) = (1 : Int32).toInt64 from rfl) (show (9 : Int64) = (9 : Int32).toInt64 from rfl), hw]
    · obtain ⟨l, hl, rfl, hul⟩ := pu_iu_n H.wf hu
      obtain ⟨m, hm, rfl⟩ := pu_wi19 hw
      obtain ⟨s', Ik, Jk, R', own', a1, hX', hM', vk, h0', ro, hx, hb⟩ := pu_keep2 (J := J) H h0
      have hp5 : A.1 5 l ≤ 60 := (H.bd.1 l).2.2
      have ep : Ik 24 l = nI (A.1 5 l) := (vk.2.2 l hl).2.2 hul
      have ev : pu_V (tb_up2 Ik 24 l (nI (min 60 (A.1 5 l + m)))) 19 (pu_n A 5 l (min 60 (A.1 5 l + m))) := pu_V_n5 (p := 19) vk
      have go := pu_n_go (r := 5) (k := l) (m := min 60 (A.1 5 l + m)) H.2.1.1.1 (Or.inr rfl) (Nat.min_le_left _ _)
      obtain ⟨Im, ⟨q1, i10⟩, e1, e2, e3, e4⟩ := hb (tb_up2 Ik 24 l (nI (min 60 (A.1 5 l + m)))) Jk (fun q h1 _ => pu_u2p _ _ _ _ (by omega))
      have qm := pu_Q_n5 (m := min 60 (A.1 5 l + m)) e2 H.wf hl hul
      obtain ⟨hin, hi0⟩ := e4 _ (tb_up2 Im 80 (42 + 4 * l + 2) (nI (min 60 (A.1 5 l + m)))) ev qm (fun q _ h2 => pu_u2p _ _ _ _ h2) (fun k _ => by rw [pu_u2p _ _ _ _ (by decide)]) (fun k hk => pu_u2k _ _ _ _ (by omega)) go rfl rfl
      refine ⟨nI (min 60 (A.1 5 l + m)), (s', tb_up2 Ik 24 l (nI (min 60 (A.1 5 l + m))), Jk, R'), (s', tb_up2 Im 80 (42 + 4 * l + 2) (nI (min 60 (A.1 5 l + m))), Jk, R'), ?_, ?_, ⟨h0', i10.trans hxs, pu_m70 hM'⟩, h0', hi0.trans hxs, own', _, _, _, _, _, _, _, hin⟩
      · have p2 := pu_s_pullOf (J := Jk) (pu_st19 hX') ev go.1 (k := l) hl
        rw [show tb_up2 Ik 24 l (nI (min 60 (A.1 5 l + m))) (19 + 5) l = nI (min 60 (A.1 5 l + m)) from pu_u2s _ _ _ _] at p2
        have p1 := pu_s_pullOf (J := Jk) (pu_st19 hX') vk H.wf hl
        rw [show Ik (19 + 5) l = nI (A.1 5 l) from ep] at p1
        unfold fb_x_tighten
        simp only [pu_gN (pu_c1 hX), pu_f1_5 hX, pu_f1_7 hX, Option.bind_some, pu_gN (pu_c18 hX), pu_f18_0 hX, pu_on (pu_c19 hX), pu_s_isUpA (pu_st19 hX) H.v H.wf, hu, hw, pu_b0, pu_x_within, Bool.true_eq_false, ↓reduceIte, pu_on (pu_c38 hX), a1, pu_gN (pu_c1 hX'), pu_f1_5 hX', pu_gN (pu_c18 hX'), pu_f18_0 hX', pu_on (pu_c19 hX'), p1, nI_add, pu_min60 (A.1 5 l + m) (by omega), pu_s_setPull (pu_st19 hX') vk H.wf hl]
        rw [show (19 + 5 : Nat) = 24 from rfl]
        simp only [p2, Option.bind_some]
      · have p1 := pu_m_pullOf (J := Jk) hM' e2 H.wf hl
        rw [if_pos hul] at p1
        have p2 := pu_m_pullOf (I := tb_up2 Im 80 (42 + 4 * l + 2) (nI (min 60 (A.1 5 l + m)))) (J := Jk) hM' qm go.1 (k := l) hl
        rw [show (pu_n A 5 l (min 60 (A.1 5 l + m))).2 0 l = true from hul, if_pos rfl, show (pu_n A 5 l (min 60 (A.1 5 l + m))).1 5 l = min 60 (A.1 5 l + m) from pu_u2s A.1 5 l _] at p2
        unfold fb_m_tighten
        simp only [pu_on (pu_m70 hM'), pu_m_isUpA hM' q1 H.wf, Option.bind_some, pu_b0, hu, Bool.true_eq_false, ↓reduceIte, pu_m_in _ 1 9 (show (1 : Int64) = (1 : Int32).toInt64 from rfl) (show (9 : Int64) = (9 : Int32).toInt64 from rfl), hw, e1, p1, pu_gN (pu_m70 hM'), pu_r20 hM', nI_add, show (60 : Int32) = nI 60 from rfl, pu_ltI (show 60 < 2147483648 by omega) (show A.1 5 l + m < 2147483648 by omega), pu_put' hM' (pu_x2 l) (show 42 + 4 * l + 2 < 149 by omega)]
        by_cases h60 : 60 < A.1 5 l + m
        · rw [if_pos h60, show nI 60 = nI (min 60 (A.1 5 l + m)) by rw [Nat.min_eq_left (by omega)], p2]; rfl
        · rw [if_neg h60, show nI (A.1 5 l + m) = nI (min 60 (A.1 5 l + m)) by rw [Nat.min_eq_right (by omega)], p2]; rfl
end PUF3
