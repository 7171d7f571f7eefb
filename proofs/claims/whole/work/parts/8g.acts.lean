/-! ===== Acts: cut, hang, prop, undo ===== -/
section PUG1
variable {N : Nat} {xs : Nat → Int32}
theorem pu_k_cut (a : Int32) : pu_Step N xs (fb_x_cut 1 a) (fb_m_cut 70 a) := by
  rintro ⟨s, I, J, R⟩ ⟨h0, hxs, own, A, T, nn, L, j, tl, rs, H⟩
  have hinv : pu_INV N xs (s, I, J, R) := ⟨h0, hxs, own, A, T, nn, L, j, tl, rs, H⟩
  have H : pu_In s I R own A T nn L j tl rs := H
  have h0 : s[0]? = some (9, N) := h0
  have hxs : I 0 = xs := hxs
  have hX := H.hX
  have hM := H.hM
  have h8 := H.wf.2.2.1
  cases hu : pu_iu A a
  · refine pu_none hinv (a := -1) ?_ ?_
    · unfold fb_x_cut
      simp only [pu_gN (pu_c1 hX), pu_f1_5 hX, Option.bind_some, pu_gN (pu_c18 hX), pu_f18_0 hX, pu_on (pu_c19 hX), pu_s_isUpA (pu_st19 hX) H.v H.wf, pu_b0, hu, ↓reduceIte]
    · unfold fb_m_cut
      simp only [pu_on (pu_m70 hM), pu_m_isUpA hM H.q H.wf, Option.bind_some, pu_b0, hu, ↓reduceIte]
  · obtain ⟨l, hl, rfl, hul⟩ := pu_iu_n H.wf hu
    obtain ⟨s', Ik, Jk, R', own', a1, hX', hM', vk, h0', ro, hx, hb⟩ := pu_keep2 (J := J) H h0
    have go := pu_t2_go (u := fun k => A.2 0 k && !decide (k = l)) H.2.1.1.1 (fun k hk => (Bool.and_eq_true _ _ ▸ hk : _ ∧ _).1)
    have ev : pu_V (tb_up2 Ik 19 4 (pu_mk (fun k => A.2 0 k && !decide (k = l)) 8)) 19 (pu_t2 A (fun k => A.2 0 k && !decide (k = l)) (A.2 1)) := pu_V_up vk _ (fun k hk => (Bool.and_eq_true _ _ ▸ hk : _ ∧ _).1)
    have em : pu_mk (A.2 0) 8 &&& ((1 <<< (nI l &&& 31)) ^^^ (-1)) = pu_mk (fun k => A.2 0 k && !decide (k = l)) 8 := by
      rw [pu_mk_1 (show l < 8 by omega) (by omega), pu_mk_no _ _ (by omega) (by omega)]
      exact pu_mk_cong 8 (fun k hk => by rw [decide_eq_true hk, Bool.true_and])
    obtain ⟨I1, d1, d2, d3⟩ := pu_s_giveWay (J := Jk) (pu_st19 hX') ev go.1
    obtain ⟨Im, ⟨q1, i10⟩, e1, e2, e3, e4⟩ := hb I1 Jk (fun q h1 _ => by rw [d3 q (by omega), pu_u2p _ _ _ _ (by omega)])
    have qm := pu_Q_dn e2 H.wf.1 (show l < 8 by omega)
    obtain ⟨I2, f1, f2, f3⟩ := pu_m_givesWay (J := Jk) hM' qm go.1
    obtain ⟨hin, hi0⟩ := e4 _ I2 d2 f2 (fun q _ h2 => by rw [f3.1 q h2, pu_u2p _ _ _ _ h2, pu_u2p _ _ _ _ h2]) (fun k _ => by rw [f3.1 70 (by decide), pu_u2p _ _ _ _ (by decide), pu_u2p _ _ _ _ (by decide)]) (fun k hk => by rw [f3.2 k hk, pu_u2k _ _ _ _ (by omega), pu_u2k _ _ _ _ (by omega)]) (pu_gw_go go 11) (by rw [pu_gw_1]; rfl) (by rw [pu_gw_1]; rfl)
    refine ⟨pu_mk (pu_fallen (pu_t2 A (fun k => A.2 0 k && !decide (k = l)) (A.2 1)) (pu_gw 11 (pu_t2 A (fun k => A.2 0 k && !decide (k = l)) (A.2 1)))) 10, (s', I1, Jk, R'), (s', I2, Jk, R'), ?_, ?_, ⟨h0', i10.trans hxs, pu_m70 hM'⟩, h0', hi0.trans hxs, own', _, _, _, _, _, _, _, hin⟩
    · unfold fb_x_cut
      simp only [pu_gN (pu_c1 hX), pu_f1_5 hX, pu_f1_7 hX, Option.bind_some, pu_gN (pu_c18 hX), pu_f18_0 hX, pu_on (pu_c19 hX), pu_s_isUpA (pu_st19 hX) H.v H.wf, hu, pu_b0, Bool.true_eq_false, ↓reduceIte, pu_on (pu_c38 hX), a1, pu_gN (pu_c1 hX'), pu_f1_5 hX', pu_gN (pu_c18 hX'), pu_f18_0 hX', pu_gI (pu_c19 hX'), vk.1.2.2.2.2.1, em, pu_pI (pu_c19 hX'), pu_on (pu_c19 hX'), d1]
    · unfold fb_m_cut
      simp only [pu_on (pu_m70 hM'), pu_m_isUpA hM' q1 H.wf, Option.bind_some, pu_b0, hu, Bool.true_eq_false, ↓reduceIte, e1, pu_m_downs hM' (show l < 8 by omega), f1]
theorem pu_k_prop (a b : Int32) : pu_Step N xs (fb_x_prop 1 a b) (fb_m_prop 70 a b) := by
  rintro ⟨s, I, J, R⟩ ⟨h0, hxs, own, A, T, nn, L, j, tl, rs, H⟩
  have hinv : pu_INV N xs (s, I, J, R) := ⟨h0, hxs, own, A, T, nn, L, j, tl, rs, H⟩
  have H : pu_In s I R own A T nn L j tl rs := H
  have h0 : s[0]? = some (9, N) := h0
  have hxs : I 0 = xs := hxs
  have hX := H.hX
  have hM := H.hM
  have h5 := H.wf.1
  cases hu : pu_hs A a
  · refine pu_none hinv (a := -1) ?_ ?_
    · unfold fb_x_prop
      simp only [pu_gN (pu_c1 hX), pu_f1_5 hX, Option.bind_some, pu_gN (pu_c18 hX), pu_f18_0 hX, pu_on (pu_c19 hX), pu_s_standsA (pu_st19 hX) H.v H.wf, pu_b0, hu, ↓reduceIte]
    · unfold fb_m_prop
      simp only [pu_on (pu_m70 hM), pu_m_isStandingA hM H.q H.wf, Option.bind_some, pu_b0, hu, ↓reduceIte]
  · cases hw : pu_wi b 1 9
    · refine pu_none hinv (a := -1) ?_ ?_
      · unfold fb_x_prop
        simp only [pu_gN (pu_c1 hX), pu_f1_5 hX, Option.bind_some, pu_gN (pu_c18 hX), pu_f18_0 hX, pu_on (pu_c19 hX), pu_s_standsA (pu_st19 hX) H.v H.wf, pu_b0, hu, Bool.true_eq_false, ↓reduceIte, pu_x_within, hw]
      · unfold fb_m_prop
        simp only [pu_on (pu_m70 hM), pu_m_isStandingA hM H.q H.wf, Option.bind_some, pu_b0, hu, Bool.true_eq_false, ↓reduceIte, pu_m_in b 1 9 (show (1 : Int64) = (1 : Int32).toInt64 from rfl) (show (9 : Int64) = (9 : Int32).toInt64 from rfl), hw]
    · obtain ⟨l, hl, rfl, hul⟩ := pu_hs_n H.wf hu
      obtain ⟨m, hm, rfl⟩ := pu_wi19 hw
      obtain ⟨s', Ik, Jk, R', own', a1, hX', hM', vk, h0', ro, hx, hb⟩ := pu_keep2 (J := J) H h0
      have hp5 : A.1 2 l ≤ 60 := (H.bd.1 l).2.1
      have ev : pu_V (tb_up2 Ik 21 l (nI (min 60 (A.1 2 l + m)))) 19 (pu_n A 2 l (min 60 (A.1 2 l + m))) := pu_V_n2 (p := 19) vk
      have go := pu_n_go (r := 2) (k := l) (m := min 60 (A.1 2 l + m)) H.2.1.1.1 (Or.inl rfl) (Nat.min_le_left _ _)
      obtain ⟨Im, ⟨q1, i10⟩, e1, e2, e3, e4⟩ := hb (tb_up2 Ik 21 l (nI (min 60 (A.1 2 l + m)))) Jk (fun q h1 _ => pu_u2p _ _ _ _ (by omega))
      have qm := pu_Q_n2 e2 H.wf (show l < 10 by omega) (min 60 (A.1 2 l + m))
      obtain ⟨hin, hi0⟩ := e4 _ (tb_up2 Im 80 (22 + l) (nI (min 60 (A.1 2 l + m)))) ev qm (fun q _ h2 => pu_u2p _ _ _ _ h2) (fun k _ => by rw [pu_u2p _ _ _ _ (by decide)]) (fun k hk => pu_u2k _ _ _ _ (by omega)) go rfl rfl
      refine ⟨nI (min 60 (A.1 2 l + m)), (s', tb_up2 Ik 21 l (nI (min 60 (A.1 2 l + m))), Jk, R'), (s', tb_up2 Im 80 (22 + l) (nI (min 60 (A.1 2 l + m))), Jk, R'), ?_, ?_, ⟨h0', i10.trans hxs, pu_m70 hM'⟩, h0', hi0.trans hxs, own', _, _, _, _, _, _, _, hin⟩
      · have p2 := pu_s_footOf (J := Jk) (pu_st19 hX') ev go.1 (k := l) hl
        rw [show (pu_n A 2 l (min 60 (A.1 2 l + m))).1 2 l = min 60 (A.1 2 l + m) from pu_u2s A.1 2 l _] at p2
        unfold fb_x_prop
        simp only [pu_gN (pu_c1 hX), pu_f1_5 hX, pu_f1_7 hX, Option.bind_some, pu_gN (pu_c18 hX), pu_f18_0 hX, pu_on (pu_c19 hX), pu_s_standsA (pu_st19 hX) H.v H.wf, hu, hw, pu_b0, pu_x_within, Bool.true_eq_false, ↓reduceIte, pu_on (pu_c38 hX), a1, pu_gN (pu_c1 hX'), pu_f1_5 hX', pu_gN (pu_c18 hX'), pu_f18_0 hX', pu_on (pu_c19 hX'), pu_s_footOf (pu_st19 hX') vk H.wf hl, nI_add, pu_min60 (A.1 2 l + m) (by omega), pu_s_setFoot (pu_st19 hX') vk H.wf hl]
        rw [show (19 + 2 : Nat) = 21 from rfl]
        simp only [p2, Option.bind_some]
      · have ec : Im 80 (22 + l) = nI (A.1 2 l) := (e2.2.1 l (by omega)).2
        unfold fb_m_prop
        simp only [pu_on (pu_m70 hM'), pu_m_isStandingA hM' q1 H.wf, Option.bind_some, pu_b0, hu, Bool.true_eq_false, ↓reduceIte, pu_m_in _ 1 9 (show (1 : Int64) = (1 : Int32).toInt64 from rfl) (show (9 : Int64) = (9 : Int32).toInt64 from rfl), hw, e1, pu_gN (pu_m70 hM'), pu_r20 hM', pu_cell' hM' (pu_L22 l) (show 22 + l < 149 by omega), ec, nI_add, show (60 : Int32) = nI 60 from rfl, pu_ltI (show 60 < 2147483648 by omega) (show A.1 2 l + m < 2147483648 by omega), fj_m_prop_j34, pu_put' hM' (pu_L22 l) (show 22 + l < 149 by omega), pu_u2s]
        by_cases h60 : 60 < A.1 2 l + m
        · rw [if_pos h60, show nI 60 = nI (min 60 (A.1 2 l + m)) by rw [Nat.min_eq_left (by omega)]]
        · rw [if_neg h60, show nI (A.1 2 l + m) = nI (min 60 (A.1 2 l + m)) by rw [Nat.min_eq_right (by omega)]]
theorem pu_k_undo : pu_Step N xs (fb_x_undo 1) (fb_m_undo 70) := by
  rintro ⟨s, I, J, R⟩ ⟨h0, hxs, own, A, T, nn, L, j, tl, rs, H⟩
  have hinv : pu_INV N xs (s, I, J, R) := ⟨h0, hxs, own, A, T, nn, L, j, tl, rs, H⟩
  have H : pu_In s I R own A T nn L j tl rs := H
  have h0 : s[0]? = some (9, N) := h0
  have hxs : I 0 = xs := hxs
  have hX := H.hX
  have hM := H.hM
  obtain ⟨G, hu1, hu2⟩ := H.2.2.1
  cases L with
  | nil => exact pu_none hinv (a := -1) (pu_x_undo0 hX G) (pu_m_undo0 hM hu1)
  | cons B L =>
    have hB : pu_Go B ∧ B.1 0 0 = A.1 0 0 ∧ B.1 0 1 = A.1 0 1 := hu2.1.2.2
    have hlen : L.length < 20 := by have := G.1.2.2.2; rw [List.length_cons] at this; omega
    obtain ⟨I1, a1, a2, a3, a4⟩ := pu_x_undo (J := J) hX G hB.1.1
    have w : ∀ q, q < 92 → q ≠ 38 → q ≠ 40 → (q < 19 ∨ 26 ≤ q) → I1 q = I q := fun q _ h2 _ h4 => a4 q h2 h4
    obtain ⟨I2, b1, b2, b3, b4, b5, b6⟩ := pu_m_undo (J := J) (I := I1) (P := pu_PP A) (A := A) hM (by rw [a4 80 (by omega) (by omega)]; exact H.q) (by rw [a4 70 (by omega) (by omega)]; exact hu1) hlen (by rw [a4 81 (by omega) (by omega)]; exact hu2) hB.2.1 hB.2.2
    refine ⟨nI L.length, (s, I1, J, R), (s, I2, J, R), a1, b1, ⟨h0, (a4 0 (by omega) (by omega)).trans hxs, pu_m70 hM⟩, h0, ?_, own, B, T, nn, L, (j + 19) % 20, tl, rs, H.act (P := fun _ => True) (fun _ _ => trivial) (pu_Kp.lo (fun q hq => a4 q (by omega) (by omega))) a3 w (fun _ _ _ => rfl) H.1.2.2 a2 (fun q h1 h2 _ => b4 q h1 h2) (fun k _ h2 => b5 k h2) b6 b2 b3 (by show pu_UM (pu_PP A) (I2 81) L; rw [b4 81 (by omega) (by omega), a4 81 (by omega) (by omega)]; exact hu2.2) hB.1 hB.2.1 hB.2.2⟩
    show I2 0 = xs
    rw [b4 0 (by omega) (by omega), a4 0 (by omega) (by omega)]
    exact hxs
theorem pu_k_hang (a b c : Int32) : pu_Step N xs (fb_x_hang 1 a b c) (fb_m_hang 70 a b c) := by
  rintro ⟨s, I, J, R⟩ ⟨h0, hxs, own, A, T, nn, L, j, tl, rs, H⟩
  have hinv : pu_INV N xs (s, I, J, R) := ⟨h0, hxs, own, A, T, nn, L, j, tl, rs, H⟩
  have H : pu_In s I R own A T nn L j tl rs := H
  have h0 : s[0]? = some (9, N) := h0
  have hxs : I 0 = xs := hxs
  have hX := H.hX
  have hM := H.hM
  have h5 := H.wf.1
  -- whether it can be, on both sides
  have key : (fb_s_canJoin 19 a b (s, I, J, R) = some (0, (s, I, J, R)) ∧ fb_m_canHang 70 a b (s, I, J, R) = some (0, (s, I, J, R))) ∨ (∃ o e, a = nI o ∧ b = nI e ∧ o < A.1 0 0 ∧ A.1 0 0 ≤ e ∧ A.2 1 o = true ∧ A.2 1 e = true) := by
    by_cases ha : a < 0
    · left
      refine ⟨?_, ?_⟩
      · unfold fb_s_canJoin
        simp only [pu_gI (pu_c19 hX), H.v.1.1, Option.bind_some, pu_on (pu_c19 hX), pu_s_stands_neg (pu_st19 hX) ha, ↓reduceIte, ite_self]
      · unfold fb_m_canHang
        simp only [pu_on (pu_m70 hM), pu_m_isStandingA hM H.q H.wf, show pu_hs A a = false by unfold pu_hs; rw [decide_eq_true ha]; rfl, pu_bf, Option.bind_some, ↓reduceIte]
    · obtain ⟨o, ho, rfl⟩ := nI_of ha
      by_cases hb : b < 0
      · left
        refine ⟨?_, ?_⟩
        · have hlt : b < nI (A.1 0 0) := Int32.lt_of_lt_of_le hb (nI_pos' (by omega))
          unfold fb_s_canJoin
          simp only [pu_gI (pu_c19 hX), H.v.1.1, Option.bind_some, hlt, ↓reduceIte, ite_self]
        · unfold fb_m_canHang
          simp only [pu_on (pu_m70 hM), pu_m_isStandingA hM H.q H.wf, show pu_hs A b = false by unfold pu_hs; rw [decide_eq_true hb]; rfl, pu_bf, Option.bind_some, ↓reduceIte, ite_self]
      · obtain ⟨e, he, rfl⟩ := nI_of hb
        have c1 := pu_s_canJoin (J := J) (pu_st19 hX) H.v H.wf (show o < 2147483648 by omega) (show e < 2147483648 by omega)
        have c2 := pu_m_canHang (J := J) hM H.q H.wf (show o < 2147483648 by omega) (show e < 2147483648 by omega)
        unfold pu_can at c2
        cases hc : (decide (o < A.1 0 0) && decide (A.1 0 0 ≤ e) && A.2 1 o && A.2 1 e)
        · rw [hc] at c1 c2
          exact Or.inl ⟨c1, c2⟩
        · rw [Bool.and_eq_true, Bool.and_eq_true, Bool.and_eq_true, decide_eq_true_eq, decide_eq_true_eq] at hc
          exact Or.inr ⟨o, e, rfl, rfl, hc.1.1.1, hc.1.1.2, hc.1.2, hc.2⟩
  have lnu := pu_s_leastNotUp (J := J) (pu_st19 hX) H.v
  rcases key with ⟨k1, k2⟩ | ⟨o, e, rfl, rfl, ho, he, so, se⟩
  · refine pu_none hinv (a := -1) ?_ ?_
    · unfold fb_x_hang
      simp only [pu_gN (pu_c1 hX), pu_f1_5 hX, Option.bind_some, pu_gN (pu_c18 hX), pu_f18_0 hX, pu_on (pu_c19 hX), lnu, k1, ↓reduceIte]
    · unfold fb_m_hang
      simp only [pu_on (pu_m70 hM), k2, Option.bind_some, ↓reduceIte]
  · have he2 : e < 2 * A.1 0 0 := H.wf.2.2.2.2.2.2.2 e se
    have c1 := pu_s_canJoin (J := J) (pu_st19 hX) H.v H.wf (show o < 2147483648 by omega) (show e < 2147483648 by omega)
    rw [decide_eq_true ho, decide_eq_true he, so, se] at c1
    have c2 : ∀ (s0 : List (Nat × Nat)) (R0 : Nat → Nat → Option Nat) (I0 : Nat → Nat → Int32) (J0 : Nat → Nat → Int64), pu_M s0 R0 → pu_Q (I0 80) A → fb_m_canHang 70 (nI o) (nI e) (s0, I0, J0, R0) = some (pu_b (decide (pu_lnu A < 8)), (s0, I0, J0, R0)) := fun s0 R0 I0 J0 m0 q0 => by
      rw [pu_m_canHang m0 q0 H.wf (show o < 2147483648 by omega) (show e < 2147483648 by omega)]
      unfold pu_can
      rw [decide_eq_true ho, decide_eq_true he, so, se]
      rfl
    by_cases hl : pu_lnu A < 8
    · cases hw : pu_wi c 1 40
      · refine pu_none hinv (a := -1) ?_ ?_
        · unfold fb_x_hang
          simp only [pu_gN (pu_c1 hX), pu_f1_5 hX, Option.bind_some, pu_gN (pu_c18 hX), pu_f18_0 hX, pu_on (pu_c19 hX), lnu, c1, Bool.and_self, pu_bt, show ¬ ((1 : Int32) = 0) by decide, ↓reduceIte, pu_x_within, hw, pu_bf]
        · unfold fb_m_hang
          simp only [pu_on (pu_m70 hM), c2 s R I J hM H.q, hl, decide_true, pu_bt, Option.bind_some, show ¬ ((1 : Int32) = 0) by decide, ↓reduceIte, pu_m_in c 1 40 (show (1 : Int64) = (1 : Int32).toInt64 from rfl) (show (40 : Int64) = (40 : Int32).toInt64 from rfl), hw, pu_bf]
      · obtain ⟨m, hm, rfl, _⟩ := pu_wi_n (h := 40) hw (by decide) rfl (by decide)
        have hll : pu_lnu A ≤ A.1 0 3 := by
          rcases Nat.lt_or_ge (A.1 0 3) (pu_lnu A) with h | h
          · exfalso
            have hf := pu_ff_no (fun l => !A.2 0 l) 8 0 (A.1 0 3) (Nat.zero_le _) h
            have : A.2 0 (A.1 0 3) = true := by
              cases hq : A.2 0 (A.1 0 3)
              · rw [hq] at hf; cases hf
              · rfl
            have := H.wf.2.2.2.2.2.2.1 _ this
            omega
          · exact h
        obtain ⟨s', Ik, Jk, R', own', a1, hX', hM', vk, h0', ro, hx, hb⟩ := pu_keep2 (J := J) H h0
        have go := pu_put_go (m := m) H.2.1.1.1 hll hl ho he so se (by omega)
        obtain ⟨I1, d1, d2, d3⟩ := pu_s_putUp (J := Jk) (o := o) (e := e) (m := m) (pu_st19 hX') vk H.wf hll hl
        obtain ⟨Im, ⟨q1, i10⟩, e1, e2, e3, e4⟩ := hb I1 Jk (fun q h1 _ => d3 q (by omega))
        obtain ⟨I2, f1, f2, f3⟩ := pu_m_hangs (J := Jk) hM' e2 H.wf hl o e m
        obtain ⟨hin, hi0⟩ := e4 _ I2 d2 f2 (fun q _ h2 => f3.1 q h2) (fun k _ => by rw [f3.1 70 (by decide)]) f3.2 go rfl rfl
        have hne : ¬ nI (pu_lnu A) = -1 := by
          intro h
          have h9 := pu_lt0 (show pu_lnu A < 2147483648 by omega)
          rw [h] at h9
          exact h9 (by decide)
        refine ⟨nI (pu_lnu A), (s', I1, Jk, R'), (s', I2, Jk, R'), ?_, ?_, ⟨h0', i10.trans hxs, pu_m70 hM'⟩, h0', hi0.trans hxs, own', _, _, _, _, _, _, _, hin⟩
        · unfold fb_x_hang
          simp only [pu_gN (pu_c1 hX), pu_f1_5 hX, pu_f1_7 hX, Option.bind_some, pu_gN (pu_c18 hX), pu_f18_0 hX, pu_on (pu_c19 hX), lnu, hl, hne, c1, Bool.and_self, pu_bt, show ¬ ((1 : Int32) = 0) by decide, ↓reduceIte, pu_x_within, hw, pu_on (pu_c38 hX), a1, pu_on (pu_c19 hX'), d1]
        · unfold fb_m_hang
          simp only [pu_on (pu_m70 hM'), c2 s' R' I1 Jk hM' q1, hl, decide_true, pu_bt, Option.bind_some, show ¬ ((1 : Int32) = 0) by decide, ↓reduceIte, pu_m_in _ 1 40 (show (1 : Int64) = (1 : Int32).toInt64 from rfl) (show (40 : Int64) = (40 : Int32).toInt64 from rfl), hw, e1, f1]
    · refine pu_none hinv (a := -1) ?_ ?_
      · unfold fb_x_hang
        simp only [pu_gN (pu_c1 hX), pu_f1_5 hX, Option.bind_some, pu_gN (pu_c18 hX), pu_f18_0 hX, pu_on (pu_c19 hX), lnu, hl, c1, Bool.and_self, pu_bt, show ¬ ((1 : Int32) = 0) by decide, ↓reduceIte, pu_x_within]
        cases pu_wi c 1 40 <;> simp only [pu_bf, pu_bt, show ¬ ((1 : Int32) = 0) by decide, ↓reduceIte]
      · unfold fb_m_hang
        simp only [pu_on (pu_m70 hM), c2 s R I J hM H.q, hl, decide_false, pu_bf, Option.bind_some, ↓reduceIte]
end PUG1
