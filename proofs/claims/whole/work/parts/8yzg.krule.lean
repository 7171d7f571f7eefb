/-! ===== rule() as a step ===== -/
theorem pz_RM_lo {f f' g g' : Nat → Int32} {r : Nat} (hf : ∀ k, k < 400 * (r + 1) → f' k = f k) (hg : ∀ k, k < 48 * (r + 1) → g' k = g k) : ∀ (ru : pu_Ru) (i : Nat), i + ru.length ≤ 12 → pu_RM f g r i ru → pu_RM f' g' r i ru := by
  intro ru
  induction ru with
  | nil => intro i _ _; trivial
  | cons q ru ih =>
    obtain ⟨sm, t⟩ := q
    intro i hl h
    rw [List.length_cons] at hl
    match t, h with
    | none, h =>
      obtain ⟨⟨b, h0, h1, h2, h3, h4⟩, h5⟩ := h
      exact ⟨⟨b, h0, by rw [hg _ (by omega)]; exact h1, by rw [hg _ (by omega)]; exact h2, by rw [hg _ (by omega)]; exact h3, pu_cd_eq _ _ (fun k _ k2 => hf k (by omega)) h4⟩, ih _ (by omega) h5⟩
    | some t, h =>
      obtain ⟨⟨b, d, h0, h0', h1, h2, h3, h4, h5, h6⟩, h7⟩ := h
      exact ⟨⟨b, d, h0, h0', by rw [hg _ (by omega)]; exact h1, by rw [hg _ (by omega)]; exact h2, by rw [hg _ (by omega)]; exact h3, by rw [hg _ (by omega)]; exact h4, pu_cd_eq _ _ (fun k _ k2 => hf k (by omega)) h5, pu_cd_eq _ _ (fun k _ k2 => hf k (by omega)) h6⟩, ih _ (by omega) h7⟩
/-- rules that were told stay -/
theorem pz_RU_old {s s' : List (Nat × Nat)} {I I' : Nat → Nat → Int32} {R R' : Nat → Nat → Option Nat} {own own' : Nat → Nat} {rs : List pu_Ru} (h : pu_RU s I R own rs) (kp : pu_Kp (fun _ => True) s s' I I' R R' own own') (e0 : ∀ z, z < rs.length → R' 17 z = R 17 z) (e3 : ∀ k, k < 400 * rs.length → I' 72 k = I 72 k) (e4 : ∀ k, k < 48 * rs.length → I' 74 k = I 74 k) (e5 : ∀ k, k < rs.length → I' 75 k = I 75 k) : ∀ r ru, rs[r]? = some ru → ∃ c0, R' 17 r = some c0 ∧ own' c0 = 200 + r ∧ pu_FC s' I' (some c0) (some ru) ∧ ru.length ≤ 12 ∧ I' 75 r = nI ru.length ∧ pu_RM (I' 72) (I' 74) r 0 ru := by
  intro r ru hr
  have hlt : r < rs.length := by
    rcases Nat.lt_or_ge r rs.length with x | x
    · exact x
    · rw [List.getElem?_eq_none x] at hr; cases hr
  obtain ⟨c0, a1, a2, ⟨b1, b2, b3, b4, b5⟩, a4, a5, a6⟩ := h.2 r ru hr
  obtain ⟨k1, k2⟩ := kp.2 c0 b1 (pu_slt b2)
  obtain ⟨k3, _⟩ := k2 trivial
  exact ⟨c0, by rw [e0 r hlt]; exact a1, by rw [k1]; exact a2, ⟨b1, kp.1 _ _ b2, b3, by rw [k3]; exact b4, b5⟩, a4, by rw [e5 r hlt]; exact a5, pz_RM_lo (fun k hk => e3 k (by omega)) (fun k hk => e4 k (by omega)) ru 0 (by omega) a6⟩
theorem pz_ir_up {rc : Nat} {a : Int32} (hrc : rc < 6) (h : pu_ir rc a = true) : pu_ir (rc + 1) a = true := by
  unfold pu_ir at h ⊢
  rw [Bool.or_eq_true, Bool.and_eq_true, decide_eq_true_eq, decide_eq_true_eq] at h ⊢
  rcases h with h | ⟨h1, h2⟩
  · exact Or.inl h
  · refine Or.inr ⟨h1, ?_⟩
    have h3 : (nI rc < nI (rc + 1)) := by rw [pu_ltI (by omega) (by omega)]; omega
    exact Int32.lt_trans h2 h3
section PVG1
variable {N : Nat} {xs : Nat → Int32}
theorem pu_k_rule : pu_Step N xs (fb_x_rule 1) (fb_m_rule 70) := by
  rintro ⟨s, I, J, R⟩ ⟨h0, hxs, own, A, T, nn, L, j, tl, rs, H⟩
  have H : pu_In s I R own A T nn L j tl rs := H
  have h0 : s[0]? = some (9, N) := h0
  have hxs : I 0 = xs := hxs
  have hX := H.hX
  have hM := H.hM
  have hU := H.2.2.2.2.1
  obtain ⟨r6, i14, i702⟩ := hU.1
  by_cases full : rs.length = 6
  · rw [full] at i14 i702
    have x1 := pz_x_full (J := J) hX i14
    refine ⟨-1, (s, I, J, R), (s, I, J, R), x1, ?_, ⟨h0, hxs, pu_m70 hM⟩, h0, hxs, own, A, T, nn, L, j, tl, rs, H⟩
    have e6 : nI 6 = (6 : Int32) := rfl
    unfold fb_m_rule
    rw [pu_gI (pu_m70 hM), i702, Option.bind_some, if_pos e6]
  have hrc : rs.length < 6 := by omega
  have l92 := hM.len
  obtain ⟨b, tb, mb⟩ := H.tp.by
  obtain ⟨ru, m, r, f, hr⟩ : ∃ ru m r f, pz_rr 13 0 ([], 0, pu_tt b tl 0, 0) = (ru, m, r, f) := ⟨_, _, _, _, rfl⟩
  have hfin : pu_fin r f < 10000 := by
    obtain ⟨_, _, a2, _⟩ := pz_read (J := J) hX tb hr
    exact a2
  by_cases hz : pu_fin r f = 0
  · obtain ⟨I1, J1, R1, a1, a2, a3, a4, a5, a6, a7, a8, a9, a10, a11, a12⟩ := pz_x_good (J := J) hX tb i14 hrc hr hz
    have a9 : pu_RC (I1 s.length) 0 ru := a9
    have a10 : pu_ok ru := a10
    have a11 : pu_rl ru < 399 := a11
    have a12 : ru.length ≤ 12 := a12
    have a1 : fb_x_rule 1 (s, I, J, R) = some (nI rs.length, (s ++ [(1, pu_rl ru)], I1, J1, R1)) := a1
    have ks : ∀ (k : Nat) (q : Nat × Nat), s[k]? = some q → (s ++ [(1, pu_rl ru)])[k]? = some q := fun k q h => by rw [List.getElem?_append_left (pu_slt h)]; exact h
    have cn : (s ++ [(1, pu_rl ru)])[s.length]? = some (1, pu_rl ru) := by rw [List.getElem?_append_right (Nat.le_refl _), Nat.sub_self]; rfl
    have hM1 : pu_M (s ++ [(1, pu_rl ru)]) R1 := hM.gr ks (a7 70 (by omega) (by omega))
    have hX1 : pu_X (s ++ [(1, pu_rl ru)]) R1 := hX.gr ks (fun q q1 _ _ q4 => a7 q (by omega) q4)
    have i70 : I1 70 = I 70 := a5 70 (by omega) (by omega) (by omega) (by omega) (by omega) (by omega)
    have i71 : I1 71 = I 71 := a5 71 (by omega) (by omega) (by omega) (by omega) (by omega) (by omega)
    have mb1 : pu_MB I1 b tl := ⟨by rw [i70]; exact mb.1, mb.2.1, fun k hk => by rw [i71]; exact mb.2.2 k hk⟩
    obtain ⟨I2, c1, c2, c3, c4, c5, c6, c7, c8, c9⟩ := pz_m_rule (J := J1) hM1 mb1 (by rw [i70]; exact i702) hrc hr hfin
    rw [if_pos hz] at c1 c4
    obtain ⟨d1, d2, d3⟩ := c3 hz
    have e2 : ∀ q, q < s.length → (q = 0 ∨ q = 3 ∨ (18 ≤ q ∧ q < 70) ∨ 78 ≤ q) → I2 q = I q := fun q q0 hq => by rw [c5 q (by omega) (by omega) (by omega) (by omega) (by omega) (by omega), a5 q q0 (by omega) (by omega) (by omega) (by omega) (by omega)]
    have g70 : ∀ k, 17 ≤ k → I2 70 k = I 70 k := fun k hk => by rw [c6 k hk, i70]
    have e18 : I2 18 = I 18 := e2 18 (by omega) (by omega)
    obtain ⟨own', ho⟩ : ∃ own' : Nat → Nat, ∀ k, own' k = if k = s.length then 200 + rs.length else own k := ⟨fun k => if k = s.length then 200 + rs.length else own k, fun _ => rfl⟩
    have kp : pu_Kp (fun _ => True) s (s ++ [(1, pu_rl ru)]) I I2 R R1 own own' := ⟨ks, fun k k1 k2 => ⟨by rw [ho, if_neg (by omega)], fun _ => ⟨e2 k k2 (by omega), a7 k k2 (by omega)⟩⟩⟩
    refine ⟨_, _, _, a1, c1, ⟨ks _ _ h0, by show I1 0 = xs; rw [a5 0 (by omega) (by omega) (by omega) (by omega) (by omega) (by omega)]; exact hxs, pu_m70 hM1⟩, ks _ _ h0, by show I2 0 = xs; rw [e2 0 (by omega) (by omega)]; exact hxs, ?_⟩
    show ∃ own A T nn L j tl rs, pu_In (s ++ [(1, pu_rl ru)]) I2 R1 own A T nn L j tl rs
    have old := pz_RU_old hU kp (fun z hz => by rw [a8 z, if_neg (by omega)]) (fun k hk => by rw [c7 k hk, a5 72 (by omega) (by omega) (by omega) (by omega) (by omega) (by omega)]) (fun k hk => by rw [c8 k hk, a5 74 (by omega) (by omega) (by omega) (by omega) (by omega) (by omega)]) (fun k hk => by rw [c9 k (by omega), a5 75 (by omega) (by omega) (by omega) (by omega) (by omega) (by omega)])
    obtain ⟨⟨_, _, ro⟩, sc, ⟨G, h4, h5⟩, _, _, ⟨⟨h8, h9⟩, ⟨h10, h11⟩⟩, h12⟩ := H
    have lr : (rs ++ [ru]).length = rs.length + 1 := by rw [List.length_append]; rfl
    refine ⟨own', A, T, nn, L, j, 0, rs ++ [ru], ⟨hX1, hM1, ?_⟩, pu_Sc_eq (fun i _ _ _ _ => e2 _ (by omega) (by omega)) (e2 80 (by omega) (by omega)) sc, ⟨G.kp kp (fun _ _ => trivial) (by rw [e2 38 (by omega) (by omega)]) (by rw [e2 38 (by omega) (by omega)]) (a7 39 (by omega) (by omega)), by rw [g70 24 (by omega)]; exact h4, by rw [e2 81 (by omega) (by omega)]; exact h5⟩, ⟨?_, by rw [c2]; rfl, by omega, fun k hk => absurd hk (Nat.not_lt_zero _)⟩, ⟨⟨by omega, ?_, ?_⟩, ?_⟩, ⟨⟨by rw [e18, g70 21 (by omega)]; exact h8, by rw [e18, lr]; exact pz_ir_up hrc h9⟩, ⟨by rw [e18, g70 22 (by omega)]; exact h10, by rw [e18]; exact h11⟩⟩, fun k hk => ?_⟩
    · rw [lr]
      unfold pu_RO at ro ⊢
      have q39 : R1 39 = R 39 := a7 39 (by omega) (by omega)
      have q37 : R1 37 = R 37 := a7 37 (by omega) (by omega)
      have hl : (s ++ [(1, pu_rl ru)]).length = s.length + 1 := by rw [List.length_append]; rfl
      have hm : ((s ++ [(1, pu_rl ru)]).map Prod.snd).sum = (s.map Prod.snd).sum + pu_rl ru := by rw [List.map_append, List.sum_append]; rfl
      rw [q39, q37, hl, hm]
      omega
    · rw [c5 2 (by omega) (by omega) (by omega) (by omega) (by omega) (by omega), a2]; rfl
    · rw [c5 1 (by omega) (by omega) (by omega) (by omega) (by omega) (by omega), a3, lr]
    · rw [c4, lr]
    · intro q ru' hq
      by_cases x : q < rs.length
      · rw [List.getElem?_append_left x] at hq
        exact old q ru' hq
      · rw [List.getElem?_append_right (by omega)] at hq
        have q0 : q = rs.length := by
          rcases Nat.lt_or_ge (q - rs.length) 1 with y | y
          · omega
          · rw [List.getElem?_eq_none (by show 1 ≤ q - rs.length; exact y)] at hq; cases hq
        subst q0
        rw [Nat.sub_self] at hq
        have hq : some ru = some ru' := hq
        cases hq
        exact ⟨s.length, by rw [a8, if_pos rfl], by rw [ho, if_pos rfl], ⟨l92, cn, by omega, by rw [c5 s.length (by omega) (by omega) (by omega) (by omega) (by omega) (by omega)]; exact a9, a10⟩, a12, d2, pz_RN_RM ru 0 0 (by omega) d1⟩
    · have im := (h12 k hk).kp kp trivial (by rw [a7 37 (by omega) (by omega)]) (fun i _ => by rw [e2 88 (by omega) (by omega)]) (by rw [e2 89 (by omega) (by omega)]) (by rw [e2 90 (by omega) (by omega)]) (by rw [e2 91 (by omega) (by omega)])
      rw [lr]
      rcases im with x | ⟨p, A, T, nn, q1, q2, ⟨q3, q4⟩, q5⟩
      · exact Or.inl x
      · exact Or.inr ⟨p, A, T, nn, q1, q2, ⟨q3, pz_ir_up hrc q4⟩, q5⟩
  · obtain ⟨I1, a1, a2, a3⟩ := pz_x_bad (J := J) hX tb i14 hrc hr hz
    have e1 : ∀ q, q < 2 ∨ q = 3 ∨ 17 ≤ q → I1 q = I q := fun q hq => a3 q (by omega) (by omega) (by omega) (by omega)
    have i70 : I1 70 = I 70 := e1 70 (by omega)
    have mb1 : pu_MB I1 b tl := ⟨by rw [i70]; exact mb.1, mb.2.1, fun k hk => by rw [e1 71 (by omega)]; exact mb.2.2 k hk⟩
    obtain ⟨I2, c1, c2, c3, c4, c5, c6, c7, c8, c9⟩ := pz_m_rule (J := J) hM mb1 (by rw [i70]; exact i702) hrc hr hfin
    rw [if_neg hz] at c1 c4
    have e2 : ∀ q, (q < 2 ∨ q = 3 ∨ (17 ≤ q ∧ q < 70) ∨ 78 ≤ q) → I2 q = I q := fun q hq => by rw [c5 q (by omega) (by omega) (by omega) (by omega) (by omega) (by omega), e1 q (by omega)]
    have g70 : ∀ k, 17 ≤ k → I2 70 k = I 70 k := fun k hk => by rw [c6 k hk, i70]
    refine ⟨_, _, _, a1, c1, ⟨h0, by show I1 0 = xs; rw [e1 0 (by omega)]; exact hxs, pu_m70 hM⟩, h0, by show I2 0 = xs; rw [e2 0 (by omega)]; exact hxs, ?_⟩
    show ∃ own A T nn L j tl rs, pu_In s I2 R own A T nn L j tl rs
    have kp : pu_Kp (fun _ => True) s s I I2 R R own own := pu_Kp.lo (fun q hq => e2 q (by omega))
    have old := pz_RU_old hU kp (fun z _ => rfl) (fun k hk => by rw [c7 k hk, e1 72 (by omega)]) (fun k hk => by rw [c8 k hk, e1 74 (by omega)]) (fun k hk => by rw [c9 k (by omega), e1 75 (by omega)])
    exact ⟨own, A, T, nn, L, j, 0, rs, H.rd (fun q h1 h2 => e2 q (by omega)) (g70 21 (by omega)) (g70 22 (by omega)) (g70 24 (by omega)) ⟨by rw [c5 2 (by omega) (by omega) (by omega) (by omega) (by omega) (by omega), a2]; rfl, by rw [c2]; rfl, by omega, fun k hk => absurd hk (Nat.not_lt_zero _)⟩ ⟨⟨r6, by rw [e2 1 (by omega)]; exact i14, c4⟩, old⟩⟩
end PVG1
