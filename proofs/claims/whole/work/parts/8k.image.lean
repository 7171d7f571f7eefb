/-! ===== image and back as steps ===== -/
theorem pu_Sc_f {I : Nat → Nat → Int32} {p : Nat} {f f' : Nat → Int32} {A T : pu_A} {nn : Nat} (e : ∀ i, i < 149 → f' i = f i) (h : pu_Sc I p f A T nn) : pu_Sc I p f' A T nn := by
  obtain ⟨g, v, ⟨q, tm⟩, ng⟩ := h
  exact ⟨g, v, ⟨pu_Q_of (by rw [e 0 (by omega)]; exact q.1.1) (by rw [e 1 (by omega)]; exact q.1.2.1) (by rw [e 2 (by omega)]; exact q.1.2.2.1) (pu_Qs_eq g.1.1 (fun k _ hk => e k (by omega)) (pu_Q_s q)), pu_TM_eq g.2.1.1 (fun k hk => e k (by omega)) tm⟩, pu_Ng_eq (fun _ _ => rfl) (fun i _ hi => e i hi) rfl ng⟩
theorem pu_sr18 {s : List (Nat × Nat)} {R : Nat → Nat → Option Nat} (h : pu_X s R) : pu_SR s R 18 := ⟨⟨pu_c18 h, pu_f18_0 h, pu_f18_1 h, pu_f18_2 h⟩, ⟨pu_st19 h, pu_st26 h⟩, ⟨pu_c33 h, pu_c34 h, pu_c35 h, pu_c36 h⟩, ⟨pu_f33_1 h, pu_f33_2 h, pu_f33_3 h⟩⟩
theorem pu_RO.img {s s' : List (Nat × Nat)} {R R' : Nat → Nat → Option Nat} {rc k : Nat} (h : pu_RO s R rc) (hk : k < 4) (e39 : R' 39 = R 39) (e37 : ∀ z, z ≠ k → R' 37 z = R 37 z) (hs : (s' = s ∧ R' 37 k = R 37 k) ∨ (s' = s ++ pu_ScS ∧ R 37 k = none ∧ R' 37 k ≠ none)) : pu_RO s' R' rc := by
  unfold pu_RO at h ⊢
  rw [e39]
  rcases hs with ⟨h1, h2⟩ | ⟨h1, h2, h3⟩
  · have : R' 37 = R 37 := by
      funext z
      by_cases hz : z = k
      · rw [hz]; exact h2
      · exact e37 z hz
    rw [this, h1]; exact h
  · have hc := pu_ct_dec (f := fun k => (R 37 k).isNone) (g := fun k => (R' 37 k).isNone) 4 hk (fun z hz => by rw [e37 z hz]) (by rw [h2]; rfl) (by
      cases e : R' 37 k with
      | none => exact absurd e h3
      | some p => rfl)
    rw [← hc] at h
    have hl : s'.length = s.length + 19 := by rw [h1]; exact List.length_append
    have hm : (s'.map Prod.snd).sum = (s.map Prod.snd).sum + 171 := by rw [h1, List.map_append, List.sum_append]; rfl
    rw [hl, hm]
    omega
section PUK1
variable {s s' : List (Nat × Nat)} {I I2 : Nat → Nat → Int32} {R R' : Nat → Nat → Option Nat} {own own' : Nat → Nat} {A A' T T' : pu_A} {nn nn' : Nat} {L : List pu_A} {j tl tl' : Nat} {rs : List pu_Ru}
theorem pu_In.img (H : pu_In s I R own A T nn L j tl rs) {k : Nat} (hk4 : k < 4) (kp : pu_Kp (fun x => x ≠ 100 + k) s s' I I2 R R' own own') (w : ∀ q, q < 88 → q ≠ 25 → I2 q = I q) (wr : ∀ q, q < 92 → q ≠ 37 → R' q = R q) (wr2 : ∀ z, z ≠ k → R' 37 z = R 37 z) (w88 : ∀ z i, z ≠ k → i < 149 → I2 88 (149 * z + i) = I 88 (149 * z + i)) (w89 : ∀ z, z ≠ k → I2 89 z = I 89 z) (w90 : ∀ z, z ≠ k → I2 90 z = I 90 z) (w91 : ∀ z, z ≠ k → I2 91 z = I 91 z) (im : pu_IM1 s' I2 R' own' rs.length k) (ro : pu_RO s' R' rs.length) : pu_In s' I2 R' own' A T nn L j tl rs := by
  obtain ⟨⟨hX, hM, _⟩, sc, ⟨G, h4, h5⟩, h6, h7, ⟨⟨h8, h9⟩, ⟨h10, h11⟩⟩, h12⟩ := H
  refine ⟨⟨hX.gr kp.1 (fun q h1 _ h3 _ => wr q h1 h3), hM.gr kp.1 (wr 70 (by omega) (by omega)), ro⟩, pu_Sc_eq (fun i _ _ h7 _ => w _ (by omega) (by omega)) (w 80 (by omega) (by omega)) sc, ⟨G.kp kp (fun z hz => by omega) (by rw [w 38 (by omega) (by omega)]) (by rw [w 38 (by omega) (by omega)]) (wr 39 (by omega) (by omega)), by rw [w 70 (by omega) (by omega)]; exact h4, by rw [w 81 (by omega) (by omega)]; exact h5⟩, pu_TP_eq (by rw [w 2 (by omega) (by omega)]) (by rw [w 70 (by omega) (by omega)]) (w 3 (by omega) (by omega)) (w 71 (by omega) (by omega)) h6, h7.kp kp (fun r hr => by omega) (wr 17 (by omega) (by omega)) (by rw [w 1 (by omega) (by omega)]) (by rw [w 70 (by omega) (by omega)]) (w 72 (by omega) (by omega)) (w 74 (by omega) (by omega)) (w 75 (by omega) (by omega)), ⟨⟨by rw [w 18 (by omega) (by omega), w 70 (by omega) (by omega)]; exact h8, by rw [w 18 (by omega) (by omega)]; exact h9⟩, ⟨by rw [w 18 (by omega) (by omega), w 70 (by omega) (by omega)]; exact h10, by rw [w 18 (by omega) (by omega)]; exact h11⟩⟩, fun z hz => ?_⟩
  by_cases e : z = k
  · subst e; exact im
  · exact (h12 z hz).kp kp (by omega) (wr2 z e) (fun i hi => w88 z i e hi) (w89 z e) (w90 z e) (w91 z e)
/-- another scene, with no past -/
theorem pu_In.new (H : pu_In s I R own A T nn L j tl rs) (w : ∀ q, 88 ≤ q → I2 q = I q) (w1 : I2 1 = I 1) (w72 : I2 72 = I 72) (w74 : I2 74 = I 74) (w75 : I2 75 = I 75) (w702 : I2 70 2 = I 70 2) (sc : pu_Sc I2 18 (I2 80) A' T' nn') (h38 : I2 38 0 = 0) (h38' : I2 38 1 = 0) (hu : I2 70 24 = 0) (tp : pu_TP I2 tl') (fo : I2 18 3 = I2 70 21 ∧ pu_ir rs.length (I2 18 3) = true) (fx : I2 18 4 = I2 70 22 ∧ ¬ I2 18 4 < 0) : pu_In s I2 R own A' T' nn' [] 0 tl' rs := by
  obtain ⟨h1, _, ⟨G, _, _⟩, _, h7, _, h12⟩ := H
  exact ⟨h1, sc, ⟨⟨⟨h38, h38', by omega, Nat.zero_le _⟩, G.2.1, fun i B hB => by cases hB⟩, hu, trivial⟩, tp, pu_RU_eq (fun q hq => w q (by omega)) (by rw [w1]) w702 w72 w74 w75 h7, ⟨fo, fx⟩, fun k hk => pu_IM1_eq w (h12 k hk)⟩
end PUK1
section PUK2
variable {N : Nat} {xs : Nat → Int32}
theorem pu_k_image (a : Int32) : pu_Step N xs (fb_x_image 1 a) (fb_m_image 70 a) := by
  rintro ⟨s, I, J, R⟩ ⟨h0, hxs, own, A, T, nn, L, j, tl, rs, H⟩
  have hinv : pu_INV N xs (s, I, J, R) := ⟨h0, hxs, own, A, T, nn, L, j, tl, rs, H⟩
  have H : pu_In s I R own A T nn L j tl rs := H
  have h0 : s[0]? = some (9, N) := h0
  have hxs : I 0 = xs := hxs
  have hX := H.hX
  have hM := H.hM
  have hlen := hM.len
  have bad : pu_wi a 0 3 = false → fb_m_image 70 a (s, I, J, R) = some (-1, (s, I, J, R)) := fun hw => by
    unfold fb_m_image
    simp only [pu_m_in a 0 3 (show (0 : Int64) = (0 : Int32).toInt64 from rfl) (show (3 : Int64) = (3 : Int32).toInt64 from rfl), hw, pu_bf, Option.bind_some, ↓reduceIte]
  by_cases ha : a < 0
  · refine pu_none hinv (a := -1) ?_ (bad (by unfold pu_wi; rw [decide_eq_true ha]; rfl))
    unfold fb_x_image
    simp only [ha, ↓reduceIte]
  · obtain ⟨k, hk0, rfl⟩ := nI_of ha
    by_cases hk : k < 4
    · -- the core, where the Scene lies at p
      have core : ∀ (s1 : List (Nat × Nat)) (I1 : Nat → Nat → Int32) (J1 : Nat → Nat → Int64) (R1 : Nat → Nat → Option Nat) (own1 : Nat → Nat) (p : Nat), pu_SR s1 R1 p → 92 ≤ p → pu_Ow own1 p 19 (100 + k) → R1 37 k = some p → pu_Kp (fun x => x ≠ 100 + k) s s1 I I1 R R1 own own1 → (∀ q, q < 92 → I1 q = I q) → (∀ q, q < 92 → q ≠ 37 → R1 q = R q) → (∀ z, z ≠ k → R1 37 z = R 37 z) → pu_RO s1 R1 rs.length → ∃ a w1 w2, fj_x_image_j25 1 p (s1, I1, J1, R1) = some (a, w1) ∧ fb_m_image 70 (nI k) w1 = some (a, w2) ∧ pu_W1 N xs w1 ∧ pu_INV N xs w2 := by
        intro s1 I1 J1 R1 own1 p hsr h92 how h37 kp wi wr wr2 hro
        have hX1 : pu_X s1 R1 := hX.gr kp.1 (fun q h1 _ h3 _ => wr q h1 h3)
        have hM1 : pu_M s1 R1 := hM.gr kp.1 (wr 70 (by omega) (by omega))
        have sc1 : pu_Sc I1 18 (I 80) A T nn := pu_Sc_eq (fun i _ _ _ _ => wi _ (by omega)) rfl H.2.1
        obtain ⟨I2, a1, a2, a3, a4, a5⟩ := pu_sc_copyFrom (J := J1) hsr (pu_sr18 hX1) (Or.inr (by omega)) sc1
        obtain ⟨I3, b1, b2, b3, b4, b5, b6⟩ := pu_m_image (I := I2) (J := J1) hM1 hk
        have lo : ∀ q, q < 92 → I2 q = I q := fun q hq => by rw [a5 q (by omega), wi q hq]
        have ey : I2 80 10 = I 19 2 := by rw [lo 80 (by omega), H.q.1.2.2.2.1, H.v.1.2.2.1]
        have hi3 : ∀ q, 92 ≤ q → I3 q = I2 q := fun q hq => b6 q (by omega)
        have kp3 : pu_Kp (fun x => x ≠ 100 + k) s s1 I I3 R R1 own own1 := by
          refine ⟨kp.1, fun z h1 h2 => ⟨(kp.2 z h1 h2).1, fun h => ?_⟩⟩
          obtain ⟨c1, c2⟩ := (kp.2 z h1 h2).2 h
          refine ⟨?_, c2⟩
          rw [hi3 z h1, a5 z ?_, c1]
          rcases Nat.lt_or_ge z p with h3 | h3
          · exact Or.inl h3
          · rcases Nat.lt_or_ge z (p + 19) with h4 | h4
            · exfalso
              have o := how (z - p) (by omega)
              rw [show p + (z - p) = z by omega, (kp.2 z h1 h2).1] at o
              exact h o
            · exact Or.inr h4
        refine ⟨I 19 2, (s1, I2, J1, R1), (s1, I3, J1, R1), ?_, ?_, ⟨kp.1 _ _ h0, (lo 0 (by omega)).trans hxs, pu_m70 hM1⟩, kp.1 _ _ h0, ?_, own1, A, T, nn, L, j, tl, rs, ?_⟩
        · unfold fj_x_image_j25
          simp only [pu_gN (pu_c1 hX1), pu_f1_5 hX1, Option.bind_some, pu_on hsr.1.1, a1, pu_gN (pu_c18 hX1), pu_f18_0 hX1, pu_gI (pu_c19 hX1), lo 19 (by omega)]
        · rw [b1, ey]
        · show I3 0 = xs
          rw [b6 0 (by omega), lo 0 (by omega)]; exact hxs
        · show pu_In s1 I3 R1 own1 A T nn L j tl rs
          refine H.img hk kp3 (fun q h1 _ => by rw [b6 q (by omega), lo q (by omega)]) wr wr2 (fun z i hz hi => by rw [b2, if_neg (by omega), lo 88 (by omega)]) (fun z hz => by rw [b3, if_neg hz, lo 89 (by omega)]) (fun z hz => by rw [b4, if_neg hz, lo 90 (by omega)]) (fun z hz => by rw [b5, if_neg hz, lo 91 (by omega)]) (Or.inr ⟨p, A, T, nn, ⟨h37, by rw [b5, if_pos rfl], h92, hsr, how⟩, ?_, ⟨?_, ?_⟩, ⟨?_, ?_⟩⟩) hro
          · refine pu_Sc_f (f := I 80) (fun i hi => ?_) (pu_Sc_eq (fun i _ _ _ _ => hi3 _ (by omega)) rfl a2)
            rw [b2, if_pos (by omega), Nat.add_sub_cancel_left, lo 80 (by omega)]
          · rw [hi3 p h92, a3, b3, if_pos rfl, lo 70 (by omega), wi 18 (by omega)]; exact H.fo.1
          · rw [hi3 p h92, a3, wi 18 (by omega)]; exact H.fo.2
          · rw [hi3 p h92, a4, b4, if_pos rfl, lo 70 (by omega), wi 18 (by omega)]; exact H.fx.1
          · rw [hi3 p h92, a4, wi 18 (by omega)]; exact H.fx.2
      have ex : fb_x_image 1 (nI k) (s, I, J, R) = (match R 37 k with | none => (tb_on 15 s.length (tb_new (s, I, J, R) 15 5) (fb_sc_init s.length (tb_new (s, I, J, R) 15 5))).bind fun x7 => (tb_gN 21 6 1 x7).bind fun p8 => (tb_tR tb_P.2.2.1 p8 (nI k) s.length x7).bind fun w9 => fj_x_image_j25 1 s.length w9 | some q5 => fj_x_image_j25 1 q5 (s, I, J, R)) := by
        unfold fb_x_image
        simp only [ha, ↓reduceIte, pu_gN (pu_c1 hX), pu_f1_6 hX, Option.bind_some, pu_al5 (pu_c37 hX), pu_ltI (show k < 2147483648 by omega) (show 4 < 2147483648 by omega), hk, pu_lQ5 (pu_c37 hX) hk (show 4 ≤ 100000 by omega)]
        rfl
      rw [ex]
      rcases H.2.2.2.2.2.2 k hk with ⟨c1, c2⟩ | ⟨p, A1, T1, n1, ⟨c1, c2, c3, c4, c5⟩, _⟩
      · obtain ⟨I1, J1, R1, d1, d2, d3, d4, d5⟩ := pu_newSc (s := s) (I := I) (J := J) (R := R)
        have hs : ∀ (k : Nat) (q : Nat × Nat), s[k]? = some q → (s ++ pu_ScS)[k]? = some q := fun k q h => pu_app h
        have r37 : R1 37 = R 37 := (d3 37 (by omega)).2.2
        have hX0 : pu_X (s ++ pu_ScS) R1 := hX.gr hs (fun q hq _ _ _ => (d3 q (by omega)).2.2)
        rw [c1]
        simp only [d1, Option.bind_some, pu_gN (pu_c1 hX0), pu_f1_6 hX0, pu_tR5 (pu_c37 hX0) hk (show 4 ≤ 100000 by omega) d2.1.1]
        have hsl : ∀ i, i < 19 → s.length + i ≠ 37 := fun i _ => by omega
        refine core (s ++ pu_ScS) I1 J1 (tb_up2 R1 37 k (some s.length)) (pu_ow own s.length (100 + k)) s.length ?_ hlen (fun i hi => by unfold pu_ow; rw [if_pos (by omega)]) (pu_u2s _ _ _ _) ⟨hs, fun z h1 h2 => ⟨by unfold pu_ow; rw [if_neg (by omega)], fun _ => ⟨(d3 z h2).1, by rw [pu_u2p _ _ _ _ (by omega)]; exact (d3 z h2).2.2⟩⟩⟩ (fun q hq => (d3 q (by omega)).1) (fun q h1 h2 => by rw [pu_u2p _ _ _ _ h2]; exact (d3 q (by omega)).2.2) (fun z hz => by rw [pu_u2k _ _ _ _ hz, r37]) (H.1.2.2.img hk (by rw [pu_u2p _ _ _ _ (by decide)]; exact (d3 39 (by omega)).2.2) (fun z hz => by rw [pu_u2k _ _ _ _ hz, r37]) (Or.inr ⟨rfl, c1, by rw [pu_u2s]; exact fun h => by cases h⟩))
        obtain ⟨⟨e1, e2, e3, e4⟩, ⟨e5, e6⟩, e7, e8⟩ := d2
        have ne : ∀ z, s.length ≤ z → tb_up2 R1 37 k (some s.length) z = R1 z := fun z hz => pu_u2p _ _ _ _ (by omega)
        exact ⟨⟨e1, by rw [ne _ (by omega)]; exact e2, by rw [ne _ (by omega)]; exact e3, by rw [ne _ (by omega)]; exact e4⟩, ⟨pu_St.gr e5 (fun _ _ h => h) (ne _ (by omega)), pu_St.gr e6 (fun _ _ h => h) (ne _ (by omega))⟩, e7, by rw [ne _ (by omega)]; exact e8⟩
      · rw [c1]
        exact core s I J R own p c4 c3 c5 c1 pu_Kp.rf (fun _ _ => rfl) (fun _ _ _ => rfl) (fun _ _ => rfl) H.1.2.2
    · refine pu_none hinv (a := -1) ?_ (bad ?_)
      · unfold fb_x_image
        simp only [ha, ↓reduceIte, pu_gN (pu_c1 hX), pu_f1_6 hX, Option.bind_some, pu_al5 (pu_c37 hX), pu_ltI (show k < 2147483648 by omega) (show 4 < 2147483648 by omega), hk]
      · unfold pu_wi
        rw [show (3 : Int32) = nI 3 from rfl, decide_eq_false (show ¬ nI k ≤ nI 3 by rw [pu_leI (by omega) (by omega)]; omega), Bool.and_false]
theorem pu_k_back (a : Int32) : pu_Step N xs (fb_x_back 1 a) (fb_m_back 70 a) := by
  rintro ⟨s, I, J, R⟩ ⟨h0, hxs, own, A, T, nn, L, j, tl, rs, H⟩
  have hinv : pu_INV N xs (s, I, J, R) := ⟨h0, hxs, own, A, T, nn, L, j, tl, rs, H⟩
  have H : pu_In s I R own A T nn L j tl rs := H
  have h0 : s[0]? = some (9, N) := h0
  have hxs : I 0 = xs := hxs
  have hX := H.hX
  have hM := H.hM
  have hlen := hM.len
  have bad : pu_wi a 0 3 = false → fb_m_back 70 a (s, I, J, R) = some (-1, (s, I, J, R)) := fun hw => by
    unfold fb_m_back
    simp only [pu_m_in a 0 3 (show (0 : Int64) = (0 : Int32).toInt64 from rfl) (show (3 : Int64) = (3 : Int32).toInt64 from rfl), hw, pu_bf, Option.bind_some, ↓reduceIte]
  by_cases ha : a < 0
  · refine pu_none hinv (a := -1) ?_ (bad (by unfold pu_wi; rw [decide_eq_true ha]; rfl))
    unfold fb_x_back
    simp only [ha, ↓reduceIte]
  · obtain ⟨k, hk0, rfl⟩ := nI_of ha
    by_cases hk : k < 4
    · have hw : pu_wi (nI k) 0 3 = true := by
        unfold pu_wi
        rw [decide_eq_false ha, show (3 : Int32) = nI 3 from rfl, decide_eq_true (by rw [pu_leI (by omega) (by omega)]; omega)]; rfl
      rcases H.2.2.2.2.2.2 k hk with ⟨c1, c2⟩ | ⟨p, A1, T1, n1, ⟨c1, c2, c3, c4, c5⟩, sc, ⟨f1, f2⟩, ⟨f3, f4⟩⟩
      · refine pu_none hinv (a := -1) ?_ ?_
        · unfold fb_x_back
          simp only [ha, ↓reduceIte, pu_gN (pu_c1 hX), pu_f1_6 hX, Option.bind_some, pu_al5 (pu_c37 hX), pu_ltI (show k < 2147483648 by omega) (show 4 < 2147483648 by omega), hk, pu_lQ5 (pu_c37 hX) hk (show 4 ≤ 100000 by omega), c1]
        · unfold fb_m_back
          simp only [pu_m_in (nI k) 0 3 (show (0 : Int64) = (0 : Int32).toInt64 from rfl) (show (3 : Int64) = (3 : Int32).toInt64 from rfl), hw, pu_bt, Option.bind_some, show ¬ ((1 : Int32) = 0) by decide, ↓reduceIte, pu_gN (pu_m70 hM), pu_r35 hM, pu_lB3 (pu_m91 hM) hk (show 4 ≤ 100000 by omega), c2]
      · obtain ⟨I1, a1, a2, a3, a4, a5⟩ := pu_sc_copyFrom (J := J) (pu_sr18 hX) c4 (Or.inl (by omega)) sc
        have o2 : ∀ q, (q < 18 ∨ 37 ≤ q) → q ≠ 38 → tb_up2 (tb_up2 I1 38 0 0) 38 1 0 q = I q := fun q h1 h2 => by rw [pu_u2p _ _ _ _ h2, pu_u2p _ _ _ _ h2, a5 q (by omega)]
        have o3 : ∀ q, q ≠ 38 → tb_up2 (tb_up2 I1 38 0 0) 38 1 0 q = I1 q := fun q h2 => by rw [pu_u2p _ _ _ _ h2, pu_u2p _ _ _ _ h2]
        have k0 : tb_up2 (tb_up2 I1 38 0 0) 38 1 0 38 0 = 0 := by rw [pu_u2k _ _ _ _ (by decide), pu_u2s]
        have k1 : tb_up2 (tb_up2 I1 38 0 0) 38 1 0 38 1 = 0 := pu_u2s _ _ _ _
        obtain ⟨I3, b1, b2, b3, b4, b5, b6, b7⟩ := pu_m_back (I := tb_up2 (tb_up2 I1 38 0 0) 38 1 0) (J := J) hM hk (by rw [o2 91 (by omega) (by decide)]; exact c2)
        have ey : tb_up2 (tb_up2 I1 38 0 0) 38 1 0 88 (149 * k + 10) = I1 19 2 := by
          rw [o2 88 (by omega) (by decide)]
          exact sc.2.2.1.1.1.2.2.2.1.trans a2.2.1.1.1.2.2.1.symm
        refine ⟨I1 19 2, (s, tb_up2 (tb_up2 I1 38 0 0) 38 1 0, J, R), (s, I3, J, R), ?_, ?_, ⟨h0, (o2 0 (by omega) (by decide)).trans hxs, pu_m70 hM⟩, h0, ?_, own, A1, T1, n1, [], 0, tl, rs, ?_⟩
        · unfold fb_x_back
          simp only [ha, ↓reduceIte, pu_gN (pu_c1 hX), pu_f1_6 hX, pu_f1_5 hX, pu_f1_7 hX, Option.bind_some, pu_al5 (pu_c37 hX), pu_ltI (show k < 2147483648 by omega) (show 4 < 2147483648 by omega), hk, pu_lQ5 (pu_c37 hX) hk (show 4 ≤ 100000 by omega), c1, pu_on (pu_c18 hX), a1, pu_on (pu_c38 hX), fb_p_clear, pu_pI (pu_c38 hX), pu_gN (pu_c18 hX), pu_f18_0 hX, pu_gI (pu_c19 hX), o3 19 (by decide)]
        · rw [b1, ey]
        · show I3 0 = xs
          rw [b7 0 (by decide) (by decide), o2 0 (by omega) (by decide)]; exact hxs
        · show pu_In s I3 R own A1 T1 n1 [] 0 tl rs
          have c : ∀ q, (q < 18 ∨ 37 ≤ q) → q ≠ 38 → q ≠ 70 → q ≠ 80 → I3 q = I q := fun q h1 h2 h3 h4 => by rw [b7 q h3 h4, o2 q h1 h2]
          have w70 : ∀ z, z ≠ 21 → z ≠ 22 → z ≠ 24 → I3 70 z = I 70 z := fun z h1 h2 h3 => by rw [b6 z h1 h2 h3, o2 70 (by omega) (by decide)]
          have e18 : I3 18 = I1 18 := by rw [b7 18 (by decide) (by decide), o3 18 (by decide)]
          refine H.new (fun q hq => c q (by omega) (by omega) (by omega) (by omega)) (c 1 (by omega) (by omega) (by omega) (by omega)) (c 72 (by omega) (by omega) (by omega) (by omega)) (c 74 (by omega) (by omega) (by omega) (by omega)) (c 75 (by omega) (by omega) (by omega) (by omega)) (w70 2 (by decide) (by decide) (by decide)) ?_ (by rw [b7 38 (by decide) (by decide)]; exact k0) (by rw [b7 38 (by decide) (by decide)]; exact k1) b5 (pu_TP_eq (by rw [c 2 (by omega) (by omega) (by omega) (by omega)]) (w70 1 (by decide) (by decide) (by decide)) (c 3 (by omega) (by omega) (by omega) (by omega)) (c 71 (by omega) (by omega) (by omega) (by omega)) H.tp) ⟨?_, ?_⟩ ⟨?_, ?_⟩
          · refine pu_Sc_f (f := fun i => I 88 (149 * k + i)) (fun i hi => ?_) (pu_Sc_eq (fun i h1 h2 _ _ => ?_) rfl a2)
            · rw [b2 i hi, o2 88 (by omega) (by decide)]
            · rw [b7 (18 + i) (by omega) (by omega), o3 (18 + i) (by omega)]
          · rw [e18, a3, b3, o2 89 (by omega) (by decide)]; exact f1
          · rw [e18, a3]; exact f2
          · rw [e18, a4, b4, o2 90 (by omega) (by decide)]; exact f3
          · rw [e18, a4]; exact f4
    · refine pu_none hinv (a := -1) ?_ (bad ?_)
      · unfold fb_x_back
        simp only [ha, ↓reduceIte, pu_gN (pu_c1 hX), pu_f1_6 hX, Option.bind_some, pu_al5 (pu_c37 hX), pu_ltI (show k < 2147483648 by omega) (show 4 < 2147483648 by omega), hk]
      · unfold pu_wi
        rw [show (3 : Int32) = nI 3 from rfl, decide_eq_false (show ¬ nI k ≤ nI 3 by rw [pu_leI (by omega) (by omega)]; omega), Bool.and_false]
end PUK2
