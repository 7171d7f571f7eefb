/-! ===== The reference: rule() ===== -/
def pz_k1 (i : Nat) (y : pz_Y) : pz_Y := if pu_hk y.2.2.1 = 34 ∧ i < 12 then pz_kc y else (y.1, y.2.1, [], pu_ft y.2.2.1 y.2.2.2 (if pu_hk y.2.2.1 = 34 then 4 else 0))
def pz_gr (d i : Nat) (x : pz_Y) : pz_Y := if pu_hk x.2.2.1 = 4 then pz_rr d i (x.1, x.2.1, x.2.2.1.tail, x.2.2.2) else x
theorem pz_gr_rr (d i : Nat) (y : pz_Y) : pz_rr (d + 1) i y = pz_gr d (i + 1) (pz_k1 i y) := by
  show (if _ then _ else _) = _
  unfold pz_k1
  by_cases h : pu_hk y.2.2.1 = 34 ∧ i < 12
  · rw [if_pos h, if_pos h]; rfl
  · rw [if_neg h, if_neg h]
    generalize pu_ft y.2.2.1 y.2.2.2 (if pu_hk y.2.2.1 = 34 then 4 else 0) = w
    unfold pz_gr
    rw [if_neg (by show ¬ pu_hk [] = 4; decide)]
section PVF1
variable {s : List (Nat × Nat)} {R : Nat → Nat → Option Nat} {b : Nat → Nat} {tl t : Nat}
theorem pz_MK.eq {I I' : Nat → Nat → Int32} {y : pz_Y} (h : pz_MK I b tl t y) (e71 : I' 71 = I 71) (e72 : I' 72 = I 72) (e73 : I' 73 = I 73) (e74 : I' 74 = I 74) (e75 : I' 75 = I 75) (e70 : ∀ k, k = 1 ∨ k = 8 ∨ k = 9 ∨ k = 11 ∨ k = 12 → I' 70 k = I 70 k) : pz_MK I' b tl t y := by
  refine ⟨fun hz => ?_, fun hz => by rw [e70 9 (by omega)]; exact h.2 hz⟩
  obtain ⟨g1, g2, g3, g4, g5, g6, g7, g8⟩ := h.1 hz
  exact ⟨pz_RS_eq e71 (e70 1 (by omega)) (e70 8 (by omega)) (e70 9 (by omega)) g1, by rw [e70 11 (by omega)]; exact g2, by rw [e73]; exact g3, by rw [e75]; exact g4, by rw [e70 12 (by omega)]; exact g5, g6, by rw [e72, e74]; exact g7, g8⟩
theorem pz_MK.mv {I I' : Nat → Nat → Int32} {ru : pu_Ru} {n : Nat} {r r' : List (Nat × Nat × Nat)} (h : pz_MK I b tl t (ru, n, r, 0)) (o : pu_Nf I I') (rs : pu_RS I' b tl r') (hl : r'.length ≤ r.length) : pz_MK I' b tl t (ru, n, r', 0) := by
  obtain ⟨g1, g2, g3, g4, g5, g6, g7, g8⟩ := h.1 rfl
  have g8 : pz_ln ru + r.length ≤ 401 := g8
  exact ⟨fun _ => ⟨rs, by rw [o.2 11 (by decide)]; exact g2, by rw [o.1 73 (by decide)]; exact g3, by rw [o.1 75 (by decide)]; exact g4, by rw [o.2 12 (by decide)]; exact g5, g6, by rw [o.1 72 (by decide), o.1 74 (by decide)]; exact g7, by show pz_ln ru + r'.length ≤ 401; omega⟩, fun x => absurd rfl x⟩
theorem pz_ksee {I : Nat → Nat → Int32} {J : Nat → Nat → Int64} (hM : pu_M s R) {ru : pu_Ru} {n : Nat} {r : List (Nat × Nat × Nat)} (h : pz_MK I b tl t (ru, n, r, 0)) : ∃ I1 p, fb_m_see 70 (s, I, J, R) = some (pz_by b tl p, (s, I1, J, R)) ∧ pu_Nf I I1 ∧ pz_MK I1 b tl t (ru, n, r, 0) ∧ pz_At I1 b tl p ∧ r = pu_tt b tl p := by
  obtain ⟨I1, p, a1, a2, a3, a4, er⟩ := pz_see (J := J) hM h.z
  exact ⟨I1, p, a1, a2, h.mv a2 (a3.1 rfl).1 (Nat.le_refl _), a4, er⟩
theorem pz_m_clause {I : Nat → Nat → Int32} {J : Nat → Nat → Int64} (hM : pu_M s R) (ht : t < 6) {ru : pu_Ru} {n : Nat} {r : List (Nat × Nat × Nat)} (h : pz_MK I b tl t (ru, n, r, 0)) (h14 : I 70 14 = nI ru.length) (hi : ru.length ≤ 12) :
    ∃ I', fb_m_clauseHere 70 (s, I, J, R) = some (pu_b (decide ((pz_k1 ru.length (ru, n, r, 0)).2.2.2 = 0)), (s, I', J, R)) ∧ pz_MK I' b tl t (pz_k1 ru.length (ru, n, r, 0)) ∧ pz_Mv t I I' ∧ ((pz_k1 ru.length (ru, n, r, 0)).2.2.2 = 0 → I' 70 14 = nI (ru.length + 1) ∧ (pz_k1 ru.length (ru, n, r, 0)).1.length = ru.length + 1) := by
  obtain ⟨I1, p, a1, a2, a3, a4, er⟩ := pz_ksee (J := J) hM h
  obtain ⟨⟨_, h9, _⟩, g11, _⟩ := a3.1 rfl
  have w := pz_isw0 (J := J) hM a4 (k := 14) (by omega) pz_W14
  rw [← er] at w
  have e6 : (nI t = (6 : Int32)) = (t = 6) := pu_eqI (b := 6) (by omega) (by omega)
  have e12 : (nI ru.length = (12 : Int32)) = (ru.length = 12) := pu_eqI (b := 12) (by omega) (by omega)
  have l14 : I1 70 14 = nI ru.length := by rw [a2.2 14 (by decide)]; exact h14
  have f0 := pu_m_fails (J := J) hM h9 0 p
  have f4 := pu_m_fails (J := J) hM h9 4 p
  rw [show nI 0 = 0 from rfl] at f0
  rw [show nI 4 = 4 from rfl] at f4
  have start : fb_m_clauseHere 70 (s, I, J, R) = if ¬ pu_hk r = 34 then some (0, (s, tb_up2 I1 70 9 (nI (1 + 8 * p + 0)), J, R)) else if ru.length = 12 then some (0, (s, tb_up2 I1 70 9 (nI (1 + 8 * p + 4)), J, R)) else (fb_m_isKeepHere 70 (s, tb_up2 I1 70 14 (nI (ru.length + 1)), J, R)).bind fun x10 => tb_z x10.1 x10.2 := by
    unfold fb_m_clauseHere fj_m_clauseHere_j13 fj_m_clauseHere_j29 fj_m_clauseHere_j36
    simp only [pu_on (pu_m70 hM), a1, Option.bind_some, pu_gI (pu_m70 hM), a4.2.2.2, g11, e6, show ¬ t = 6 by omega, ↓reduceIte, w, pu_b0, decide_eq_false_iff_not, f0, f4, l14, e12, pu_R1, pu_pI (pu_m70 hM)]
    rfl
  rw [start]
  have ft := fun why => pz_ft r a4 er why
  have dead : ∀ why, pz_k1 ru.length (ru, n, r, 0) = (ru, n, [], pu_ft r 0 why) → ∃ I', some ((0 : Int32), (s, tb_up2 I1 70 9 (nI (1 + 8 * p + why)), J, R)) = some (pu_b (decide ((pz_k1 ru.length (ru, n, r, 0)).2.2.2 = 0)), (s, I', J, R)) ∧ pz_MK I' b tl t (pz_k1 ru.length (ru, n, r, 0)) ∧ pz_Mv t I I' ∧ ((pz_k1 ru.length (ru, n, r, 0)).2.2.2 = 0 → I' 70 14 = nI (ru.length + 1) ∧ (pz_k1 ru.length (ru, n, r, 0)).1.length = ru.length + 1) := by
    intro why ek
    rw [ek, ft why]
    have nz : ¬ 1 + 8 * p + why = 0 := by omega
    refine ⟨tb_up2 I1 70 9 (nI (1 + 8 * p + why)), ?_, ⟨fun y => absurd y nz, fun _ => ⟨pu_u2s _ _ _ _, rfl⟩⟩, (pz_Mv.nf a2).tr (pz_Mv.my (B := 0) (pz_My.u (by omega))), fun y => absurd y nz⟩
    dsimp only
    rw [decide_eq_false nz]
    rfl
  by_cases hk : pu_hk r = 34
  · rw [if_neg (fun y => y hk)]
    by_cases h12 : ru.length = 12
    · rw [if_pos h12]
      refine dead 4 ?_
      unfold pz_k1
      dsimp only
      rw [if_neg (by omega), if_pos hk]
    · rw [if_neg h12]
      have ek : pz_k1 ru.length (ru, n, r, 0) = pz_kc (ru, n, r, 0) := by
        unfold pz_k1
        dsimp only
        rw [if_pos ⟨hk, by omega⟩]
      rw [ek]
      have q2 : ∀ q, q ≠ 70 → tb_up2 I1 70 14 (nI (ru.length + 1)) q = I1 q := fun q hq => pu_u2p _ _ _ _ hq
      have k2 : ∀ k, k ≠ 14 → tb_up2 I1 70 14 (nI (ru.length + 1)) 70 k = I1 70 k := fun k hk => pu_u2k _ _ _ _ hk
      have m2 : pz_MK (tb_up2 I1 70 14 (nI (ru.length + 1))) b tl t (ru, n, r, 0) := a3.eq (q2 71 (by decide)) (q2 72 (by decide)) (q2 73 (by decide)) (q2 74 (by decide)) (q2 75 (by decide)) (fun k hk => k2 k (by omega))
      have at2 : pz_At (tb_up2 I1 70 14 (nI (ru.length + 1))) b tl p := ⟨⟨by rw [k2 1 (by decide)]; exact a4.1.1, a4.1.2.1, fun k hk => by rw [q2 71 (by decide)]; exact a4.1.2.2 k hk⟩, a4.2.1, a4.2.2.1, by rw [k2 8 (by decide)]; exact a4.2.2.2⟩
      obtain ⟨I3, c1, c2, c3, c4⟩ := pz_m_keep (J := J) hM ht m2 hk at2 er (by omega)
      have v2 : pz_Mv t I1 (tb_up2 I1 70 14 (nI (ru.length + 1))) := ⟨fun q h1 _ _ _ _ _ => q2 q h1, fun k _ _ _ _ _ h6 _ => k2 k h6, fun k _ => by rw [q2 72 (by decide)], fun k _ => by rw [q2 74 (by decide)], fun k _ => by rw [q2 75 (by decide)]⟩
      refine ⟨I3, ?_, c2, ((pz_Mv.nf a2).tr v2).tr c3, fun _ => ⟨by rw [c4, pu_u2s], pz_kc_len _⟩⟩
      rw [c1, Option.bind_some]
      exact pu_tz _ _
  · rw [if_pos hk]
    refine dead 0 ?_
    unfold pz_k1
    dsimp only
    rw [if_neg (fun y => hk y.1), if_neg hk]
theorem pz_m_readsAll_l (hM : pu_M s R) (ht : t < 6) : ∀ d i n (I : Nat → Nat → Int32) (J : Nat → Nat → Int64) (x : pz_Y), i + d = 13 → d < n → (d = 0 → x.2.2.1 = []) → (x.2.2.2 = 0 → I 70 14 = nI i ∧ x.1.length = i) → pz_MK I b tl t x →
    ∃ I', fl_m_readsAll_21 n 70 (pu_b (decide (x.2.2.2 = 0))) (s, I, J, R) = some (70, pu_b (decide ((pz_gr d i x).2.2.2 = 0)), (s, I', J, R)) ∧ pz_Mv t I I' ∧ pz_MK I' b tl t (pz_gr d i x) := by
  intro d
  induction d with
  | zero =>
    intro i n I J x hi hn h0 hx h
    obtain ⟨n, rfl⟩ : ∃ z, n = z + 1 := ⟨n - 1, by omega⟩
    have hr := h0 rfl
    have hz : x.2.2.2 ≠ 0 := fun hz => by
      obtain ⟨_, _, q, _, _, e⟩ := (h.1 hz).1
      rw [hr] at e
      exact pu_tt_ne b tl q e.symm
    have e : pz_gr 0 i x = x := by unfold pz_gr; rw [if_neg (by rw [hr]; decide)]
    rw [e, decide_eq_false hz]
    refine ⟨I, ?_, pz_Mv.rf, h⟩
    rw [fl_m_readsAll_21.eq_2, if_pos (by decide)]
  | succ d ih =>
    intro i n I J x hi hn h0 hx h
    obtain ⟨n, rfl⟩ : ∃ z, n = z + 1 := ⟨n - 1, by omega⟩
    by_cases hz : x.2.2.2 = 0
    · obtain ⟨ru, m, r, f⟩ := x
      have hz : f = 0 := hz
      subst hz
      obtain ⟨h14, hl⟩ := hx rfl
      have hl : ru.length = i := hl
      obtain ⟨I1, p, a1, a2, a3, a4, er⟩ := pz_ksee (J := J) hM h
      have b59 : (pz_by b tl p = 59) = (pu_hk r = 4) := er ▸ pz_by_sg a4 (fun c => (pz_sgc c).2.2.2.2.2.2.2) (by omega) (by omega) (show 59 < 256 by omega) rfl
      rw [fl_m_readsAll_21.eq_2]
      simp only [decide_true, pu_bt, show ¬ ((1 : Int32) = 0) by decide, ↓reduceIte, pu_on (pu_m70 hM), a1, Option.bind_some, b59]
      by_cases h4 : pu_hk r = 4
      · rw [if_pos h4]
        obtain ⟨m2, hlt, _⟩ := pz_adv1 (e := 400) a3.z a4 er h4 (by omega) (by omega)
        have k2 : pz_MK (tb_up2 I1 70 8 (nI (p + 1))) b tl t (ru, m, r.tail, 0) := a3.mv pu_Nf.u (m2.1 rfl).1 (by rw [List.length_tail]; omega)
        have x14 : tb_up2 I1 70 8 (nI (p + 1)) 70 14 = nI ru.length := by rw [pu_u2k _ _ _ _ (by decide), a2.2 14 (by decide), hl]; exact h14
        obtain ⟨I3, c1, c2, c3, c4⟩ := pz_m_clause (J := J) hM ht k2 x14 (by omega)
        have eg : pz_gr (d + 1) i (ru, m, r, 0) = pz_gr d (i + 1) (pz_k1 ru.length (ru, m, r.tail, 0)) := by
          have : pz_gr (d + 1) i (ru, m, r, 0) = pz_rr (d + 1) i (ru, m, r.tail, 0) := by unfold pz_gr; rw [if_pos h4]
          rw [this, pz_gr_rr, hl]
        rw [eg]
        obtain ⟨I4, d1, d2, d3⟩ := ih (i + 1) n I3 J (pz_k1 ru.length (ru, m, r.tail, 0)) (by omega) (by omega) (fun hd => by unfold pz_k1; rw [if_neg (by omega)]) (fun y => by rw [← hl]; exact c4 y) c2
        refine ⟨I4, ?_, (((pz_Mv.nf a2).tr (pz_Mv.nf pu_Nf.u)).tr c3).tr d2, d3⟩
        simp only [pu_gI (pu_m70 hM), a4.2.2.2, Option.bind_some, pu_R1, pu_pI (pu_m70 hM), pu_on (pu_m70 hM), c1, d1]
      · rw [if_neg h4]
        have e : pz_gr (d + 1) i (ru, m, r, 0) = (ru, m, r, 0) := by unfold pz_gr; rw [if_neg h4]
        rw [e]
        exact ⟨I1, rfl, pz_Mv.nf a2, a3⟩
    · obtain ⟨k1, k2⟩ := h.2 hz
      have e : pz_gr (d + 1) i x = x := by unfold pz_gr; rw [if_neg (by rw [k2]; decide)]
      rw [e, decide_eq_false hz]
      refine ⟨I, ?_, pz_Mv.rf, h⟩
      rw [fl_m_readsAll_21.eq_2, if_pos (by decide)]
/-- what reading at all changes -/
def pz_Mg (t : Nat) (I I' : Nat → Nat → Int32) : Prop := (∀ q, q ≠ 70 → q ≠ 72 → q ≠ 73 → q ≠ 74 → q ≠ 75 → q ≠ 77 → I' q = I q) ∧ (∀ k, k ≠ 1 → k ≠ 8 → k ≠ 9 → k ≠ 10 → k ≠ 12 → k ≠ 13 → k ≠ 14 → k ≠ 16 → I' 70 k = I 70 k) ∧ (∀ k, k < 400 * t → I' 72 k = I 72 k) ∧ (∀ k, k < 48 * t → I' 74 k = I 74 k) ∧ (∀ k, k ≠ t → I' 75 k = I 75 k)
theorem pz_Mg.mv {I I' : Nat → Nat → Int32} (a : pz_Mv t I I') : pz_Mg t I I' := ⟨a.1, fun k _ h2 h3 h4 h5 h6 h7 h8 => a.2.1 k h2 h3 h4 h5 h6 h7 h8, a.2.2⟩
theorem pz_Mg.tr {I I' I2 : Nat → Nat → Int32} (a : pz_Mg t I I') (c : pz_Mg t I' I2) : pz_Mg t I I2 := ⟨fun q h1 h2 h3 h4 h5 h6 => (c.1 q h1 h2 h3 h4 h5 h6).trans (a.1 q h1 h2 h3 h4 h5 h6), fun k h1 h2 h3 h4 h5 h6 h7 h8 => (c.2.1 k h1 h2 h3 h4 h5 h6 h7 h8).trans (a.2.1 k h1 h2 h3 h4 h5 h6 h7 h8), fun k h => (c.2.2.1 k h).trans (a.2.2.1 k h), fun k h => (c.2.2.2.1 k h).trans (a.2.2.2.1 k h), fun k h => (c.2.2.2.2 k h).trans (a.2.2.2.2 k h)⟩
theorem pz_Mg.u {I : Nat → Nat → Int32} {k : Nat} {v : Int32} (h : k = 1 ∨ k = 8 ∨ k = 9 ∨ k = 12 ∨ k = 14) : pz_Mg t I (tb_up2 I 70 k v) := ⟨fun q h1 _ _ _ _ _ => pu_u2p _ _ _ _ h1, fun j h1 h2 h3 h4 h5 h6 h7 h8 => pu_u2k _ _ _ _ (by omega), fun j _ => by rw [pu_u2p _ _ _ _ (by decide)], fun j _ => by rw [pu_u2p _ _ _ _ (by decide)], fun j _ => by rw [pu_u2p _ _ _ _ (by decide)]⟩
theorem pz_Mg.u73 {I : Nat → Nat → Int32} {k : Nat} {v : Int32} : pz_Mg t I (tb_up2 I 73 k v) := ⟨fun q _ _ h3 _ _ _ => pu_u2p _ _ _ _ h3, fun j _ _ _ _ _ _ _ _ => by rw [pu_u2p _ _ _ _ (by decide)], fun j _ => by rw [pu_u2p _ _ _ _ (by decide)], fun j _ => by rw [pu_u2p _ _ _ _ (by decide)], fun j _ => by rw [pu_u2p _ _ _ _ (by decide)]⟩
theorem pz_m_readsAll {I : Nat → Nat → Int32} {J : Nat → Nat → Int64} (hM : pu_M s R) (ht : t < 6) (hb : pu_MB I b tl) (h11 : I 70 11 = nI t) (h75 : I 75 t = 0) {ru : pu_Ru} {m : Nat} {r : List (Nat × Nat × Nat)} {f : Nat} (hr : pz_rr 13 0 ([], 0, pu_tt b tl 0, 0) = (ru, m, r, f)) (hfin : pu_fin r f < 10000) :
    ∃ I', fb_m_readsAll 70 (s, I, J, R) = some (pu_b (decide (pu_fin r f = 0)), (s, I', J, R)) ∧ I' 70 1 = 0 ∧ (pu_fin r f = 0 → pz_RN (I' 72) (I' 74) t 0 0 ru ∧ I' 75 t = nI ru.length ∧ pz_ln ru ≤ 400) ∧ (pu_fin r f ≠ 0 → I' 70 9 = nI (pu_fin r f)) ∧ pz_Mg t I I' := by
  have h400 := hb.2.1
  obtain ⟨I5, hI5⟩ : ∃ I5, I5 = tb_up2 (tb_up2 (tb_up2 (tb_up2 (tb_up2 I 73 t 0) 70 14 0) 70 8 0) 70 9 0) 70 12 0 := ⟨_, rfl⟩
  have u5 : pz_Mg t I I5 := by rw [hI5]; exact (((pz_Mg.u73.tr (pz_Mg.u (by omega))).tr (pz_Mg.u (by omega))).tr (pz_Mg.u (by omega))).tr (pz_Mg.u (by omega))
  have e14 : I5 70 14 = nI 0 := by subst hI5; simp (disch := omega) only [pu_u2p, pu_u2k, pu_u2s]; rfl
  have e8 : I5 70 8 = nI 0 := by subst hI5; simp (disch := omega) only [pu_u2p, pu_u2k, pu_u2s]; rfl
  have e9 : I5 70 9 = 0 := by subst hI5; simp (disch := omega) only [pu_u2p, pu_u2k, pu_u2s]
  have e12 : I5 70 12 = nI 0 := by subst hI5; simp (disch := omega) only [pu_u2p, pu_u2k, pu_u2s]; rfl
  have e73 : I5 73 t = nI 0 := by subst hI5; simp (disch := omega) only [pu_u2p, pu_u2k, pu_u2s]; rfl
  have e71 : I5 71 = I 71 := by subst hI5; simp (disch := omega) only [pu_u2p]
  have e75 : I5 75 = I 75 := by subst hI5; simp (disch := omega) only [pu_u2p]
  have e1 : I5 70 1 = I 70 1 := by subst hI5; simp (disch := omega) only [pu_u2p, pu_u2k]
  have e11 : I5 70 11 = nI t := by rw [u5.2.1 11 (by decide) (by decide) (by decide) (by decide) (by decide) (by decide) (by decide) (by decide)]; exact h11
  have hb5 : pu_MB I5 b tl := ⟨by rw [e1]; exact hb.1, h400, fun k hk => by rw [e71]; exact hb.2.2 k hk⟩
  have tln := pz_tt_len b tl 0
  have m5 : pz_MK I5 b tl t ([], 0, pu_tt b tl 0, 0) := ⟨fun _ => ⟨⟨hb5, e9, 0, Nat.zero_le _, e8, rfl⟩, e11, e73, by rw [e75, h75]; rfl, e12, by show 0 ≤ 60; omega, trivial, by show 0 + (pu_tt b tl 0).length ≤ 401; omega⟩, fun x => absurd rfl x⟩
  obtain ⟨I6, a1, a2, a3, a4⟩ := pz_m_clause (J := J) hM ht m5 e14 (by show 0 ≤ 12; omega)
  obtain ⟨I7, b1, b2, b3⟩ := pz_m_readsAll_l hM ht 12 1 1048576 I6 J (pz_k1 0 ([], 0, pu_tt b tl 0, 0)) (by omega) (by omega) (fun h => by omega) (fun y => a4 y) a2
  have a1 : fb_m_clauseHere 70 (s, I5, J, R) = some (pu_b (decide ((pz_k1 0 ([], 0, pu_tt b tl 0, 0)).2.2.2 = 0)), (s, I6, J, R)) := a1
  rw [← pz_gr_rr 12 0, hr] at b1 b3
  dsimp only at b1
  have u7 : pz_Mg t I I7 := (u5.tr (pz_Mg.mv a3)).tr (pz_Mg.mv b2)
  have start : fb_m_readsAll 70 (s, I, J, R) = if pu_b (decide (f = 0)) = 0 then fj_m_readsAll_j49 70 (s, I7, J, R) else (fb_m_see 70 (s, I7, J, R)).bind fun x16 => (if x16.1 = (-1) then fj_m_readsAll_j49 70 x16.2 else (tb_gI 22 8 70 x16.2).bind fun x17 => (tb_on 22 70 x16.2 (fb_m_fails 70 0 x17 x16.2)).bind fun x18 => fj_m_readsAll_j49 70 x18.2) := by
    unfold fb_m_readsAll
    simp only [pu_gN (pu_m70 hM), pu_r4 hM, Option.bind_some, pu_gI (pu_m70 hM), h11, pu_tI (pu_m73 hM) (show t < 7 by omega) (show 7 ≤ 100000 by omega), pu_pI (pu_m70 hM), ← hI5, pu_on (pu_m70 hM), a1, b1]
  rw [start]
  by_cases hz : f = 0
  · subst hz
    obtain ⟨I8, p, g1, g2, g3, g4, er⟩ := pz_ksee (J := J) hM b3
    obtain ⟨⟨_, h98, _⟩, _, _, k75, _, _, krn, k8⟩ := g3.1 rfl
    have u8 : pz_Mg t I I8 := u7.tr (pz_Mg.mv (pz_Mv.nf g2))
    rw [decide_eq_true rfl, if_neg (by decide), g1, Option.bind_some]
    dsimp only
    by_cases hp : p < tl
    · have hk := (pu_hk4 hp (g4.2.2.1 hp)).2.1
      have ef : pu_fin r 0 = 1 + 8 * p := by
        unfold pu_fin
        rw [if_neg (er ▸ hk), pz_ft r g4 er 0]
        rfl
      have hf := pu_m_fails (J := J) hM h98 0 p
      rw [show nI 0 = 0 from rfl, Nat.add_zero] at hf
      have hj := pu_m_j49 (J := J) (I := tb_up2 I8 70 9 (nI (1 + 8 * p))) (k := 1 + 8 * p) hM (by omega) (pu_u2s _ _ _ _)
      rw [ef]
      refine ⟨tb_up2 (tb_up2 I8 70 9 (nI (1 + 8 * p))) 70 1 0, ?_, pu_u2s _ _ _ _, fun h => by omega, fun _ => by rw [pu_u2k _ _ _ _ (by decide), pu_u2s], (u8.tr (pz_Mg.u (by omega))).tr (pz_Mg.u (by omega))⟩
      have nb : ¬ pz_by b tl p = -1 := by unfold pz_by; rw [if_pos hp]; exact pu_nm1 (by have := (hb.2.2 p hp).1; omega)
      rw [if_neg nb]
      simp only [pu_gI (pu_m70 hM), g4.2.2.2, Option.bind_some, pu_on (pu_m70 hM), hf, hj]
    · have ef : pu_fin r 0 = 0 := by
        unfold pu_fin
        rw [er, pu_tt_e b (by omega), if_pos (by rfl)]
      have hj := pu_m_j49 (J := J) (I := I8) (k := 0) hM (by omega) h98
      rw [ef]
      have k8 : pz_ln ru + r.length ≤ 401 := k8
      have rl : 1 ≤ r.length := by rw [er]; exact List.length_pos_iff.mpr (pu_tt_ne b tl p)
      refine ⟨tb_up2 I8 70 1 0, ?_, pu_u2s _ _ _ _, fun _ => ⟨by rw [pu_u2p _ _ _ _ (by decide), pu_u2p _ _ _ _ (by decide)]; exact krn, by rw [pu_u2p _ _ _ _ (by decide)]; exact k75, by omega⟩, fun h => absurd rfl h, u8.tr (pz_Mg.u (by omega))⟩
      rw [if_pos (by unfold pz_by; rw [if_neg hp])]
      exact hj
  · obtain ⟨k1, k2⟩ := b3.2 hz
    have k1 : I7 70 9 = nI f := k1
    have k2 : r = [] := k2
    have ef : pu_fin r f = f := by unfold pu_fin; rw [k2, if_pos (by rfl)]
    rw [ef] at hfin ⊢
    rw [decide_eq_false hz, if_pos (by decide)]
    have hj := pu_m_j49 (J := J) (I := I7) (k := f) hM hfin k1
    rw [decide_eq_false hz] at hj
    exact ⟨tb_up2 I7 70 1 0, hj, pu_u2s _ _ _ _, fun h => absurd h hz, fun _ => by rw [pu_u2k _ _ _ _ (by decide)]; exact k1, u7.tr (pz_Mg.u (by omega))⟩
theorem pz_m_rule {I : Nat → Nat → Int32} {J : Nat → Nat → Int64} {rc : Nat} (hM : pu_M s R) (hb : pu_MB I b tl) (h2 : I 70 2 = nI rc) (hrc : rc < 6) {ru : pu_Ru} {m : Nat} {r : List (Nat × Nat × Nat)} {f : Nat} (hr : pz_rr 13 0 ([], 0, pu_tt b tl 0, 0) = (ru, m, r, f)) (hfin : pu_fin r f < 10000) :
    ∃ I', fb_m_rule 70 (s, I, J, R) = some (if pu_fin r f = 0 then nI rc else -2 - nI (pu_fin r f), (s, I', J, R)) ∧ I' 70 1 = 0 ∧ (pu_fin r f = 0 → pz_RN (I' 72) (I' 74) rc 0 0 ru ∧ I' 75 rc = nI ru.length ∧ pz_ln ru ≤ 400) ∧ I' 70 2 = nI (if pu_fin r f = 0 then rc + 1 else rc) ∧ (∀ q, q ≠ 70 → q ≠ 72 → q ≠ 73 → q ≠ 74 → q ≠ 75 → q ≠ 77 → I' q = I q) ∧ (∀ k, 17 ≤ k → I' 70 k = I 70 k) ∧ (∀ k, k < 400 * rc → I' 72 k = I 72 k) ∧ (∀ k, k < 48 * rc → I' 74 k = I 74 k) ∧ (∀ k, k ≠ rc → I' 75 k = I 75 k) := by
  have e6 : (nI rc = (6 : Int32)) = (rc = 6) := pu_eqI (b := 6) (by omega) (by omega)
  obtain ⟨I2, hI2⟩ : ∃ I2, I2 = tb_up2 (tb_up2 I 70 11 (nI rc)) 75 rc 0 := ⟨_, rfl⟩
  have q2 : ∀ q, q ≠ 70 → q ≠ 75 → I2 q = I q := fun q x1 x2 => by rw [hI2, pu_u2p _ _ _ _ x2, pu_u2p _ _ _ _ x1]
  have k2 : ∀ k, k ≠ 11 → I2 70 k = I 70 k := fun k hk => by rw [hI2, pu_u2p _ _ _ _ (by decide), pu_u2k _ _ _ _ hk]
  have k11 : I2 70 11 = nI rc := by rw [hI2, pu_u2p _ _ _ _ (by decide), pu_u2s]
  have l11 : tb_up2 I 70 11 (nI rc) 70 11 = nI rc := pu_u2s _ _ _ _
  have l75 : I2 75 rc = 0 := by rw [hI2, pu_u2s]
  have hb2 : pu_MB I2 b tl := ⟨by rw [k2 1 (by decide)]; exact hb.1, hb.2.1, fun k hk => by rw [q2 71 (by decide) (by decide)]; exact hb.2.2 k hk⟩
  obtain ⟨I3, a1, a2, a3, a4, a5⟩ := pz_m_readsAll (J := J) hM hrc hb2 k11 l75 hr hfin
  have x2 : I3 70 2 = nI rc := by rw [a5.2.1 2 (by decide) (by decide) (by decide) (by decide) (by decide) (by decide) (by decide) (by decide), k2 2 (by decide)]; exact h2
  have start : fb_m_rule 70 (s, I, J, R) = if ¬ pu_fin r f = 0 then (tb_gI 22 9 70 (s, I3, J, R)).bind fun x8 => some ((-2) - x8, (s, I3, J, R)) else some (nI rc, (s, tb_up2 I3 70 2 (nI (rc + 1)), J, R)) := by
    unfold fb_m_rule
    simp only [pu_gI (pu_m70 hM), h2, Option.bind_some, e6, show ¬ rc = 6 by omega, ↓reduceIte, pu_pI (pu_m70 hM), pu_gN (pu_m70 hM), pu_r6 hM, l11, pu_tI (pu_m75 hM) hrc (show 6 ≤ 100000 by omega), ← hI2, pu_on (pu_m70 hM), a1, pu_b0, decide_eq_false_iff_not, x2, pu_R1, pu_u2s, nI_pred]
  have fr : ∀ q, q ≠ 70 → q ≠ 72 → q ≠ 73 → q ≠ 74 → q ≠ 75 → q ≠ 77 → I3 q = I q := fun q y1 y2 y3 y4 y5 y6 => by rw [a5.1 q y1 y2 y3 y4 y5 y6, q2 q y1 y5]
  have f70 : ∀ k, 17 ≤ k → I3 70 k = I 70 k := fun k hk => by rw [a5.2.1 k (by omega) (by omega) (by omega) (by omega) (by omega) (by omega) (by omega) (by omega), k2 k (by omega)]
  have f72 : ∀ k, k < 400 * rc → I3 72 k = I 72 k := fun k hk => by rw [a5.2.2.1 k hk, q2 72 (by decide) (by decide)]
  have f74 : ∀ k, k < 48 * rc → I3 74 k = I 74 k := fun k hk => by rw [a5.2.2.2.1 k hk, q2 74 (by decide) (by decide)]
  have f75 : ∀ k, k ≠ rc → I3 75 k = I 75 k := fun k hk => by rw [a5.2.2.2.2 k hk, hI2, pu_u2k _ _ _ _ hk, pu_u2p _ _ _ _ (by decide)]
  rw [start]
  by_cases hz : pu_fin r f = 0
  · rw [if_neg (fun y => y hz), if_pos hz, if_pos hz]
    obtain ⟨r1, r2, r3⟩ := a3 hz
    refine ⟨tb_up2 I3 70 2 (nI (rc + 1)), rfl, by rw [pu_u2k _ _ _ _ (by decide)]; exact a2, fun _ => ⟨?_, ?_, r3⟩, pu_u2s _ _ _ _, fun q y1 y2 y3 y4 y5 y6 => by rw [pu_u2p _ _ _ _ y1]; exact fr q y1 y2 y3 y4 y5 y6, fun k hk => by rw [pu_u2k _ _ _ _ (by omega)]; exact f70 k hk, fun k hk => by rw [pu_u2p _ _ _ _ (by decide)]; exact f72 k hk, fun k hk => by rw [pu_u2p _ _ _ _ (by decide)]; exact f74 k hk, fun k hk => by rw [pu_u2p _ _ _ _ (by decide)]; exact f75 k hk⟩
    · rw [pu_u2p _ _ _ _ (by decide), pu_u2p _ _ _ _ (by decide)]; exact r1
    · rw [pu_u2p _ _ _ _ (by decide)]; exact r2
  · rw [if_pos hz, if_neg hz, if_neg hz]
    refine ⟨I3, ?_, a2, fun h => absurd h hz, x2, fr, f70, f72, f74, f75⟩
    rw [pu_gI (pu_m70 hM), a4 hz, Option.bind_some]
end PVF1
