/-! ===== The reference's stack of signs ===== -/
def pz_skS (f : Nat → Int32) : List Nat → Prop
  | [] => True
  | x :: st => f st.length = nI x ∧ (x = 11 ∨ x = 12 ∨ x = 13 ∨ x = 91) ∧ pz_skS f st
theorem pz_skS_eq {f g : Nat → Int32} : ∀ (st : List Nat), (∀ k, k < st.length → g k = f k) → pz_skS f st → pz_skS g st
  | [], _, _ => trivial
  | x :: st, h, ⟨h1, h2, h3⟩ => ⟨(h _ (by rw [List.length_cons]; omega)).trans h1, h2, pz_skS_eq st (fun k hk => h k (by rw [List.length_cons]; omega)) h3⟩
theorem pz_ins_iff {f : Nat → Int32} : ∀ (st : List Nat), pz_skS f st → (pz_ins st = true ↔ ∃ k, k < st.length ∧ f k = 91)
  | [], _ => ⟨fun h => (by cases h), fun ⟨k, h, _⟩ => absurd h (Nat.not_lt_zero _)⟩
  | x :: st, ⟨h1, h2, h3⟩ => by
    have ih := pz_ins_iff st h3
    have e : (f st.length = 91) = (x = 91) := by rw [h1]; exact pu_eqI (b := 91) (by omega) (by omega)
    show (decide (x = 91) || pz_ins st) = true ↔ _
    rw [Bool.or_eq_true, decide_eq_true_eq, ih]
    constructor
    · rintro (h | ⟨k, k1, k2⟩)
      · exact ⟨st.length, by rw [List.length_cons]; omega, by rw [e]; exact h⟩
      · exact ⟨k, by rw [List.length_cons]; omega, k2⟩
    · rintro ⟨k, k1, k2⟩
      rw [List.length_cons] at k1
      by_cases hk : k = st.length
      · subst hk; rw [e] at k2; exact Or.inl k2
      · exact Or.inr ⟨k, by omega, k2⟩
/-- with a stack st: steps, tokens left and what is heaped are e at most -/
def pz_MW (I : Nat → Nat → Int32) (b : Nat → Nat) (tl t B e : Nat) (st : List Nat) (z : pz_Z) : Prop :=
  (∃ e', e' + st.length ≤ e ∧ pz_MZ I b tl t B e' z) ∧ I 70 16 = nI st.length ∧ I 70 13 = nI (pz_cn st) ∧ pz_cn st ≤ 10 ∧ pz_skS (I 77) st
def pz_My (t B : Nat) (I I' : Nat → Nat → Int32) : Prop := (∀ q, q ≠ 70 → q ≠ 72 → q ≠ 73 → q ≠ 77 → I' q = I q) ∧ (∀ k, k ≠ 8 → k ≠ 9 → k ≠ 10 → k ≠ 12 → k ≠ 13 → k ≠ 16 → I' 70 k = I 70 k) ∧ (∀ k, k < 400 * t + B → I' 72 k = I 72 k)
theorem pz_My.rf {t B : Nat} {I : Nat → Nat → Int32} : pz_My t B I I := ⟨fun _ _ _ _ _ => rfl, fun _ _ _ _ _ _ _ => rfl, fun _ _ => rfl⟩
theorem pz_My.tr {t B : Nat} {I I' I2 : Nat → Nat → Int32} (a : pz_My t B I I') (c : pz_My t B I' I2) : pz_My t B I I2 := ⟨fun q h1 h2 h3 h4 => (c.1 q h1 h2 h3 h4).trans (a.1 q h1 h2 h3 h4), fun k h1 h2 h3 h4 h5 h6 => (c.2.1 k h1 h2 h3 h4 h5 h6).trans (a.2.1 k h1 h2 h3 h4 h5 h6), fun k h => (c.2.2 k h).trans (a.2.2 k h)⟩
theorem pz_My.mx {t B : Nat} {I I' : Nat → Nat → Int32} (a : pz_Mx t B I I') : pz_My t B I I' := ⟨fun q h1 h2 h3 _ => a.1 q h1 h2 h3, fun k h1 h2 h3 h4 _ _ => a.2.1 k h1 h2 h3 h4, a.2.2⟩
theorem pz_My.nf {t B : Nat} {I I' : Nat → Nat → Int32} (a : pu_Nf I I') : pz_My t B I I' := pz_My.mx (pz_Mx.nf a)
theorem pz_My.u {t B : Nat} {I : Nat → Nat → Int32} {k : Nat} {v : Int32} (h : k = 8 ∨ k = 9 ∨ k = 13 ∨ k = 16) : pz_My t B I (tb_up2 I 70 k v) := ⟨fun q h1 _ _ _ => pu_u2p _ _ _ _ h1, fun j h1 h2 _ _ h5 h6 => pu_u2k _ _ _ _ (by omega), fun j _ => by rw [pu_u2p _ _ _ _ (by decide)]⟩
theorem pz_My.u77 {t B : Nat} {I : Nat → Nat → Int32} {k : Nat} {v : Int32} : pz_My t B I (tb_up2 I 77 k v) := ⟨fun q _ _ _ h4 => pu_u2p _ _ _ _ h4, fun j _ _ _ _ _ _ => by rw [pu_u2p _ _ _ _ (by decide)], fun j _ => by rw [pu_u2p _ _ _ _ (by decide)]⟩
section PVA1
variable {s : List (Nat × Nat)} {R : Nat → Nat → Option Nat} {b : Nat → Nat} {tl t B e : Nat}
theorem pz_MZ.eq {I I' : Nat → Nat → Int32} {z : pz_Z} (h : pz_MZ I b tl t B e z) (e71 : I' 71 = I 71) (e72 : I' 72 = I 72) (e73 : I' 73 = I 73) (e70 : ∀ k, k = 1 ∨ k = 8 ∨ k = 9 ∨ k = 11 ∨ k = 12 → I' 70 k = I 70 k) : pz_MZ I' b tl t B e z := by
  refine ⟨fun hz => ?_, fun hz => by rw [e70 9 (by omega)]; exact h.2 hz⟩
  obtain ⟨g1, g2, g3, g4, g5, g6, g7⟩ := h.1 hz
  exact ⟨pz_RS_eq e71 (e70 1 (by omega)) (e70 8 (by omega)) (e70 9 (by omega)) g1, by rw [e70 11 (by omega)]; exact g2, by rw [e73]; exact g3, by rw [e72]; exact g4, by rw [e70 12 (by omega)]; exact g5, g6, g7⟩
theorem pz_MZ.up {I : Nat → Nat → Int32} {z : pz_Z} {e' : Nat} (h : pz_MZ I b tl t B e z) (he : e ≤ e') : pz_MZ I b tl t B e' z := by
  refine ⟨fun hz => ?_, h.2⟩
  obtain ⟨g1, g2, g3, g4, g5, g6, g7⟩ := h.1 hz
  exact ⟨g1, g2, g3, g4, g5, g6, by omega⟩
theorem pz_m_put1 {I : Nat → Nat → Int32} {J : Nat → Nat → Int64} (hM : pu_M s R) (ht : t < 6) {c : List (Nat × Nat)} {n : Nat} {r : List (Nat × Nat × Nat)} (h : pz_MZ I b tl t B e (c, n, r, 0)) (hl : B + c.length < 400) {k : Nat} (hk : k ≤ 14) (h1 : 1 < k) :
    ∃ I', fb_m_puts 70 (nI k) 0 (s, I, J, R) = some (s, I', J, R) ∧ pz_MZ I' b tl t B (e + 1) (c ++ [(k, 0)], n, r, 0) ∧ pz_Mx t B I I' ∧ I' 70 = I 70 := by
  obtain ⟨I', a1, a2, a3⟩ := pz_m_put (J := J) (k := k) (v := 0) (x := nI k) (y := 0) hM ht h hl rfl rfl hk (by omega) (fun x => by omega)
  refine ⟨I', a1, a2, a3, ?_⟩
  obtain ⟨g1, g2, g3, _⟩ := h.1 rfl
  have hp := pz_puts (J := J) (k := k) (v := 0) (x := nI k) (y := 0) hM ht g2 g3 hl rfl rfl
  rw [a1] at hp
  injection hp with hp
  have hp := (Prod.mk.inj (Prod.mk.inj hp).2).1
  rw [hp, pu_u2p _ _ _ _ (by decide), pu_u2p _ _ _ _ (by decide)]
theorem pz_strength {x : Nat} (hx : x < 100) (w : tb_Hp) : fb_m_strength (nI x) w = some (nI (pz_sth x), w) := by
  have e13 : (nI x = (13 : Int32)) = (x = 13) := pu_eqI (b := 13) (by omega) (by omega)
  have e12 : (nI x = (12 : Int32)) = (x = 12) := pu_eqI (b := 12) (by omega) (by omega)
  have e11 : (nI x = (11 : Int32)) = (x = 11) := pu_eqI (b := 11) (by omega) (by omega)
  unfold fb_m_strength pz_sth
  simp only [e13, e12, e11]
  repeat' split
  all_goals rfl
theorem pz_sth_le (x : Nat) : pz_sth x ≤ 3 := by
  unfold pz_sth
  repeat' split
  all_goals omega
theorem pz_m_lay_l (hM : pu_M s R) (ht : t < 6) (he : e ≤ 400) {k : Nat} (hk1 : 1 ≤ k) (hk3 : k ≤ 3) : ∀ (st : List Nat) n (I : Nat → Nat → Int32) (J : Nat → Nat → Int64) c m r, pz_MW I b tl t B e st (c, m, r, 0) → st.length < n →
    ∃ I', fl_m_layDown_0 n 70 (nI k) (s, I, J, R) = some (s, I', J, R) ∧ pz_MW I' b tl t B e (pz_ld k st (c, m, r, 0)).1 (pz_ld k st (c, m, r, 0)).2 ∧ pz_My t B I I' ∧ I' 70 8 = I 70 8 := by
  intro st
  induction st with
  | nil =>
    intro n I J c m r h hn
    obtain ⟨n, rfl⟩ : ∃ x, n = x + 1 := ⟨n - 1, by have : 0 < n := hn; omega⟩
    refine ⟨I, ?_, h, pz_My.rf, rfl⟩
    have h16 : I 70 16 = 0 := h.2.1
    rw [fl_m_layDown_0.eq_2]
    simp only [pu_gI (pu_m70 hM), h16, Option.bind_some, show ¬ ((0 : Int32) < 0) by decide, ↓reduceIte]
  | cons x st ih =>
    intro n I J c m r h hn
    obtain ⟨n, rfl⟩ : ∃ x, n = x + 1 := ⟨n - 1, by omega⟩
    obtain ⟨⟨e', le, mz⟩, h16, h13, h10, k1, k2, k3⟩ := h
    rw [List.length_cons] at hn le h16
    have lt : ((0 : Int32) < nI (st.length + 1)) = (0 < st.length + 1) := pu_ltI (a := 0) (by omega) (by omega)
    have ls : (nI (pz_sth x) < nI k) = (pz_sth x < k) := pu_ltI (by have := pz_sth_le x; omega) (by omega)
    have g7 : B + c.length + r.length ≤ e' := (mz.1 rfl).2.2.2.2.2.2
    have rne := pz_ne mz
    have el : pz_ld k (x :: st) (c, m, r, 0) = if k ≤ pz_sth x then pz_ld k st (pz_em (c, m, r, 0) x 0) else (x :: st, (c, m, r, 0)) := rfl
    rw [el, fl_m_layDown_0.eq_2]
    simp only [pu_gI (pu_m70 hM), h16, Option.bind_some, lt, Nat.zero_lt_succ, ↓reduceIte, pu_gN (pu_m70 hM), pu_r15 hM, nI_pred, pu_lI (pu_m77 hM) (show st.length < 400 by omega) (show 400 ≤ 100000 by omega), k1, pz_strength (show x < 100 by omega), ls]
    by_cases hs : pz_sth x < k
    · rw [if_pos hs, if_neg (by omega)]
      exact ⟨I, rfl, ⟨⟨e', by rw [List.length_cons]; exact le, mz⟩, by rw [List.length_cons]; exact h16, h13, h10, k1, k2, k3⟩, pz_My.rf, rfl⟩
    · rw [if_neg hs, if_pos (by omega)]
      have x13 : 1 < x ∧ x ≤ 14 := by
        have : x ≠ 91 := fun y => by subst y; exact hs (show 0 < k by omega)
        omega
      have m1 : pz_MZ (tb_up2 I 70 16 (nI st.length)) b tl t B e' (c, m, r, 0) := mz.eq (pu_u2p _ _ _ _ (by decide)) (pu_u2p _ _ _ _ (by decide)) (pu_u2p _ _ _ _ (by decide)) (fun j hj => pu_u2k _ _ _ _ (by omega))
      obtain ⟨I2, a1, a2, a3, a4⟩ := pz_m_put1 (J := J) hM ht m1 (by omega) x13.2 x13.1
      have u16 : tb_up2 I 70 16 (nI st.length) 70 16 = nI st.length := pu_u2s _ _ _ _
      have u77 : tb_up2 I 70 16 (nI st.length) 77 st.length = nI x := by rw [pu_u2p _ _ _ _ (by decide)]; exact k1
      have v16 : I2 70 16 = nI st.length := by rw [a4]; exact u16
      have v77 : I2 77 = I 77 := by rw [a3.1 77 (by decide) (by decide) (by decide), pu_u2p _ _ _ _ (by decide)]
      have v77' : I2 77 st.length = nI x := by rw [v77]; exact k1
      have v13 : I2 70 13 = nI (pz_cn (x :: st)) := by rw [a4, pu_u2k _ _ _ _ (by decide)]; exact h13
      have v8 : I2 70 8 = I 70 8 := by rw [a4, pu_u2k _ _ _ _ (by decide)]
      have y2 : pz_My t B I I2 := (pz_My.u (by omega)).tr (pz_My.mx a3)
      have e11 : (nI x = (11 : Int32)) = (x = 11) := pu_eqI (b := 11) (by omega) (by omega)
      have em : pz_em (c, m, r, 0) x 0 = (c ++ [(x, 0)], m, r, 0) := rfl
      simp only [pu_pI (pu_m70 hM), Option.bind_some, pu_gN (pu_m70 hM), pu_r15 hM, pu_gI (pu_m70 hM), u16, pu_lI (pu_m77 hM) (show st.length < 400 by omega) (show 400 ≤ 100000 by omega), u77, pu_on (pu_m70 hM), a1, v16, v77', e11, v13]
      rw [em]
      have cn : pz_cn (x :: st) = pz_cn st + (if x = 11 then 1 else 0) := by
        show pz_cn st + (if x = 11 ∨ x = 91 then 1 else 0) = _
        by_cases y : x = 11
        · rw [if_pos (Or.inl y), if_pos y]
        · rw [if_neg (by omega), if_neg y]
      by_cases y : x = 11
      · rw [if_pos y] at cn
        rw [if_pos y, cn, nI_pred]
        have m3 : pz_MW (tb_up2 I2 70 13 (nI (pz_cn st))) b tl t B e st (c ++ [(x, 0)], m, r, 0) := ⟨⟨e' + 1, by omega, a2.eq (pu_u2p _ _ _ _ (by decide)) (pu_u2p _ _ _ _ (by decide)) (pu_u2p _ _ _ _ (by decide)) (fun j hj => pu_u2k _ _ _ _ (by omega))⟩, by rw [pu_u2k _ _ _ _ (by decide)]; exact v16, pu_u2s _ _ _ _, by omega, by rw [pu_u2p _ _ _ _ (by decide), v77]; exact k3⟩
        obtain ⟨I4, d1, d2, d3, d4⟩ := ih n _ J _ _ _ m3 (by omega)
        exact ⟨I4, d1, d2, (y2.tr (pz_My.u (by omega))).tr d3, by rw [d4, pu_u2k _ _ _ _ (by decide)]; exact v8⟩
      · rw [if_neg y] at cn
        rw [if_neg y]
        have m3 : pz_MW I2 b tl t B e st (c ++ [(x, 0)], m, r, 0) := ⟨⟨e' + 1, by omega, a2⟩, v16, by rw [v13, cn]; rfl, by omega, by rw [v77]; exact k3⟩
        obtain ⟨I4, d1, d2, d3, d4⟩ := ih n I2 J _ _ _ m3 (by omega)
        exact ⟨I4, d1, d2, y2.tr d3, by rw [d4]; exact v8⟩
theorem pz_m_lay (hM : pu_M s R) (ht : t < 6) (he : e ≤ 400) {k : Nat} (hk1 : 1 ≤ k) (hk3 : k ≤ 3) {st : List Nat} {I : Nat → Nat → Int32} {J : Nat → Nat → Int64} {c : List (Nat × Nat)} {m : Nat} {r : List (Nat × Nat × Nat)} (h : pz_MW I b tl t B e st (c, m, r, 0)) :
    ∃ I', fb_m_layDown 70 (nI k) (s, I, J, R) = some (s, I', J, R) ∧ pz_MW I' b tl t B e (pz_ld k st (c, m, r, 0)).1 (pz_ld k st (c, m, r, 0)).2 ∧ pz_My t B I I' ∧ I' 70 8 = I 70 8 := by
  obtain ⟨I', a1, a2⟩ := pz_m_lay_l hM ht he hk1 hk3 st 1048576 I J c m r h (by obtain ⟨⟨e', le, _⟩, _⟩ := h; omega)
  exact ⟨I', by unfold fb_m_layDown; rw [a1, Option.bind_some], a2⟩
theorem pz_m_inside_l (hM : pu_M s R) {I : Nat → Nat → Int32} {J : Nat → Nat → Int64} {L : Nat} (hL : L ≤ 400) (h16 : I 70 16 = nI L) : ∀ d i n, i + d = L → d < n → ∀ v : Bool, (v = true ↔ ∃ k, i ≤ k ∧ k < L ∧ I 77 k = 91) → fl_m_isInside_2 n 70 (nI i) (s, I, J, R) = some (pu_b v, (s, I, J, R)) := by
  intro d
  induction d with
  | zero =>
    intro i n hi hn v hv
    obtain ⟨n, rfl⟩ : ∃ x, n = x + 1 := ⟨n - 1, by omega⟩
    have : v = false := by
      cases v with
      | false => rfl
      | true => obtain ⟨k, k1, k2, _⟩ := hv.mp rfl; omega
    rw [this, fl_m_isInside_2.eq_2]
    simp only [pu_gI (pu_m70 hM), h16, Option.bind_some, pu_ltI (show i < 2147483648 by omega) (show L < 2147483648 by omega), show ¬ i < L by omega, ↓reduceIte, fj_m_isInside_j16, pu_bf]
  | succ d ih =>
    intro i n hi hn v hv
    obtain ⟨n, rfl⟩ : ∃ x, n = x + 1 := ⟨n - 1, by omega⟩
    rw [fl_m_isInside_2.eq_2]
    simp only [pu_gI (pu_m70 hM), h16, Option.bind_some, pu_ltI (show i < 2147483648 by omega) (show L < 2147483648 by omega), show i < L by omega, ↓reduceIte, pu_gN (pu_m70 hM), pu_r15 hM, pu_lI (pu_m77 hM) (show i < 400 by omega) (show 400 ≤ 100000 by omega), pu_R1]
    by_cases h91 : I 77 i = 91
    · rw [if_pos h91, hv.mpr ⟨i, by omega, by omega, h91⟩]
      rfl
    · rw [if_neg h91]
      refine ih (i + 1) n (by omega) (by omega) v (hv.trans ⟨?_, ?_⟩)
      · rintro ⟨k, k1, k2, k3⟩
        exact ⟨k, by have : k ≠ i := fun y => h91 (y ▸ k3); omega, k2, k3⟩
      · rintro ⟨k, k1, k2, k3⟩
        exact ⟨k, by omega, k2, k3⟩
theorem pz_m_inside (hM : pu_M s R) {I : Nat → Nat → Int32} {J : Nat → Nat → Int64} {st : List Nat} (hL : st.length ≤ 400) (h16 : I 70 16 = nI st.length) (hk : pz_skS (I 77) st) : fb_m_isInside 70 (s, I, J, R) = some (pu_b (pz_ins st), (s, I, J, R)) := by
  have h := pz_m_inside_l (J := J) hM hL h16 st.length 0 1048576 (by omega) (by omega) (pz_ins st) ((pz_ins_iff st hk).trans ⟨fun ⟨k, k1, k2⟩ => ⟨k, Nat.zero_le _, k1, k2⟩, fun ⟨k, _, k1, k2⟩ => ⟨k, k1, k2⟩⟩)
  rw [show nI 0 = 0 from rfl] at h
  unfold fb_m_isInside
  rw [h, Option.bind_some]
theorem pz_At.eq {I I' : Nat → Nat → Int32} {p : Nat} (h : pz_At I b tl p) (a : pz_My t B I I') (e8 : I' 70 8 = I 70 8) : pz_At I' b tl p := by
  obtain ⟨hb, hp, h32, e⟩ := h
  exact ⟨⟨by rw [a.2.1 1 (by decide) (by decide) (by decide) (by decide) (by decide) (by decide)]; exact hb.1, hb.2.1, fun k hk => by rw [a.1 71 (by decide) (by decide) (by decide) (by decide)]; exact hb.2.2 k hk⟩, hp, h32, e8.trans e⟩
end PVA1
