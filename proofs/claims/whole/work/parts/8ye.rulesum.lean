/-! ===== The class reads a rule: sums ===== -/
theorem pz_within {k lo hi : Nat} {x y : Int32} (hx : x = nI lo) (hy : y = nI hi) (hk : k ≤ 1000) (hlo : lo ≤ 1000) (hhi : hi ≤ 1000) (w : tb_Hp) : fb_x_within (nI k) x y w = some (pu_b (decide (lo ≤ k ∧ k ≤ hi)), w) := by
  subst hx hy
  unfold fb_x_within
  simp only [pu_ltI (show k < 2147483648 by omega) (show lo < 2147483648 by omega), pu_leI (show k < 2147483648 by omega) (show hi < 2147483648 by omega)]
  by_cases x1 : k < lo
  · rw [if_pos x1, decide_eq_false (by omega)]; rfl
  · rw [if_neg x1]
    by_cases x2 : k ≤ hi
    · rw [if_pos x2, decide_eq_true (by omega)]; rfl
    · rw [if_neg x2, decide_eq_false (by omega)]; rfl
theorem pz_jo_en {k : Nat} (h1 : 9 ≤ k) (h2 : k ≤ 11) : -(nI k) = pu_en (pz_jo k) 0 ∧ pz_jo k ≤ 14 ∧ pz_jo k ≠ 1 := by
  have : k = 9 ∨ k = 10 ∨ k = 11 := by omega
  rcases this with x | x | x <;> subst x <;> decide +kernel
section PUE1
variable {s : List (Nat × Nat)} {R : Nat → Nat → Option Nat} {l : List (Nat × Nat × Nat)} {b : Nat}
theorem pz_RZ.lt {I : Nat → Nat → Int32} {e : Nat} {z : pz_Z} (h : pz_RZ I l b e z) (he : e ≤ 400) (hz : z.2.2.2 = 0) : b + z.1.length < 400 := by
  have := h.ne hz
  have := (h.2.2.2 hz).2.2.2.2
  omega
theorem pz_RZ.pos {I : Nat → Nat → Int32} {e : Nat} {z : pz_Z} (h : pz_RZ I l b e z) (hk : pu_hk z.2.2.1 ≠ 0) : 1 ≤ e := by
  rcases h.2.1 with ⟨x, y⟩ | ⟨_, x⟩
  · have := h.ne x
    have := (h.2.2.2 x).2.2.2.2
    omega
  · rw [x] at hk; exact absurd rfl hk
theorem pz_term_l (hX : pu_X s R) (hg : pu_Tg l) (he : pu_En l) {e : Nat} (h401 : e ≤ 401) (v1 v2 : Int32) : ∀ d i n (I : Nat → Nat → Int32) (J : Nat → Nat → Int64) (z : pz_Z), i + d = 400 → d < n → pz_RZ I l b e z →
    ∃ I', fl_rr_readSum_11 n 15 v1 v2 (nI i) (s, I, J, R) = some (15, v1, v2, (s, I', J, R)) ∧ pz_RZ I' l b e (pz_tl d z) ∧ pz_Rx b I I' := by
  intro d
  induction d with
  | zero =>
    intro i n I J z hi hn h
    obtain ⟨n, rfl⟩ : ∃ x, n = x + 1 := ⟨n - 1, by omega⟩
    have el : (nI i < (400 : Int32)) = (i < 400) := pu_ltI (b := 400) (by omega) (by omega)
    refine ⟨I, ?_, h, pz_Rx.rf⟩
    rw [fl_rr_readSum_11.eq_2]
    simp only [el, show ¬ i < 400 by omega, ↓reduceIte]
  | succ d ih =>
    intro i n I J z hi hn h
    obtain ⟨n, rfl⟩ : ∃ x, n = x + 1 := ⟨n - 1, by omega⟩
    have el : (nI i < (400 : Int32)) = (i < 400) := pu_ltI (b := 400) (by omega) (by omega)
    have hk38 := pu_hk_le h.1 hg
    have ew := fun w => pz_within (k := pu_hk z.2.2.1) (lo := 9) (hi := 11) (x := 9) (y := 11) rfl rfl (by omega) (by omega) (by omega) w
    by_cases hj : 9 ≤ pu_hk z.2.2.1 ∧ pu_hk z.2.2.1 ≤ 11
    · have hp := h.pos (by omega)
      obtain ⟨e, rfl⟩ : ∃ x, e = x + 1 := ⟨e - 1, by omega⟩
      obtain ⟨I1, a1, a2, a3, _⟩ := pz_adv (J := J) hX he h (by omega)
      obtain ⟨I2, b1, b2, b3⟩ := pz_value (J := J) hX hg he (by omega) a2
      obtain ⟨j1, j2, j3⟩ := pz_jo_en hj.1 hj.2
      obtain ⟨I3, c1, c2, c3⟩ := pz_emit (J := J) hX b2 (b2.lt (by omega)) j1 j2 (by omega) (fun x => absurd x j3)
      obtain ⟨I4, d1, d2, d3⟩ := ih (i + 1) n I3 J _ (by omega) (by omega) c2
      have ez : pz_tl (d + 1) z = pz_tl d (pz_em (pz_vl (pz_ad z)) (pz_jo (pu_hk z.2.2.1)) 0) := by
        show (if _ then _ else _) = _
        rw [if_pos hj]
      rw [ez]
      refine ⟨I4, ?_, d2, ((a3.tr b3).tr c3).tr d3⟩
      rw [fl_rr_readSum_11.eq_2]
      simp only [el, show i < 400 by omega, ↓reduceIte, pu_gN (pu_c15 hX), pu_f15_0 hX, Option.bind_some, pu_gI (pu_c2 hX), h.kd, ew, decide_eq_true hj, pu_bt, show ¬ ((1 : Int32) = 0) by decide, pu_on (pu_c2 hX), a1, pu_on (pu_c15 hX), b1, c1, pu_R1, d1]
    · have ez : pz_tl (d + 1) z = z := by
        show (if _ then _ else _) = _
        rw [if_neg hj]
      rw [ez]
      refine ⟨I, ?_, h, pz_Rx.rf⟩
      rw [fl_rr_readSum_11.eq_2]
      simp only [el, show i < 400 by omega, ↓reduceIte, pu_gN (pu_c15 hX), pu_f15_0 hX, Option.bind_some, pu_gI (pu_c2 hX), h.kd, ew, decide_eq_false hj, pu_bf]
theorem pz_sum_l (hX : pu_X s R) (hg : pu_Tg l) (he : pu_En l) {e : Nat} (h400 : e ≤ 400) : ∀ d i n (I : Nat → Nat → Int32) (J : Nat → Nat → Int64) (a : Nat) (v1 : Int32) (z : pz_Z), i + d = 400 → d < n → (i = 0 ↔ a = 0) → (a ≠ 0 → (a = 2 ∨ a = 3) ∧ -v1 = pu_en a 0) → pz_RZ I l b (if a = 0 then e + 1 else e) z →
    ∃ I', fl_rr_readSum_4 n 15 v1 (nI i) (s, I, J, R) = some (s, I', J, R) ∧ pz_RZ I' l b (e + 1) (pz_sl d a z) ∧ pz_Rx b I I' := by
  intro d
  induction d with
  | zero =>
    intro i n I J a v1 z hi hn ha hv h
    obtain ⟨n, rfl⟩ : ∃ x, n = x + 1 := ⟨n - 1, by omega⟩
    have el : (nI i < (400 : Int32)) = (i < 400) := pu_ltI (b := 400) (by omega) (by omega)
    rw [if_neg (by omega)] at h
    refine ⟨I, ?_, h.dn, pz_Rx.rf⟩
    rw [fl_rr_readSum_4.eq_2]
    simp only [el, show ¬ i < 400 by omega, ↓reduceIte, fj_rr_readSum_j58]
  | succ d ih =>
    intro i n I J a v1 z hi hn ha hv h
    obtain ⟨n, rfl⟩ : ∃ x, n = x + 1 := ⟨n - 1, by omega⟩
    have el : (nI i < (400 : Int32)) = (i < 400) := pu_ltI (b := 400) (by omega) (by omega)
    have e0 : ((0 : Int32) < nI i) = (0 < i) := pu_ltI (a := 0) (by omega) (by omega)
    have hB : (if a = 0 then e + 1 else e) ≤ 401 := by split <;> omega
    obtain ⟨I1, a1, a2, a3⟩ := pz_value (J := J) hX hg he hB h
    obtain ⟨I2, b1, b2, b3⟩ := pz_term_l hX hg he hB v1 (nI i) 400 0 1048576 I1 J _ (by omega) (by omega) a2
    rw [show nI 0 = 0 from rfl] at b1
    -- the sign that waited is written
    have em : ∃ I3, (if 0 < i then (fb_rr_emit 15 (-v1) (s, I2, J, R)).bind (fun x12 => fj_rr_readSum_j42 (fl_rr_readSum_4 n) 15 (nI i) x12) else fj_rr_readSum_j42 (fl_rr_readSum_4 n) 15 (nI i) (s, I2, J, R)) = fj_rr_readSum_j42 (fl_rr_readSum_4 n) 15 (nI i) (s, I3, J, R) ∧ pz_RZ I3 l b (e + 1) (pz_ea (pz_tl 400 (pz_vl z)) a) ∧ pz_Rx b I2 I3 := by
      by_cases ha0 : a = 0
      · rw [if_neg (by omega)]
        refine ⟨I2, rfl, ?_, pz_Rx.rf⟩
        unfold pz_ea
        rw [if_pos ha0]
        rw [if_pos ha0] at b2
        exact b2
      · rw [if_neg ha0] at b2
        obtain ⟨w1, w2⟩ := hv ha0
        obtain ⟨I3, c1, c2, c3⟩ := pz_emit (J := J) hX b2 (b2.lt h400) w2 (by omega) (by omega) (fun x => by omega)
        refine ⟨I3, ?_, ?_, c3⟩
        · rw [if_pos (by omega), c1, Option.bind_some]
        · unfold pz_ea
          rw [if_neg ha0]
          exact c2
    obtain ⟨I3, c1, c2, c3⟩ := em
    have hk38 := pu_hk_le c2.1 hg
    have start : fl_rr_readSum_4 (n + 1) 15 v1 (nI i) (s, I, J, R) = fj_rr_readSum_j42 (fl_rr_readSum_4 n) 15 (nI i) (s, I3, J, R) := by
      rw [fl_rr_readSum_4.eq_2, ← c1]
      simp only [el, show i < 400 by omega, ↓reduceIte, pu_on (pu_c15 hX), a1, Option.bind_some, b1, e0]
    rw [start]
    have ez : pz_sl (d + 1) a z = if pu_hk (pz_ea (pz_tl 400 (pz_vl z)) a).2.2.1 = 7 then pz_sl d 2 (pz_ad (pz_ea (pz_tl 400 (pz_vl z)) a)) else if pu_hk (pz_ea (pz_tl 400 (pz_vl z)) a).2.2.1 = 8 then pz_sl d 3 (pz_ad (pz_ea (pz_tl 400 (pz_vl z)) a)) else pz_ea (pz_tl 400 (pz_vl z)) a := rfl
    rw [ez]
    have r3 := (a3.tr b3).tr c3
    generalize pz_ea (pz_tl 400 (pz_vl z)) a = y at *
    have e7 : (nI (pu_hk y.2.2.1) = (7 : Int32)) = (pu_hk y.2.2.1 = 7) := pu_eqI (b := 7) (by omega) (by omega)
    have e8 : (nI (pu_hk y.2.2.1) = (8 : Int32)) = (pu_hk y.2.2.1 = 8) := pu_eqI (b := 8) (by omega) (by omega)
    by_cases h7 : pu_hk y.2.2.1 = 7
    · obtain ⟨I4, d1, d2, d3, _⟩ := pz_adv (J := J) hX he c2 (by omega)
      obtain ⟨I5, g1, g2, g3⟩ := ih (i + 1) n I4 J 2 7 _ (by omega) (by omega) (by omega) (fun _ => ⟨Or.inl rfl, by decide⟩) (by rw [if_neg (by decide)]; exact d2)
      rw [if_pos h7]
      refine ⟨I5, ?_, g2, (r3.tr d3).tr g3⟩
      unfold fj_rr_readSum_j42
      simp only [pu_gN (pu_c15 hX), pu_f15_0 hX, Option.bind_some, pu_gI (pu_c2 hX), c2.kd, e7, h7, ↓reduceIte, pu_on (pu_c2 hX), d1, pu_R1]
      exact g1
    · rw [if_neg h7]
      by_cases h8 : pu_hk y.2.2.1 = 8
      · obtain ⟨I4, d1, d2, d3, _⟩ := pz_adv (J := J) hX he c2 (by omega)
        obtain ⟨I5, g1, g2, g3⟩ := ih (i + 1) n I4 J 3 8 _ (by omega) (by omega) (by omega) (fun _ => ⟨Or.inr rfl, by decide⟩) (by rw [if_neg (by decide)]; exact d2)
        rw [if_pos h8]
        refine ⟨I5, ?_, g2, (r3.tr d3).tr g3⟩
        unfold fj_rr_readSum_j42
        simp only [pu_gN (pu_c15 hX), pu_f15_0 hX, Option.bind_some, pu_gI (pu_c2 hX), c2.kd, e7, e8, h7, if_pos h8, ↓reduceIte, pu_on (pu_c2 hX), d1, pu_R1]
        rw [h8]
        exact g1
      · rw [if_neg h8]
        refine ⟨I3, ?_, c2, r3⟩
        unfold fj_rr_readSum_j42 fj_rr_readSum_j52
        simp only [pu_gN (pu_c15 hX), pu_f15_0 hX, Option.bind_some, pu_gI (pu_c2 hX), c2.kd, e7, e8, h7, h8, ↓reduceIte]
theorem pz_sum {I : Nat → Nat → Int32} {J : Nat → Nat → Int64} {e : Nat} {z : pz_Z} (hX : pu_X s R) (hg : pu_Tg l) (he : pu_En l) (h400 : e ≤ 400) (h : pz_RZ I l b (e + 1) z) : ∃ I', fb_rr_readSum 15 (s, I, J, R) = some (s, I', J, R) ∧ pz_RZ I' l b (e + 1) (pz_su z) ∧ pz_Rx b I I' := by
  obtain ⟨I', a1, a2, a3⟩ := pz_sum_l hX hg he h400 400 0 1048576 I J 0 0 z (by omega) (by omega) (by omega) (fun x => absurd rfl x) (by rw [if_pos rfl]; exact h)
  rw [show nI 0 = 0 from rfl] at a1
  refine ⟨I', ?_, a2, a3⟩
  unfold fb_rr_readSum
  rw [a1, Option.bind_some]
end PUE1
