/-! ===== The class reads a rule: facts and tests ===== -/
def pz_al (g : pz_Z → pz_Z) : Nat → pz_Z → pz_Z
  | 0, z => z
  | d + 1, z => if pu_hk z.2.2.1 = 37 then pz_al g d (pz_em (g (pz_ad z)) 12 0) else z
def pz_ol (g : pz_Z → pz_Z) : Nat → Nat → pz_Z → pz_Z
  | 0, _, z => z
  | d + 1, a, z => if pu_hk (pz_ea (pz_al g 400 (g z)) a).2.2.1 = 36 then pz_ol g d 13 (pz_ad (pz_ea (pz_al g 400 (g z)) a)) else pz_ea (pz_al g 400 (g z)) a
def pz_te (g : pz_Z → pz_Z) (z : pz_Z) : pz_Z := pz_ol g 400 0 z
/-- two sums and a sign -/
def pz_cm (z : pz_Z) : pz_Z := if 12 ≤ pu_hk (pz_su z).2.2.1 ∧ pu_hk (pz_su z).2.2.1 ≤ 16 then pz_em (pz_su (pz_tp (pz_su z))) (pu_hk (pz_su z).2.2.1 - 6) 0 else pz_fz (pz_su z) 0
def pz_cl (y : pz_Z) : pz_Z := if pu_hk y.2.2.1 = 6 then pz_ad y else pz_fz y 0
/-- a fact, p deep -/
def pz_fa : Nat → Nat → pz_Z → pz_Z
  | 0, _, z => z
  | n + 1, p, z => if pu_hk z.2.2.1 = 38 ∨ pu_hk z.2.2.1 = 5 then (if 10 ≤ p then pz_fz z 2 else if pu_hk z.2.2.1 = 38 then pz_em (pz_fa n (p + 1) (pz_ad z)) 11 0 else pz_cl (pz_te (pz_fa n (p + 1)) (pz_ad z))) else pz_cm z
section PUF1
variable {s : List (Nat × Nat)} {R : Nat → Nat → Option Nat} {l : List (Nat × Nat × Nat)} {b : Nat}
theorem pz_RZ.p1 {I : Nat → Nat → Int32} {e : Nat} {z : pz_Z} (h : pz_RZ I l b e z) (hz : z.2.2.2 = 0) : 1 ≤ e := by
  have := h.ne hz
  have := (h.2.2.2 hz).2.2.2.2
  omega
/-- gh reads as g says -/
def pz_Sp (s : List (Nat × Nat)) (R : Nat → Nat → Option Nat) (l : List (Nat × Nat × Nat)) (b : Nat) (gh : tb_Hp → Option tb_Hp) (g : pz_Z → pz_Z) : Prop := ∀ (I : Nat → Nat → Int32) (J : Nat → Nat → Int64) (z : pz_Z) (e : Nat), e ≤ 400 → pz_RZ I l b (e + 1) z → ∃ I', gh (s, I, J, R) = some (s, I', J, R) ∧ pz_RZ I' l b (e + 1) (g z) ∧ pz_Rx b I I'
theorem pz_and_l (hX : pu_X s R) (hg : pu_Tg l) (he : pu_En l) {e : Nat} (h400 : e ≤ 400) {gh : Nat → Int32 → tb_Hp → Option tb_Hp} {g : pz_Z → pz_Z} (v1 v2 : Int32) (sp : pz_Sp s R l b (gh 15 v1) g) : ∀ d i n (I : Nat → Nat → Int32) (J : Nat → Nat → Int64) (z : pz_Z), i + d = 400 → d < n → pz_RZ I l b (e + 1) z →
    ∃ I', fl_rr_readTestO_10 gh n 15 v1 v2 (nI i) (s, I, J, R) = some (15, v1, v2, (s, I', J, R)) ∧ pz_RZ I' l b (e + 1) (pz_al g d z) ∧ pz_Rx b I I' := by
  intro d
  induction d with
  | zero =>
    intro i n I J z hi hn h
    obtain ⟨n, rfl⟩ : ∃ x, n = x + 1 := ⟨n - 1, by omega⟩
    have el : (nI i < (400 : Int32)) = (i < 400) := pu_ltI (b := 400) (by omega) (by omega)
    refine ⟨I, ?_, h, pz_Rx.rf⟩
    rw [fl_rr_readTestO_10.eq_2]
    simp only [el, show ¬ i < 400 by omega, ↓reduceIte]
  | succ d ih =>
    intro i n I J z hi hn h
    obtain ⟨n, rfl⟩ : ∃ x, n = x + 1 := ⟨n - 1, by omega⟩
    have el : (nI i < (400 : Int32)) = (i < 400) := pu_ltI (b := 400) (by omega) (by omega)
    have hk38 := pu_hk_le h.1 hg
    have e37 : (nI (pu_hk z.2.2.1) = (37 : Int32)) = (pu_hk z.2.2.1 = 37) := pu_eqI (b := 37) (by omega) (by omega)
    by_cases hj : pu_hk z.2.2.1 = 37
    · obtain ⟨I1, a1, a2, a3, a4⟩ := pz_adv (J := J) hX he h (by omega)
      have hp := a2.p1 a4
      obtain ⟨e, rfl⟩ : ∃ x, e = x + 1 := ⟨e - 1, by omega⟩
      obtain ⟨I2, b1, b2, b3⟩ := sp I1 J _ e (by omega) a2
      obtain ⟨I3, c1, c2, c3⟩ := pz_emit (J := J) (k := 12) (v := 0) (a := -37) hX b2 (b2.lt (by omega)) (by decide) (by omega) (by omega) (fun x => by omega)
      obtain ⟨I4, d1, d2, d3⟩ := ih (i + 1) n I3 J _ (by omega) (by omega) c2
      have ez : pz_al g (d + 1) z = pz_al g d (pz_em (g (pz_ad z)) 12 0) := by
        show (if _ then _ else _) = _
        rw [if_pos hj]
      rw [ez]
      refine ⟨I4, ?_, d2, ((a3.tr b3).tr c3).tr d3⟩
      rw [fl_rr_readTestO_10.eq_2]
      simp only [el, show i < 400 by omega, ↓reduceIte, pu_gN (pu_c15 hX), pu_f15_0 hX, Option.bind_some, pu_gI (pu_c2 hX), h.kd, e37, hj, pu_on (pu_c2 hX), a1, pu_on (pu_c15 hX), b1, c1, pu_R1, d1, show nI 37 = 37 from rfl]
    · have ez : pz_al g (d + 1) z = z := by
        show (if _ then _ else _) = _
        rw [if_neg hj]
      rw [ez]
      refine ⟨I, ?_, h, pz_Rx.rf⟩
      rw [fl_rr_readTestO_10.eq_2]
      simp only [el, show i < 400 by omega, ↓reduceIte, pu_gN (pu_c15 hX), pu_f15_0 hX, Option.bind_some, pu_gI (pu_c2 hX), h.kd, e37, hj]
theorem pz_or_l (hX : pu_X s R) (hg : pu_Tg l) (he : pu_En l) {e : Nat} (h400 : e ≤ 400) {gh : Nat → Int32 → tb_Hp → Option tb_Hp} {g : pz_Z → pz_Z} (v1 : Int32) (sp : pz_Sp s R l b (gh 15 v1) g) : ∀ d i n (I : Nat → Nat → Int32) (J : Nat → Nat → Int64) (a : Nat) (z : pz_Z), i + d = 400 → d < n → (i = 0 ↔ a = 0) → (a ≠ 0 → a = 13) → (a ≠ 0 → 1 ≤ e) → pz_RZ I l b (if a = 0 then e + 1 else e) z →
    ∃ I', fl_rr_readTestO_2 gh n 15 v1 (nI i) (s, I, J, R) = some (s, I', J, R) ∧ pz_RZ I' l b (e + 1) (pz_ol g d a z) ∧ pz_Rx b I I' := by
  intro d
  induction d with
  | zero =>
    intro i n I J a z hi hn ha hv h1 h
    obtain ⟨n, rfl⟩ : ∃ x, n = x + 1 := ⟨n - 1, by omega⟩
    have el : (nI i < (400 : Int32)) = (i < 400) := pu_ltI (b := 400) (by omega) (by omega)
    rw [if_neg (by omega)] at h
    refine ⟨I, ?_, h.dn, pz_Rx.rf⟩
    rw [fl_rr_readTestO_2.eq_2]
    simp only [el, show ¬ i < 400 by omega, ↓reduceIte, fj_rr_readTestO_j45]
  | succ d ih =>
    intro i n I J a z hi hn ha hv h1 h
    obtain ⟨n, rfl⟩ : ∃ x, n = x + 1 := ⟨n - 1, by omega⟩
    have el : (nI i < (400 : Int32)) = (i < 400) := pu_ltI (b := 400) (by omega) (by omega)
    have e0 : ((0 : Int32) < nI i) = (0 < i) := pu_ltI (a := 0) (by omega) (by omega)
    obtain ⟨B, hB, hB4⟩ : ∃ B, (if a = 0 then e + 1 else e) = B + 1 ∧ B ≤ 400 := by
      by_cases ha0 : a = 0
      · exact ⟨e, by rw [if_pos ha0], h400⟩
      · exact ⟨e - 1, by rw [if_neg ha0]; have := h1 ha0; omega, by omega⟩
    rw [hB] at h
    obtain ⟨I1, a1, a2, a3⟩ := sp I J z B hB4 h
    obtain ⟨I2, b1, b2, b3⟩ := pz_and_l hX hg he hB4 v1 (nI i) sp 400 0 1048576 I1 J _ (by omega) (by omega) a2
    rw [show nI 0 = 0 from rfl] at b1
    rw [← hB] at b2
    have em : ∃ I3, (if 0 < i then (fb_rr_emit 15 (-36) (s, I2, J, R)).bind (fun x9 => fj_rr_readTestO_j34 gh (fl_rr_readTestO_2 gh n) 15 v1 (nI i) x9) else fj_rr_readTestO_j34 gh (fl_rr_readTestO_2 gh n) 15 v1 (nI i) (s, I2, J, R)) = fj_rr_readTestO_j34 gh (fl_rr_readTestO_2 gh n) 15 v1 (nI i) (s, I3, J, R) ∧ pz_RZ I3 l b (e + 1) (pz_ea (pz_al g 400 (g z)) a) ∧ pz_Rx b I2 I3 := by
      by_cases ha0 : a = 0
      · rw [if_neg (by omega)]
        refine ⟨I2, rfl, ?_, pz_Rx.rf⟩
        unfold pz_ea
        rw [if_pos ha0]
        rw [if_pos ha0] at b2
        exact b2
      · rw [if_neg ha0] at b2
        obtain ⟨I3, c1, c2, c3⟩ := pz_emit (J := J) (k := a) (v := 0) (a := -36) hX b2 (b2.lt h400) (by rw [hv ha0]; decide) (by have := hv ha0; omega) (by omega) (fun x => by have := hv ha0; omega)
        refine ⟨I3, ?_, ?_, c3⟩
        · rw [if_pos (by omega), c1, Option.bind_some]
        · unfold pz_ea
          rw [if_neg ha0]
          exact c2
    obtain ⟨I3, c1, c2, c3⟩ := em
    have hk38 := pu_hk_le c2.1 hg
    have start : fl_rr_readTestO_2 gh (n + 1) 15 v1 (nI i) (s, I, J, R) = fj_rr_readTestO_j34 gh (fl_rr_readTestO_2 gh n) 15 v1 (nI i) (s, I3, J, R) := by
      rw [fl_rr_readTestO_2.eq_2, ← c1]
      simp only [el, show i < 400 by omega, ↓reduceIte, pu_on (pu_c15 hX), a1, Option.bind_some, b1, e0]
    rw [start]
    have ez : pz_ol g (d + 1) a z = if pu_hk (pz_ea (pz_al g 400 (g z)) a).2.2.1 = 36 then pz_ol g d 13 (pz_ad (pz_ea (pz_al g 400 (g z)) a)) else pz_ea (pz_al g 400 (g z)) a := rfl
    rw [ez]
    have r3 := (a3.tr b3).tr c3
    generalize pz_ea (pz_al g 400 (g z)) a = y at *
    have e36 : (nI (pu_hk y.2.2.1) = (36 : Int32)) = (pu_hk y.2.2.1 = 36) := pu_eqI (b := 36) (by omega) (by omega)
    by_cases h36 : pu_hk y.2.2.1 = 36
    · obtain ⟨I4, d1, d2, d3, d4⟩ := pz_adv (J := J) hX he c2 (by omega)
      have hp := d2.p1 d4
      obtain ⟨I5, g1, g2, g3⟩ := ih (i + 1) n I4 J 13 _ (by omega) (by omega) (by omega) (fun _ => rfl) (fun _ => hp) (by rw [if_neg (by decide)]; exact d2)
      rw [if_pos h36]
      refine ⟨I5, ?_, g2, (r3.tr d3).tr g3⟩
      unfold fj_rr_readTestO_j34
      simp only [pu_gN (pu_c15 hX), pu_f15_0 hX, Option.bind_some, pu_gI (pu_c2 hX), c2.kd, e36, h36, ↓reduceIte, pu_on (pu_c2 hX), d1, pu_R1]
      exact g1
    · rw [if_neg h36]
      refine ⟨I3, ?_, c2, r3⟩
      unfold fj_rr_readTestO_j34 fj_rr_readTestO_j39
      simp only [pu_gN (pu_c15 hX), pu_f15_0 hX, Option.bind_some, pu_gI (pu_c2 hX), c2.kd, e36, h36, ↓reduceIte]
theorem pz_test (hX : pu_X s R) (hg : pu_Tg l) (he : pu_En l) {gh : Nat → Int32 → tb_Hp → Option tb_Hp} {g : pz_Z → pz_Z} {v1 : Int32} (sp : pz_Sp s R l b (gh 15 v1) g) : pz_Sp s R l b (fb_rr_readTestO gh 15 v1) (pz_te g) := by
  intro I J z e h400 h
  obtain ⟨I', a1, a2, a3⟩ := pz_or_l hX hg he h400 v1 sp 400 0 1048576 I J 0 z (by omega) (by omega) (by omega) (fun x => absurd rfl x) (fun x => absurd rfl x) (by rw [if_pos rfl]; exact h)
  rw [show nI 0 = 0 from rfl] at a1
  refine ⟨I', ?_, a2, a3⟩
  unfold fb_rr_readTestO
  rw [a1, Option.bind_some]
end PUF1
