/-! ===== Years that are asked ===== -/
def pu_ys (ro : Option pu_Ru) : Nat → pu_A → pu_A
  | 0, A => A
  | n + 1, A => pu_ys ro n (pu_year ro A)
theorem pu_ys_s (ro : Option pu_Ru) (n : Nat) (A : pu_A) : pu_ys ro (n + 1) A = pu_ys ro n (pu_year ro A) := rfl
theorem pu_ys_wf {ro : Option pu_Ru} (n : Nat) : ∀ {A : pu_A}, pu_wf A → pu_wf (pu_ys ro n A) := by
  induction n with
  | zero => intro A h; exact h
  | succ n ih => intro A h; exact ih (pu_year_wf h)
/-- behind giving way nobody is weak -/
theorem pu_gw_fix : ∀ d (A : pu_A), pu_ct (A.2 1) 10 < d → pu_wf A → ∀ k, pu_weak (pu_gw d A) k = false := by
  intro d
  induction d with
  | zero => intro A h; omega
  | succ d ih =>
    intro A hc wf k
    rw [pu_gw_s]
    by_cases hw : pu_mk (pu_weak A) 10 = 0
    · rw [if_pos hw]
      rw [pu_mk0 (by omega)] at hw
      by_cases hk : k < 10
      · exact hw k hk
      · unfold pu_weak
        have h5 := wf.1
        rw [pu_nost wf (by omega)]; rfl
    · rw [if_neg hw]
      refine ih _ ?_ (pu_fell_wf wf _) k
      have hlt : pu_ct ((pu_fell A (pu_weak A)).2 1) 10 < pu_ct (A.2 1) 10 := by
        refine pu_ct_lt 10 (fun k _ hk => ?_) ?_
        · have hk : (A.2 1 k && !pu_weak A k) = true := hk
          rw [Bool.and_eq_true] at hk
          exact hk.1
        · have hne : ¬ ∀ k, k < 10 → pu_weak A k = false := fun hall => hw (by rw [pu_mk0 (by omega)]; exact hall)
          obtain ⟨k, hk⟩ := Classical.not_forall.mp hne
          obtain ⟨hk10, hk2⟩ := Classical.not_imp.mp hk
          have hk3 : pu_weak A k = true := by cases e : pu_weak A k <;> simp_all
          refine ⟨k, hk10, ?_, ?_⟩
          · unfold pu_weak at hk3
            rw [Bool.and_eq_true] at hk3
            exact hk3.1
          · show (A.2 1 k && !pu_weak A k) = false
            rw [hk3]; simp
      omega
theorem pu_year_fix {ro : Option pu_Ru} {A : pu_A} (wf : pu_wf A) (k : Nat) : pu_weak (pu_year ro A) k = false := by
  have h := pu_gw_fix 11 (pu_fade (pu_go ro A)) (by have := pu_ct_le ((pu_fade (pu_go ro A)).2 1) 10; omega) (pu_fd_wf (pu_go_wf wf) _) k
  exact h
/-- no line is up, and nobody is weak: nothing changes any more -/
def pu_dead (A : pu_A) : Prop := (∀ l, A.2 0 l = false) ∧ (∀ h, pu_weak A h = false)
theorem pu_dead_y {ro : Option pu_Ru} {A : pu_A} (d : pu_dead A) : pu_dead (pu_year ro A) ∧ (∀ l, (pu_year ro A).2 0 l = A.2 0 l) ∧ (∀ h, (pu_year ro A).2 1 h = A.2 1 h) := by
  have hup : ∀ l, (pu_fade (pu_go ro A)).2 0 l = false := by
    intro l
    show ((A.2 0 l && pu_kp ro A l) && _) = false
    rw [d.1 l]; rfl
  have hw : ∀ h, pu_weak (pu_fade (pu_go ro A)) h = pu_weak A h := by
    intro h
    unfold pu_weak pu_hold
    have e1 : pu_sm (fun l => if pu_at (pu_fade (pu_go ro A)) l h then (pu_fade (pu_go ro A)).1 5 l else 0) ((pu_fade (pu_go ro A)).1 0 3) = 0 := by
      have : ∀ n, pu_sm (fun l => if pu_at (pu_fade (pu_go ro A)) l h then (pu_fade (pu_go ro A)).1 5 l else 0) n = 0 := by
        intro n
        induction n with
        | zero => rfl
        | succ n ih =>
          rw [pu_sm_s, ih]
          unfold pu_at
          rw [hup n]
          rfl
      exact this _
    have e2 : pu_sm (fun l => if pu_at A l h then A.1 5 l else 0) (A.1 0 3) = 0 := by
      have : ∀ n, pu_sm (fun l => if pu_at A l h then A.1 5 l else 0) n = 0 := by
        intro n
        induction n with
        | zero => rfl
        | succ n ih =>
          rw [pu_sm_s, ih]
          unfold pu_at
          rw [d.1 n]
          rfl
      exact this _
    rw [e1, e2]
    rfl
  have hg : pu_gw 11 (pu_fade (pu_go ro A)) = pu_fade (pu_go ro A) := by
    rw [pu_gw_s, if_pos]
    rw [pu_mk0 (by omega)]
    intro k _
    rw [hw k]
    exact d.2 k
  have e : pu_year ro A = pu_n (pu_fade (pu_go ro A)) 0 2 (A.1 0 2 + 1) := by
    unfold pu_year
    rw [hg]
  rw [e]
  refine ⟨⟨hup, fun h => ?_⟩, fun l => ?_, fun h => rfl⟩
  · rw [pu_weak_n, hw]
    exact d.2 h
  · rw [d.1 l]
    exact hup l
theorem pu_dead_ys {ro : Option pu_Ru} (n : Nat) : ∀ {A : pu_A}, pu_dead A → pu_dead (pu_ys ro n A) ∧ (∀ l, (pu_ys ro n A).2 0 l = A.2 0 l) ∧ (∀ h, (pu_ys ro n A).2 1 h = A.2 1 h) := by
  induction n with
  | zero => intro A d; exact ⟨d, fun _ => rfl, fun _ => rfl⟩
  | succ n ih =>
    intro A d
    obtain ⟨a, b, c⟩ := pu_dead_y (ro := ro) d
    obtain ⟨a2, b2, c2⟩ := ih a
    exact ⟨a2, fun l => (b2 l).trans (b l), fun h => (c2 h).trans (c h)⟩
theorem pu_allPull_0 {A : pu_A} (h : ∀ l, A.2 0 l = false) : pu_allPull A = 0 := by
  unfold pu_allPull
  have : ∀ n, pu_sm (fun l => if A.2 0 l then A.1 5 l else 0) n = 0 := by
    intro n
    induction n with
    | zero => rfl
    | succ n ih => rw [pu_sm_s, ih, h n]; rfl
  exact this _
/-- alike in what stands, what is up, how it pulls -/
def pu_al2 (A B : pu_A) : Prop := (∀ l, A.2 0 l = B.2 0 l) ∧ (∀ h, A.2 1 h = B.2 1 h) ∧ pu_allPull A = pu_allPull B
theorem pu_no_up {A : pu_A} (wf : pu_wf A) (h : pu_mk (A.2 0) 8 = 0) : ∀ l, A.2 0 l = false := by
  intro l
  rw [pu_mk0 (by omega)] at h
  have h5 := wf.2.2.1
  by_cases hl : l < 8
  · exact h l hl
  · exact pu_noup wf (by omega)
/-! ranges -/
def pu_wi (a lo hi : Int32) : Bool := !decide (a < lo) && decide (a ≤ hi)
theorem pu_x_within (a lo hi : Int32) (w : tb_Hp) : fb_x_within a lo hi w = some (pu_b (pu_wi a lo hi), w) := by
  unfold fb_x_within pu_wi
  by_cases h1 : a < lo
  · simp only [h1, ↓reduceIte, decide_true, Bool.not_true, Bool.false_and, pu_bf]
  · by_cases h2 : a ≤ hi
    · simp only [h1, h2, ↓reduceIte, decide_true, decide_false, Bool.not_false, Bool.true_and, pu_bt]
    · simp only [h1, h2, ↓reduceIte, decide_false, Bool.not_false, Bool.true_and, pu_bf]
theorem pu_m_in (a lo hi : Int32) {L H : Int64} (hL : L = lo.toInt64) (hH : H = hi.toInt64) (w : tb_Hp) : fb_m_in a.toInt64 L H w = some (pu_b (pu_wi a lo hi), w) := by
  subst hL hH
  have e1 : (a.toInt64 < lo.toInt64) = (a < lo) := by
    apply propext
    rw [Int64.lt_iff_toInt_lt, Int32.toInt_toInt64, Int32.toInt_toInt64, Int32.lt_iff_toInt_lt]
  have e2 : (a.toInt64 ≤ hi.toInt64) = (a ≤ hi) := by
    apply propext
    rw [Int64.le_iff_toInt_le, Int32.toInt_toInt64, Int32.toInt_toInt64, Int32.le_iff_toInt_le]
  unfold fb_m_in pu_wi
  simp only [lg_cmp_lt, lg_cmp_le, e1, e2]
  by_cases h1 : a < lo
  · simp only [h1, ↓reduceIte, decide_true, Bool.not_true, Bool.false_and, pu_bf]
  · by_cases h2 : a ≤ hi
    · simp only [h1, h2, ↓reduceIte, decide_true, decide_false, Bool.not_false, Bool.true_and, pu_bt]
    · simp only [h1, h2, ↓reduceIte, decide_false, Bool.not_false, Bool.true_and, pu_bf]
theorem pu_wi_n {a lo hi : Int32} {h : Nat} (hw : pu_wi a lo hi = true) (hl : 0 ≤ lo) (hh : hi = nI h) (hb : h < 2147483648) : ∃ n, n ≤ h ∧ a = nI n ∧ ¬ a < lo := by
  unfold pu_wi at hw
  rw [Bool.and_eq_true, Bool.not_eq_true', decide_eq_false_iff_not, decide_eq_true_eq] at hw
  have h0 : ¬ a < 0 := by
    intro hc
    rw [Int32.lt_iff_toInt_lt] at hc hw
    rw [Int32.le_iff_toInt_le] at hl
    have z : (0 : Int32).toInt = 0 := rfl
    omega
  obtain ⟨n, hn, rfl⟩ := nI_of h0
  refine ⟨n, ?_, rfl, hw.1⟩
  have := hw.2
  rw [hh, pu_leI (by omega) hb] at this
  exact this
section PUO
variable {s : List (Nat × Nat)} {R : Nat → Nat → Option Nat}
theorem pu_m_passesAll_l (hM : pu_M s R) {ro : Option pu_Ru} {N : Nat} (hN : N < 2147483648) : ∀ d i n I J A, i + d = N → d < n → pu_Q (I 80) A → pu_wf A → pu_FM I ro →
    ∃ I' J', fl_m_passesAll_2 n 70 (nI N) (nI i) (s, I, J, R) = some (s, I', J', R) ∧ pu_Q (I' 80) (pu_ys ro d A) ∧ pu_Pf I I' J J' := by
  intro d
  induction d with
  | zero =>
    intro i n I J A hi hn q wf hF
    obtain ⟨n, rfl⟩ : ∃ z, n = z + 1 := ⟨n - 1, by omega⟩
    unfold fl_m_passesAll_2
    simp only [pu_ltI (show i < 2147483648 by omega) hN, show ¬ i < N by omega, ↓reduceIte]
    exact ⟨I, J, rfl, q, pu_Pf.rf⟩
  | succ d ih =>
    intro i n I J A hi hn q wf hF
    obtain ⟨n, rfl⟩ : ∃ z, n = z + 1 := ⟨n - 1, by omega⟩
    obtain ⟨I1, J1, a1, a2, a3⟩ := pu_m_passes (J := J) hM q wf hF
    unfold fl_m_passesAll_2
    simp only [pu_ltI (show i < 2147483648 by omega) hN, show i < N by omega, ↓reduceIte, pu_on (pu_m70 hM), a1, Option.bind_some]
    rw [← nI_succ]
    obtain ⟨I', J', b1, b2, b3⟩ := ih (i + 1) n I1 J1 (pu_year ro A) (by omega) (by omega) a2 (pu_year_wf wf) (pu_FM_eq a3 hF)
    exact ⟨I', J', b1, b2, a3.tr b3⟩
theorem pu_m_passesAll {I : Nat → Nat → Int32} {J : Nat → Nat → Int64} {A : pu_A} (hM : pu_M s R) (q : pu_Q (I 80) A) (wf : pu_wf A) {ro : Option pu_Ru} (hF : pu_FM I ro) {N : Nat} (hN : N < 1000000) :
    ∃ I' J', fb_m_passesAll 70 (nI N) (s, I, J, R) = some (s, I', J', R) ∧ pu_Q (I' 80) (pu_ys ro N A) ∧ pu_Pf I I' J J' := by
  obtain ⟨I', J', a1, a2, a3⟩ := pu_m_passesAll_l (ro := ro) hM (show N < 2147483648 by omega) N 0 1048576 I J A (by omega) (by omega) q wf hF
  refine ⟨I', J', ?_, a2, a3⟩
  unfold fb_m_passesAll
  rw [show nI 0 = 0 from rfl] at a1
  rw [a1]
  rfl
/-- the rule in force, as the class finds it -/
def pu_FX (s : List (Nat × Nat)) (I : Nat → Nat → Int32) (R : Nat → Nat → Option Nat) (ro : Option pu_Ru) : Prop := match ro with
  | none => I 18 3 = -1
  | some ru => ∃ r c0, r ≤ 5 ∧ I 18 3 = nI r ∧ R 17 r = some c0 ∧ pu_FC s I (some c0) (some ru)
theorem pu_lQ4 {I : Nat → Nat → Int32} {J : Nat → Nat → Int64} {p n j : Nat} (h : s[p]? = some (4, n)) (hj : j < n) (hn : n ≤ 100000) : tb_lQ p (nI j) (s, I, J, R) = some (R p j) := by
  unfold tb_lQ
  simp only [h, pu_in hj hn, nI_clamp (show j < 2 ^ 31 by omega)]
  rfl
theorem pu_x_codeOf {I : Nat → Nat → Int32} {J : Nat → Nat → Int64} (hX : pu_X s R) {r : Nat} (hr : r ≤ 5) : fb_x_codeOf 17 (nI r) (s, I, J, R) = some (R 17 r, (s, I, J, R)) := by
  have hal : tb_al 17 (s, I, J, R) = some (nI 6) := by
    unfold tb_al
    simp only [pu_c17 hX]
    rfl
  unfold fb_x_codeOf
  simp only [pu_lt0 (show r < 2147483648 by omega), ↓reduceIte, hal, Option.bind_some, pu_ltI (show r < 2147483648 by omega) (show 6 < 2147483648 by omega), show r < 6 by omega, pu_lQ4 (pu_c17 hX) (show r < 6 by omega) (show 6 ≤ 100000 by omega)]
theorem pu_x_codeOf_1 (w : tb_Hp) : fb_x_codeOf 17 (-1) w = some (none, w) := by
  unfold fb_x_codeOf
  rw [if_pos (by decide)]
theorem pu_x_ruleInForce {I : Nat → Nat → Int32} {J : Nat → Nat → Int64} (hX : pu_X s R) {ro : Option pu_Ru} (hF : pu_FX s I R ro) : ∃ c, fb_x_ruleInForce 1 (s, I, J, R) = some (c, (s, I, J, R)) ∧ pu_FC s I c ro := by
  unfold fb_x_ruleInForce
  simp only [pu_gN (pu_c1 hX), pu_f1_3 hX, pu_f1_5 hX, Option.bind_some, pu_gI (pu_c18 hX)]
  cases ro with
  | none =>
    have hF : I 18 3 = -1 := hF
    rw [hF, pu_x_codeOf_1]
    exact ⟨none, rfl, trivial⟩
  | some ru =>
    obtain ⟨r, c0, h1, h2, h3, h4⟩ := hF
    rw [h2, pu_x_codeOf hX h1, h3]
    exact ⟨some c0, rfl, h4⟩
theorem pu_FC_eq {I I' : Nat → Nat → Int32} {c : Option Nat} {ro : Option pu_Ru} (e : ∀ q, 92 ≤ q → I' q = I q) (h : pu_FC s I c ro) : pu_FC s I' c ro := by
  match c, ro, h with
  | none, none, _ => trivial
  | some c0, some ru, ⟨h1, h2, h3, h4, h5⟩ => exact ⟨h1, h2, h3, by rw [e c0 h1]; exact h4, h5⟩
theorem pu_yr_begin {I : Nat → Nat → Int32} {J : Nat → Nat → Int64} {A : pu_A} (hX : pu_X s R) {q : Nat} (hq : pu_St s R q) (hd : q + 7 ≤ 53 ∨ 60 ≤ q) (v : pu_V I q A) (wf : pu_wf A) : ∃ I', fb_yr_begin 52 q (s, I, J, R) = some (s, I', J, R) ∧ pu_V I' 53 A ∧ pu_Fr 53 I I' := by
  obtain ⟨I', a1, a2, a3⟩ := pu_s_copyFrom (J := J) (pu_st53 hX) hq (by omega) v wf
  refine ⟨I', ?_, a2, a3⟩
  unfold fb_yr_begin
  simp only [pu_gN (pu_c52 hX), pu_f52_0 hX, Option.bind_some, pu_on (pu_c53 hX), a1]
theorem pu_yr_goOn_l (hX : pu_X s R) {c : Option Nat} {ro : Option pu_Ru} {N : Nat} (hN : N < 2147483648) : ∀ d i n I J A, i + d = N → d < n → pu_V I 53 A → pu_wf A → pu_FC s I c ro →
    ∃ I' J' B, fl_yr_goOn_2 n 52 c (nI N) (nI i) (s, I, J, R) = some (s, I', J', R) ∧ pu_V I' 53 B ∧ pu_wf B ∧ pu_al2 B (pu_ys ro d A) ∧ pu_Yf 53 I I' J J' := by
  intro d
  induction d with
  | zero =>
    intro i n I J A hi hn v wf hF
    obtain ⟨n, rfl⟩ : ∃ z, n = z + 1 := ⟨n - 1, by omega⟩
    unfold fl_yr_goOn_2
    simp only [pu_ltI (show i < 2147483648 by omega) hN, show ¬ i < N by omega, ↓reduceIte, fj_yr_goOn_j19]
    exact ⟨I, J, A, rfl, v, wf, ⟨fun _ => rfl, fun _ => rfl, rfl⟩, pu_Yf.rf⟩
  | succ d ih =>
    intro i n I J A hi hn v wf hF
    obtain ⟨n, rfl⟩ : ∃ z, n = z + 1 := ⟨n - 1, by omega⟩
    obtain ⟨I1, J1, a1, a2, a3⟩ := pu_jg_passYear (J := J) (pu_jg hX) (pu_st53 hX) (by omega) v wf hF
    have wf1 := pu_year_wf (ro := ro) wf
    unfold fl_yr_goOn_2
    simp only [pu_ltI (show i < 2147483648 by omega) hN, show i < N by omega, ↓reduceIte, pu_gN (pu_c52 hX), pu_f52_5 hX, pu_f52_0 hX, Option.bind_some, pu_on (pu_c40 hX), a1, pu_gI (pu_c53 hX), a2.1.2.2.2.2.1]
    rw [← nI_succ]
    by_cases h0 : pu_mk ((pu_year ro A).2 0) 8 = 0
    · rw [if_pos h0]
      have hd : pu_dead (pu_year ro A) := ⟨pu_no_up wf1 h0, pu_year_fix wf⟩
      obtain ⟨d1, d2, d3⟩ := pu_dead_ys (ro := ro) d hd
      refine ⟨I1, J1, pu_year ro A, rfl, a2, wf1, ⟨fun l => ?_, fun h => ?_, ?_⟩, a3⟩
      · rw [pu_ys_s]; exact (d2 l).symm
      · rw [pu_ys_s]; exact (d3 h).symm
      · rw [pu_ys_s, pu_allPull_0 hd.1, pu_allPull_0 d1.1]
    · rw [if_neg h0]
      obtain ⟨I', J', B, b1, b2, b3, b4, b5⟩ := ih (i + 1) n I1 J1 (pu_year ro A) (by omega) (by omega) a2 wf1 (pu_FC_eq (fun q hq => a3.1 q (by omega) (by omega)) hF)
      exact ⟨I', J', B, b1, b2, b3, b4, a3.tr b5⟩
theorem pu_yr_goOn {I : Nat → Nat → Int32} {J : Nat → Nat → Int64} {A : pu_A} (hX : pu_X s R) (v : pu_V I 53 A) (wf : pu_wf A) {c : Option Nat} {ro : Option pu_Ru} (hF : pu_FC s I c ro) {N : Nat} (hN : N < 1000000) :
    ∃ I' J' B, fb_yr_goOn 52 c (nI N) (s, I, J, R) = some (s, I', J', R) ∧ pu_V I' 53 B ∧ pu_wf B ∧ pu_al2 B (pu_ys ro N A) ∧ pu_Yf 53 I I' J J' := by
  obtain ⟨I', J', B, a1, a2, a3, a4, a5⟩ := pu_yr_goOn_l (ro := ro) (c := c) hX (show N < 2147483648 by omega) N 0 1048576 I J A (by omega) (by omega) v wf hF
  refine ⟨I', J', B, ?_, a2, a3, a4, a5⟩
  unfold fb_yr_goOn
  rw [show nI 0 = 0 from rfl] at a1
  rw [a1]
  rfl
end PUO
