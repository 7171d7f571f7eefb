/-! ===== Notes: whether what was told is so ===== -/
def pu_fr (f : Nat → Bool) : Nat → Nat → Bool
  | 0, _ => true
  | d + 1, i => f i && pu_fr f d (i + 1)
/-- note i (year, house, stood) fits the street B behind year n -/
def pu_n1 (z : Nat → Nat × Nat × Nat) (B : pu_A) (n i : Nat) : Bool := !decide ((z i).1 = n) || (B.2 1 (z i).2.1 == decide ((z i).2.2 = 1))
def pu_nso (nn : Nat) (z : Nat → Nat × Nat × Nat) (B : pu_A) (n : Nat) : Bool := pu_fr (pu_n1 z B n) nn 0
/-- notes are so in d years from year n on -/
def pu_sr (nn : Nat) (z : Nat → Nat × Nat × Nat) (ro : Option pu_Ru) : Nat → Nat → pu_A → Bool
  | 0, _, _ => true
  | d + 1, n, B => pu_nso nn z (pu_year ro B) n && pu_sr nn z ro d (n + 1) (pu_year ro B)
/-- one more than the latest year noted -/
def pu_lm (z : Nat → Nat × Nat × Nat) : Nat → Nat
  | 0 => 0
  | n + 1 => max (pu_lm z n) ((z n).1 + 1)
theorem pu_lm_ge (z : Nat → Nat × Nat × Nat) : ∀ n i, i < n → (z i).1 < pu_lm z n
  | n + 1, i, h => by
    show (z i).1 < max (pu_lm z n) ((z n).1 + 1)
    by_cases e : i = n
    · subst e; omega
    · have := pu_lm_ge z n i (by omega); omega
theorem pu_fr_true {f : Nat → Bool} : ∀ d i, (∀ k, i ≤ k → k < i + d → f k = true) → pu_fr f d i = true
  | 0, _, _ => rfl
  | d + 1, i, h => by
    show (f i && pu_fr f d (i + 1)) = true
    rw [h i (by omega) (by omega), pu_fr_true d (i + 1) (fun k h1 h2 => h k (by omega) (by omega))]; rfl
theorem pu_sr_late {nn : Nat} {z : Nat → Nat × Nat × Nat} {ro : Option pu_Ru} : ∀ d n B, pu_lm z nn ≤ n → pu_sr nn z ro d n B = true
  | 0, _, _, _ => rfl
  | d + 1, n, B, h => by
    show (pu_nso nn z (pu_year ro B) n && pu_sr nn z ro d (n + 1) (pu_year ro B)) = true
    rw [pu_sr_late d (n + 1) _ (by omega), Bool.and_true]
    refine pu_fr_true nn 0 (fun k _ hk => ?_)
    unfold pu_n1
    have := pu_lm_ge z nn k (by omega)
    rw [decide_eq_false (by omega)]; rfl
theorem pu_sr_more {nn : Nat} {z : Nat → Nat × Nat × Nat} {ro : Option pu_Ru} : ∀ d e n B, pu_lm z nn ≤ n + d → pu_sr nn z ro (d + e) n B = pu_sr nn z ro d n B
  | 0, e, n, B, h => by rw [Nat.zero_add, pu_sr_late e n B (by omega)]; rfl
  | d + 1, e, n, B, h => by
    rw [show d + 1 + e = (d + e) + 1 by omega]
    show (_ && pu_sr nn z ro (d + e) (n + 1) (pu_year ro B)) = (_ && pu_sr nn z ro d (n + 1) (pu_year ro B))
    rw [pu_sr_more d e (n + 1) _ (by omega)]
theorem pu_lm_le {z : Nat → Nat × Nat × Nat} : ∀ nn, (∀ i, i < nn → (z i).1 ≤ 60) → pu_lm z nn ≤ 61
  | 0, _ => Nat.zero_le _
  | nn + 1, h => by
    show max (pu_lm z nn) ((z nn).1 + 1) ≤ 61
    have := pu_lm_le nn (fun i hi => h i (by omega))
    have := h nn (by omega)
    omega
def pu_Nz (nn : Nat) (z : Nat → Nat × Nat × Nat) (h2 : Nat) : Prop := nn ≤ 10 ∧ ∀ i, i < nn → (z i).1 ≤ 60 ∧ (z i).2.1 < h2 ∧ (z i).2.2 ≤ 1
def pu_Nc (I : Nat → Nat → Int32) (nn : Nat) (z : Nat → Nat × Nat × Nat) : Prop := I 33 0 = nI nn ∧ ∀ i, i < nn → I 34 i = nI (z i).1 ∧ I 35 i = nI (z i).2.1 ∧ I 36 i = nI (z i).2.2
def pu_Nm (f : Nat → Int32) (nn : Nat) (z : Nat → Nat × Nat × Nat) : Prop := f 148 = nI nn ∧ ∀ i, i < nn → f (118 + 3 * i) = nI (z i).1 ∧ f (118 + 3 * i + 1) = nI (z i).2.1 ∧ f (118 + 3 * i + 2) = nI (z i).2.2
theorem pu_NT_z {I : Nat → Nat → Int32} {A : pu_A} {nn : Nat} (h : pu_NT I A nn) : ∃ z, pu_Nz nn z (2 * A.1 0 0) ∧ pu_Nc I nn z ∧ pu_Nm (I 80) nn z := by
  obtain ⟨h1, h2, h3, h4⟩ := h
  have h5 : ∀ i, ∃ z : Nat × Nat × Nat, i < nn → (z.1 ≤ 60 ∧ z.2.1 < 2 * A.1 0 0 ∧ z.2.2 ≤ 1) ∧ (I 34 i = nI z.1 ∧ I 35 i = nI z.2.1 ∧ I 36 i = nI z.2.2) ∧ (I 80 (118 + 3 * i) = nI z.1 ∧ I 80 (118 + 3 * i + 1) = nI z.2.1 ∧ I 80 (118 + 3 * i + 2) = nI z.2.2) := by
    intro i
    by_cases hi : i < nn
    · obtain ⟨n, h, t, a1, a2, a3, a4, a5⟩ := h4 i hi
      exact ⟨(n, h, t), fun _ => ⟨⟨a1, a2, a3⟩, a4, a5⟩⟩
    · exact ⟨(0, 0, 0), fun h => absurd h hi⟩
  obtain ⟨z, hz⟩ := Classical.axiomOfChoice h5
  exact ⟨z, ⟨h3, fun i hi => (hz i hi).1⟩, ⟨h1, fun i hi => (hz i hi).2.1⟩, ⟨h2, fun i hi => (hz i hi).2.2⟩⟩
theorem pu_lepred {a b : Nat} (ha : a < 1000) (hb : b < 1000) : (nI a ≤ nI b - 1) = (a < b) := by
  cases b with
  | zero =>
    apply propext
    constructor
    · intro h
      have h2 : nI a ≤ -1 := h
      have h3 : nI a < 0 := Int32.lt_of_le_of_lt h2 (by decide)
      exact absurd h3 (pu_lt0 (by omega))
    · intro h; omega
  | succ b => rw [nI_pred, pu_leI (by omega) (by omega)]; exact propext (by omega)
section PUL1
variable {s : List (Nat × Nat)} {R : Nat → Nat → Option Nat} {nn : Nat} {z : Nat → Nat × Nat × Nat}
theorem pu_n_last_l {I : Nat → Nat → Int32} {J : Nat → Nat → Int64} (hX : pu_X s R) {h2 : Nat} (hz : pu_Nz nn z h2) (hc : pu_Nc I nn z) : ∀ d i n, i + d = nn → d < n → fl_n_lastYear_4 n 33 (nI (pu_lm z i) - 1) (nI i) (s, I, J, R) = some (nI (pu_lm z nn) - 1, (s, I, J, R)) := by
  have h10 := hz.1
  intro d
  induction d with
  | zero =>
    intro i n hi hn
    obtain ⟨n, rfl⟩ : ∃ z, n = z + 1 := ⟨n - 1, by omega⟩
    rw [fl_n_lastYear_4.eq_2]
    simp only [pu_gI (pu_c33 hX), hc.1, Option.bind_some, pu_ltI (show i < 2147483648 by omega) (show nn < 2147483648 by omega), show ¬ i < nn by omega, ↓reduceIte]
    rw [show i = nn by omega]
  | succ d ih =>
    intro i n hi hn
    obtain ⟨n, rfl⟩ : ∃ z, n = z + 1 := ⟨n - 1, by omega⟩
    have hih := ih (i + 1) n (by omega) (by omega)
    rw [nI_succ, show pu_lm z (i + 1) = max (pu_lm z i) ((z i).1 + 1) from rfl] at hih
    have h60 := (hz.2 i (by omega)).1
    have hlm : pu_lm z i ≤ 61 := pu_lm_le i (fun k hk => (hz.2 k (by omega)).1)
    have em : fb_ma_max (nI (pu_lm z i) - 1) (nI (z i).1) (s, I, J, R) = some (nI (max (pu_lm z i) ((z i).1 + 1)) - 1, (s, I, J, R)) := by
      unfold fb_ma_max
      by_cases h : pu_lm z i = 0
      · rw [h, if_pos, Nat.max_eq_right (by omega), nI_pred]
        exact Int32.lt_of_lt_of_le (show nI 0 - 1 < 0 by decide) (nI_pos' (by omega))
      · obtain ⟨m, hm⟩ : ∃ m, pu_lm z i = m + 1 := ⟨pu_lm z i - 1, by omega⟩
        rw [hm, nI_pred]
        simp only [pu_ltI (show m < 2147483648 by omega) (show (z i).1 < 2147483648 by omega)]
        by_cases h3 : m < (z i).1
        · rw [if_pos h3, Nat.max_eq_right (by omega), nI_pred]
        · rw [if_neg h3, Nat.max_eq_left (by omega), nI_pred]
    rw [fl_n_lastYear_4.eq_2]
    simp only [pu_gI (pu_c33 hX), hc.1, Option.bind_some, pu_ltI (show i < 2147483648 by omega) (show nn < 2147483648 by omega), show i < nn by omega, ↓reduceIte, show (10 : Int32) = nI 10 from rfl, pu_ltI (show i < 2147483648 by omega) (show 10 < 2147483648 by omega), show i < 10 by omega, pu_gN (pu_c33 hX), pu_f33_1 hX, pu_lI (pu_c34 hX) (show i < 10 by omega) (show 10 ≤ 100000 by omega), (hc.2 i (by omega)).1, em]
    exact hih
theorem pu_n_lastYear {I : Nat → Nat → Int32} {J : Nat → Nat → Int64} (hX : pu_X s R) {h2 : Nat} (hz : pu_Nz nn z h2) (hc : pu_Nc I nn z) : fb_n_lastYear 33 (s, I, J, R) = some (nI (pu_lm z nn) - 1, (s, I, J, R)) := by
  have := pu_n_last_l (J := J) hX hz hc nn 0 1048576 (by omega) (by have := hz.1; omega)
  unfold fb_n_lastYear
  rw [show nI (pu_lm z 0) - 1 = -1 from rfl, show nI 0 = 0 from rfl] at this
  simp only [this, Option.bind_some]
theorem pu_n_fit_l {I : Nat → Nat → Int32} {J : Nat → Nat → Int64} {B : pu_A} (hX : pu_X s R) (v : pu_V I 62 B) (wf : pu_wf B) (hz : pu_Nz nn z (2 * B.1 0 0)) (hc : pu_Nc I nn z) {y : Nat} (hy : y ≤ 100) : ∀ d i n, i + d = nn → d < n → fl_n_fit_2 n 33 62 (nI y) (nI i) (s, I, J, R) = some (pu_b (pu_fr (pu_n1 z B y) d i), (s, I, J, R)) := by
  have h10 := hz.1
  have h5 := wf.1
  intro d
  induction d with
  | zero =>
    intro i n hi hn
    obtain ⟨n, rfl⟩ : ∃ z, n = z + 1 := ⟨n - 1, by omega⟩
    rw [fl_n_fit_2.eq_2]
    simp only [pu_gI (pu_c33 hX), hc.1, Option.bind_some, pu_ltI (show i < 2147483648 by omega) (show nn < 2147483648 by omega), show ¬ i < nn by omega, ↓reduceIte, fj_n_fit_j35]
    rfl
  | succ d ih =>
    intro i n hi hn
    obtain ⟨n, rfl⟩ : ∃ z, n = z + 1 := ⟨n - 1, by omega⟩
    have hih := ih (i + 1) n (by omega) (by omega)
    rw [nI_succ] at hih
    obtain ⟨z1, z2, z3⟩ := hz.2 i (by omega)
    obtain ⟨c1, c2, c3⟩ := hc.2 i (by omega)
    have e22 : (nI (z i).2.2 = (1 : Int32)) = ((z i).2.2 = 1) := pu_eqI (b := 1) (by omega) (by omega)
    rw [fl_n_fit_2.eq_2]
    simp only [pu_gI (pu_c33 hX), hc.1, Option.bind_some, pu_ltI (show i < 2147483648 by omega) (show nn < 2147483648 by omega), show i < nn by omega, ↓reduceIte, show (10 : Int32) = nI 10 from rfl, pu_ltI (show i < 2147483648 by omega) (show 10 < 2147483648 by omega), show i < 10 by omega, pu_gN (pu_c33 hX), pu_f33_1 hX, pu_f33_2 hX, pu_f33_3 hX, pu_lI (pu_c34 hX) (show i < 10 by omega) (show 10 ≤ 100000 by omega), c1, pu_lI (pu_c35 hX) (show i < 10 by omega) (show 10 ≤ 100000 by omega), c2, pu_lI (pu_c36 hX) (show i < 10 by omega) (show 10 ≤ 100000 by omega), c3, pu_eqI (show (z i).1 < 2147483648 by omega) (show y < 2147483648 by omega), pu_on (pu_c62 hX), pu_s_stands (pu_st62 hX) v wf (show (z i).2.1 < 2147483648 by omega), e22]
    show _ = some (pu_b (pu_n1 z B y i && pu_fr (pu_n1 z B y) d (i + 1)), _)
    unfold pu_n1 at hih ⊢
    by_cases h1 : (z i).1 = y
    · rw [if_pos h1, decide_eq_true h1, Bool.not_true, Bool.false_or]
      by_cases h2 : (z i).2.2 = 1
      · rw [if_pos h2, decide_eq_true h2]
        cases hs : B.2 1 (z i).2.1
        · rw [if_neg (by decide)]; rfl
        · rw [if_pos (by decide)]; exact hih
      · rw [if_neg h2, decide_eq_false h2]
        cases hs : B.2 1 (z i).2.1
        · rw [if_pos (by decide)]; exact hih
        · rw [if_neg (by decide)]; rfl
    · rw [if_neg h1, decide_eq_false h1, Bool.not_false, Bool.true_or, Bool.true_and]
      exact hih
theorem pu_n_fit {I : Nat → Nat → Int32} {J : Nat → Nat → Int64} {B : pu_A} (hX : pu_X s R) (v : pu_V I 62 B) (wf : pu_wf B) (hz : pu_Nz nn z (2 * B.1 0 0)) (hc : pu_Nc I nn z) {y : Nat} (hy : y ≤ 100) : fb_n_fit 33 62 (nI y) (s, I, J, R) = some (pu_b (pu_nso nn z B y), (s, I, J, R)) := by
  have := pu_n_fit_l (J := J) hX v wf hz hc hy nn 0 1048576 (by omega) (by have := hz.1; omega)
  unfold fb_n_fit
  rw [show nI 0 = 0 from rfl] at this
  simp only [this, Option.bind_some]
  rfl
theorem pu_m_notesSo_l {I : Nat → Nat → Int32} {J : Nat → Nat → Int64} {B : pu_A} (hM : pu_M s R) (q : pu_Q (I 80) B) (wf : pu_wf B) (hz : pu_Nz nn z (2 * B.1 0 0)) (hc : pu_Nm (I 80) nn z) {y : Nat} (hy : y ≤ 100) : ∀ d i n, i + d = nn → d < n → fl_m_areNotesSo_2 n 70 (nI y) (nI (3 * i)) (s, I, J, R) = some (pu_b (pu_fr (pu_n1 z B y) d i), (s, I, J, R)) := by
  have h10 := hz.1
  have h5 := wf.1
  intro d
  induction d with
  | zero =>
    intro i n hi hn
    obtain ⟨n, rfl⟩ : ∃ z, n = z + 1 := ⟨n - 1, by omega⟩
    rw [fl_m_areNotesSo_2.eq_2]
    simp only [pu_gN (pu_m70 hM), pu_r20 hM, Option.bind_some, pu_cell' hM (show (148 : Int32) = nI 148 from rfl) (show 148 < 149 by omega), hc.1, pu_M3, pu_ltI (show 3 * i < 2147483648 by omega) (show 3 * nn < 2147483648 by omega), show ¬ 3 * i < 3 * nn by omega, ↓reduceIte, fj_m_areNotesSo_j44]
    rfl
  | succ d ih =>
    intro i n hi hn
    obtain ⟨n, rfl⟩ : ∃ z, n = z + 1 := ⟨n - 1, by omega⟩
    have hih := ih (i + 1) n (by omega) (by omega)
    rw [show 3 * (i + 1) = 3 * i + 3 by omega, ← pu_R3] at hih
    obtain ⟨z1, z2, z3⟩ := hz.2 i (by omega)
    obtain ⟨c1, c2, c3⟩ := hc.2 i (by omega)
    have i1 : (118 : Int32) + nI (3 * i) + 1 = nI (118 + 3 * i + 1) := by rw [pu_L118, pu_R1]
    have i2 : (118 : Int32) + nI (3 * i) + 2 = nI (118 + 3 * i + 2) := by rw [pu_L118, pu_R2]
    have e8 : I 80 (32 + (z i).2.1) = pu_b (B.2 1 (z i).2.1) := q.2.2.1 _ z2
    rw [fl_m_areNotesSo_2.eq_2]
    simp only [pu_gN (pu_m70 hM), pu_r20 hM, Option.bind_some, pu_cell' hM (show (148 : Int32) = nI 148 from rfl) (show 148 < 149 by omega), hc.1, pu_M3, pu_ltI (show 3 * i < 2147483648 by omega) (show 3 * nn < 2147483648 by omega), show 3 * i < 3 * nn by omega, ↓reduceIte, pu_cell' hM (pu_L118 (3 * i)) (show 118 + 3 * i < 149 by omega), c1, pu_eqI (show (z i).1 < 2147483648 by omega) (show y < 2147483648 by omega), pu_cell' hM i1 (show 118 + 3 * i + 1 < 149 by omega), c2, pu_cell' hM (pu_L32 (z i).2.1) (show 32 + (z i).2.1 < 149 by omega), e8, pu_cell' hM i2 (show 118 + 3 * i + 2 < 149 by omega), c3]
    show _ = some (pu_b (pu_n1 z B y i && pu_fr (pu_n1 z B y) d (i + 1)), _)
    unfold pu_n1 at hih ⊢
    by_cases h1 : (z i).1 = y
    · rw [if_pos h1, decide_eq_true h1, Bool.not_true, Bool.false_or]
      have h01 : (z i).2.2 = 0 ∨ (z i).2.2 = 1 := by omega
      rcases h01 with h2 | h2 <;> rw [h2] <;> cases hs : B.2 1 (z i).2.1
      · rw [if_pos (by decide)]; exact hih
      · rw [if_neg (by decide)]; rfl
      · rw [if_neg (by decide)]; rfl
      · rw [if_pos (by decide)]; exact hih
    · rw [if_neg h1, decide_eq_false h1, Bool.not_false, Bool.true_or, Bool.true_and]
      exact hih
theorem pu_m_notesSo {I : Nat → Nat → Int32} {J : Nat → Nat → Int64} {B : pu_A} (hM : pu_M s R) (q : pu_Q (I 80) B) (wf : pu_wf B) (hz : pu_Nz nn z (2 * B.1 0 0)) (hc : pu_Nm (I 80) nn z) {y : Nat} (hy : y ≤ 100) : fb_m_areNotesSo 70 (nI y) (s, I, J, R) = some (pu_b (pu_nso nn z B y), (s, I, J, R)) := by
  have := pu_m_notesSo_l (J := J) hM q wf hz hc hy nn 0 1048576 (by omega) (by have := hz.1; omega)
  unfold fb_m_areNotesSo
  rw [show nI (3 * 0) = 0 from rfl] at this
  simp only [this, Option.bind_some]
  rfl
end PUL1
