/-! ===== fewest, down, byThese: the best of all sets of lines ===== -/
theorem pu_vl_tb {x : Nat} (h : x < 256) : pu_vl (fun k => x.testBit k) 8 = x := by
  apply Nat.eq_of_testBit_eq
  intro i
  rw [pu_vl_bit]
  by_cases hi : i < 8
  · rw [decide_eq_true hi, Bool.true_and]
  · rw [decide_eq_false hi, Bool.false_and]
    have h2 : x < 2 ^ i := Nat.lt_of_lt_of_le (show x < 2 ^ 8 from h) (Nat.pow_le_pow_right (n := 2) (by decide) (show 8 ≤ i by omega))
    exact (Nat.testBit_lt_two_pow h2).symm
theorem pu_nI_tb {x : Nat} (h : x < 256) : nI x = pu_mk (fun k => x.testBit k) 8 := by
  rw [pu_mk_vl _ (by omega), pu_vl_tb h]
def pu_cn (x : Nat) : Nat := pu_ct (fun k => x.testBit k) 8
def pu_sb (A : pu_A) (x : Nat) : Bool := decide (pu_mk (fun k => x.testBit k && !A.2 0 k) 8 = 0)
def pu_bt2 (x : Nat) (b : Option Nat) : Bool := match b with
  | none => true
  | some y => decide (pu_cn x < pu_cn y)
def pu_bs (A : pu_A) (P : Nat → Bool) : Nat → Nat → Option Nat → Option Nat
  | 0, _, b => b
  | d + 1, x, b => pu_bs A P d (x + 1) (if (pu_sb A x && pu_bt2 x b && P x) = true then some x else b)
theorem pu_bs_s (A : pu_A) (P : Nat → Bool) (d x : Nat) (b : Option Nat) : pu_bs A P (d + 1) x b = pu_bs A P d (x + 1) (if (pu_sb A x && pu_bt2 x b && P x) = true then some x else b) := rfl
theorem pu_bs_add (A : pu_A) (P : Nat → Bool) (m : Nat) : ∀ n x b, pu_bs A P (n + m) x b = pu_bs A P m (x + n) (pu_bs A P n x b) := by
  intro n
  induction n with
  | zero => intro x b; rw [Nat.zero_add]; rfl
  | succ n ih =>
    intro x b
    rw [show n + 1 + m = (n + m) + 1 by omega, pu_bs_s, pu_bs_s, ih, show x + 1 + n = x + (n + 1) by omega]
theorem pu_sb_le {A : pu_A} {x : Nat} (hx : x < 256) (h : pu_sb A x = true) : x ≤ pu_vl (A.2 0) 8 := by
  unfold pu_sb at h
  rw [decide_eq_true_eq, pu_mk0 (by omega)] at h
  have e : x ||| pu_vl (A.2 0) 8 = pu_vl (A.2 0) 8 := by
    apply Nat.eq_of_testBit_eq
    intro i
    rw [Nat.testBit_or, pu_vl_bit]
    by_cases hi : i < 8
    · rw [decide_eq_true hi, Bool.true_and]
      have := h i hi
      cases h1 : x.testBit i
      · rfl
      · rw [h1] at this
        cases h2 : A.2 0 i
        · rw [h2] at this; cases this
        · rfl
    · have h2 : x < 2 ^ i := Nat.lt_of_lt_of_le (show x < 2 ^ 8 from hx) (Nat.pow_le_pow_right (n := 2) (by decide) (show 8 ≤ i by omega))
      rw [Nat.testBit_lt_two_pow h2, Bool.false_or]
  rw [← e]
  exact Nat.left_le_or
theorem pu_bs_no {A : pu_A} {P : Nat → Bool} (m : Nat) : ∀ x b, pu_vl (A.2 0) 8 < x → x + m ≤ 256 → pu_bs A P m x b = b := by
  induction m with
  | zero => intro x b _ _; rfl
  | succ m ih =>
    intro x b h1 h2
    rw [pu_bs_s, ih _ _ (by omega) (by omega)]
    have : pu_sb A x = false := by
      cases e : pu_sb A x
      · rfl
      · have := pu_sb_le (show x < 256 by omega) e; omega
    rw [this, Bool.false_and, Bool.false_and, if_neg (by decide)]
/-- sets beyond all that is up don't count -/
theorem pu_bs_cut (A : pu_A) (P : Nat → Bool) : pu_bs A P 256 0 none = pu_bs A P (pu_vl (A.2 0) 8 + 1) 0 none := by
  have h := pu_vl_lt (A.2 0) 8
  have h : pu_vl (A.2 0) 8 < 256 := h
  have e : 256 = (pu_vl (A.2 0) 8 + 1) + (255 - pu_vl (A.2 0) 8) := by omega
  have := pu_bs_add A P (255 - pu_vl (A.2 0) 8) (pu_vl (A.2 0) 8 + 1) 0 none
  rw [← e] at this
  rw [this, pu_bs_no _ _ _ (by omega) (by omega)]
theorem pu_bs_lt {A : pu_A} {P : Nat → Bool} (d : Nat) : ∀ x b y, (∀ z, b = some z → z < x) → pu_bs A P d x b = some y → y < x + d := by
  induction d with
  | zero => intro x b y h e; exact h y e
  | succ d ih =>
    intro x b y h e
    rw [pu_bs_s] at e
    have := ih (x + 1) _ y (by
      intro z hz
      split at hz
      · cases hz; omega
      · have := h z hz; omega) e
    omega
/-- a set as a number; none is -1 -/
def pu_oi (b : Option Nat) : Int32 := match b with
  | none => -1
  | some x => nI x
def pu_a_of (b : Option Nat) (w : Int32) : Int32 := match b with
  | none => -2
  | some x => if w = 0 then nI (pu_cn x) else nI x
/-- by cutting these all of g fall; by these alone nobody falls -/
def pu_pc (A : pu_A) (g : Nat → Bool) (x : Nat) : Bool := decide (pu_mk (fun k => g k && !pu_fw A (fun l => A.2 0 l && !x.testBit l) k) 10 = 0)
def pu_pk (A : pu_A) (x : Nat) : Bool := decide (pu_mk (pu_fw A (fun l => A.2 0 l && x.testBit l)) 10 = 0)
def pu_a_fewest (A : pu_A) (a b : Int32) : Int32 := if pu_hs A a = false then -1 else if pu_wi b 0 1 = false then -1 else pu_a_of (pu_bs A (pu_pc A (fun k => decide (k = a.toNatClampNeg))) 256 0 none) b
def pu_a_down (A : pu_A) (b : Int32) : Int32 := if A.1 0 0 = 0 then -1 else if pu_wi b 0 1 = false then -1 else pu_a_of (pu_bs A (pu_pc A (A.2 1)) 256 0 none) b
def pu_a_byThese (A : pu_A) (b : Int32) : Int32 := if A.1 0 0 = 0 then -1 else if pu_wi b 0 1 = false then -1 else pu_a_of (pu_bs A (pu_pk A) 256 0 none) b
section PUf
variable {s : List (Nat × Nat)} {R : Nat → Nat → Option Nat} {I : Nat → Nat → Int32} {J : Nat → Nat → Int64} {A : pu_A}
theorem pu_set_no {x : Nat} (hx : x < 256) (f : Nat → Bool) : nI x &&& (pu_mk f 8 ^^^ (-1)) = pu_mk (fun k => x.testBit k && !f k) 8 := by
  rw [pu_nI_tb hx, pu_mk_no _ _ (by omega) (by omega)]
  exact pu_mk_cong 8 (fun k hk => by rw [decide_eq_true hk, Bool.true_and])
theorem pu_up_no {x : Nat} (hx : x < 256) (f : Nat → Bool) : pu_mk f 8 &&& (nI x ^^^ (-1)) = pu_mk (fun k => f k && !x.testBit k) 8 := by
  rw [pu_nI_tb hx, pu_mk_no _ _ (by omega) (by omega)]
  exact pu_mk_cong 8 (fun k hk => by rw [decide_eq_true hk, Bool.true_and])
theorem pu_bits_x {x : Nat} (hx : x < 256) (w : tb_Hp) : fb_in_bitCount (nI x) w = some (nI (pu_cn x), w) := by
  rw [pu_nI_tb hx, pu_bitCount8]; rfl
theorem pu_mbits_x {x : Nat} (hx : x < 256) (w : tb_Hp) : fb_m_bits (nI x) w = some (nI (pu_cn x), w) := by
  rw [pu_nI_tb hx, pu_m_bits8]; rfl
theorem pu_cn_le (x : Nat) : pu_cn x ≤ 8 := pu_ct_le _ 8
theorem pu_h_isBetter (hX : pu_X s R) (v : pu_V I 19 A) {x : Nat} (hx : x < 256) {b : Option Nat} (hb : ∀ z, b = some z → z < 256) : fb_h_isBetter 19 (nI x) (pu_oi b) (s, I, J, R) = some (pu_b (pu_sb A x && pu_bt2 x b), (s, I, J, R)) := by
  unfold fb_h_isBetter
  simp only [pu_gI (pu_c19 hX), Option.bind_some, v.1.2.2.2.2.1, pu_set_no hx]
  unfold pu_sb
  by_cases h : pu_mk (fun k => x.testBit k && !A.2 0 k) 8 = 0
  · simp only [h, ↓reduceIte, decide_true, Bool.true_and]
    cases b with
    | none => rfl
    | some y =>
      have hy := hb y rfl
      have h1 := pu_cn_le x
      have h2 := pu_cn_le y
      show (if nI y = -1 then _ else _) = _
      rw [if_neg (pu_ne1 (by omega))]
      show ((fb_in_bitCount (nI x) (s, I, J, R)).bind fun x2 => (fb_in_bitCount (nI y) x2.2).bind fun x3 => if x2.1 < x3.1 then some (1, x3.2) else some (0, x3.2)) = _
      simp only [pu_bits_x hx, pu_bits_x hy, Option.bind_some, pu_ltI (show pu_cn x < 2147483648 by omega) (show pu_cn y < 2147483648 by omega)]
      show _ = some (pu_b (decide (pu_cn x < pu_cn y)), _)
      by_cases h3 : pu_cn x < pu_cn y
      · simp only [h3, ↓reduceIte, decide_true, pu_bt]
      · simp only [h3, ↓reduceIte, decide_false, pu_bf]
  · simp only [h, ↓reduceIte, decide_false, Bool.false_and, pu_bf]
theorem pu_h_fewestCut_l (hX : pu_X s R) (wf : pu_wf A) (g : Nat → Bool) : ∀ d x n I b, x + d = 256 → d < n → (∀ z, b = some z → z < x) → pu_V I 19 A → pu_W I 43 A →
    ∃ I', fl_h_fewestCut_8 n 42 19 (pu_mk g 10) (pu_oi b) (nI x) (s, I, J, R) = some (pu_oi (pu_bs A (pu_pc A g) d x b), (s, I', J, R)) ∧ pu_Fr 43 I I' := by
  intro d
  induction d with
  | zero =>
    intro x n I b hi hn hb v w
    obtain ⟨n, rfl⟩ : ∃ z, n = z + 1 := ⟨n - 1, by omega⟩
    unfold fl_h_fewestCut_8
    simp only [show (256 : Int32) = nI 256 from rfl, pu_ltI (show x < 2147483648 by omega) (show 256 < 2147483648 by omega), show ¬ x < 256 by omega, ↓reduceIte]
    exact ⟨I, rfl, pu_Fr.rf⟩
  | succ d ih =>
    intro x n I b hi hn hb v w
    obtain ⟨n, rfl⟩ : ∃ z, n = z + 1 := ⟨n - 1, by omega⟩
    have hx : x < 256 := by omega
    unfold fl_h_fewestCut_8
    simp only [show (256 : Int32) = nI 256 from rfl, pu_ltI (show x < 2147483648 by omega) (show 256 < 2147483648 by omega), hx, ↓reduceIte, pu_h_isBetter hX v hx (fun z hz => (by have := hb z hz; omega : z < 256)), Option.bind_some, pu_b0]
    rw [← nI_succ, pu_bs_s]
    cases h1 : (pu_sb A x && pu_bt2 x b)
    · simp only [↓reduceIte, Bool.false_and, Bool.false_eq_true]
      exact ih (x + 1) n I b (by omega) (by omega) (fun z hz => by have := hb z hz; omega) v w
    · obtain ⟨I1, b1, b2, b3⟩ := pu_h_fallenWith (J := J) hX v w wf (u := fun l => A.2 0 l && !x.testBit l) (fun l hl => (Bool.and_eq_true _ _ ▸ hl : _ ∧ _).1)
      simp only [Bool.true_eq_false, ↓reduceIte, pu_gI (pu_c19 hX), v.1.2.2.2.2.1, Option.bind_some, pu_up_no hx, pu_on (pu_c42 hX), b1, pu_mk_and _ _ (show 10 ≤ 32 by omega), Bool.true_and]
      have e : (pu_mk (fun k => pu_fw A (fun l => A.2 0 l && !x.testBit l) k && g k) 10 = pu_mk g 10) = (pu_pc A g x = true) := by
        unfold pu_pc
        rw [decide_eq_true_eq, pu_mk0 (by omega)]
        apply propext
        constructor
        · intro he k hk
          have := pu_mk_eq (by omega) he k hk
          cases h2 : g k
          · rfl
          · rw [h2, Bool.and_true] at this
            rw [this]; rfl
        · intro he
          refine pu_mk_cong 10 (fun k hk => ?_)
          have := he k hk
          cases h2 : g k
          · rw [Bool.and_false]
          · rw [h2, Bool.true_and] at this
            cases h3 : pu_fw A (fun l => A.2 0 l && !x.testBit l) k
            · rw [h3] at this; cases this
            · rfl
      simp only [e]
      cases h2 : pu_pc A g x
      · simp only [Bool.false_eq_true, ↓reduceIte]
        obtain ⟨I', c1, c2⟩ := ih (x + 1) n I1 b (by omega) (by omega) (fun z hz => by have := hb z hz; omega) (pu_V_fr43 b3 v) b2
        exact ⟨I', c1, b3.tr c2⟩
      · simp only [↓reduceIte]
        obtain ⟨I', c1, c2⟩ := ih (x + 1) n I1 (some x) (by omega) (by omega) (fun z hz => by cases hz; omega) (pu_V_fr43 b3 v) b2
        exact ⟨I', c1, b3.tr c2⟩
theorem pu_h_fewestKept_l (hX : pu_X s R) (wf : pu_wf A) : ∀ d x n I b, x + d = 256 → d < n → (∀ z, b = some z → z < x) → pu_V I 19 A → pu_W I 43 A →
    ∃ I', fl_h_fewestKept_8 n 42 19 (pu_oi b) (nI x) (s, I, J, R) = some (pu_oi (pu_bs A (pu_pk A) d x b), (s, I', J, R)) ∧ pu_Fr 43 I I' := by
  intro d
  induction d with
  | zero =>
    intro x n I b hi hn hb v w
    obtain ⟨n, rfl⟩ : ∃ z, n = z + 1 := ⟨n - 1, by omega⟩
    unfold fl_h_fewestKept_8
    simp only [show (256 : Int32) = nI 256 from rfl, pu_ltI (show x < 2147483648 by omega) (show 256 < 2147483648 by omega), show ¬ x < 256 by omega, ↓reduceIte]
    exact ⟨I, rfl, pu_Fr.rf⟩
  | succ d ih =>
    intro x n I b hi hn hb v w
    obtain ⟨n, rfl⟩ : ∃ z, n = z + 1 := ⟨n - 1, by omega⟩
    have hx : x < 256 := by omega
    unfold fl_h_fewestKept_8
    simp only [show (256 : Int32) = nI 256 from rfl, pu_ltI (show x < 2147483648 by omega) (show 256 < 2147483648 by omega), hx, ↓reduceIte, pu_h_isBetter hX v hx (fun z hz => (by have := hb z hz; omega : z < 256)), Option.bind_some, pu_b0]
    rw [← nI_succ, pu_bs_s]
    cases h1 : (pu_sb A x && pu_bt2 x b)
    · simp only [↓reduceIte, Bool.false_and, Bool.false_eq_true]
      exact ih (x + 1) n I b (by omega) (by omega) (fun z hz => by have := hb z hz; omega) v w
    · have hsb : pu_sb A x = true := (Bool.and_eq_true _ _ ▸ h1 : _ ∧ _).1
      unfold pu_sb at hsb
      rw [decide_eq_true_eq, pu_mk0 (by omega)] at hsb
      have em : nI x = pu_mk (fun l => A.2 0 l && x.testBit l) 8 := by
        rw [pu_nI_tb hx]
        refine pu_mk_cong 8 (fun k hk => ?_)
        have := hsb k hk
        cases h2 : x.testBit k
        · rw [Bool.and_false]
        · rw [h2, Bool.true_and] at this
          cases h3 : A.2 0 k
          · rw [h3] at this; cases this
          · rfl
      obtain ⟨I1, b1, b2, b3⟩ := pu_h_fallenWith (J := J) hX v w wf (u := fun l => A.2 0 l && x.testBit l) (fun l hl => (Bool.and_eq_true _ _ ▸ hl : _ ∧ _).1)
      rw [← em] at b1
      simp only [Bool.true_eq_false, ↓reduceIte, pu_on (pu_c42 hX), b1, Option.bind_some, Bool.true_and]
      by_cases h2 : pu_mk (pu_fw A (fun l => A.2 0 l && x.testBit l)) 10 = 0
      · have e : pu_pk A x = true := decide_eq_true h2
        simp only [h2, e, ↓reduceIte]
        obtain ⟨I', c1, c2⟩ := ih (x + 1) n I1 (some x) (by omega) (by omega) (fun z hz => by cases hz; omega) (pu_V_fr43 b3 v) b2
        exact ⟨I', c1, b3.tr c2⟩
      · have e : pu_pk A x = false := decide_eq_false h2
        simp only [h2, e, Bool.false_eq_true, ↓reduceIte]
        obtain ⟨I', c1, c2⟩ := ih (x + 1) n I1 b (by omega) (by omega) (fun z hz => by have := hb z hz; omega) (pu_V_fr43 b3 v) b2
        exact ⟨I', c1, b3.tr c2⟩
theorem pu_x_ofSet {b : Option Nat} (hb : ∀ z, b = some z → z < 256) (k : Int32) (w : tb_Hp) : fb_x_ofSet (pu_oi b) k w = some (pu_a_of b k, w) := by
  unfold fb_x_ofSet
  cases b with
  | none => rfl
  | some x =>
    have hx := hb x rfl
    show (if nI x = -1 then _ else if k = 0 then (fb_in_bitCount (nI x) w).bind _ else some (nI x, w)) = _
    rw [if_neg (pu_ne1 (by omega)), pu_bits_x hx]
    show _ = some (if k = 0 then nI (pu_cn x) else nI x, w)
    by_cases h : k = 0
    · rw [if_pos h, if_pos h]; rfl
    · rw [if_neg h, if_neg h]
theorem pu_m_toldOf {b : Option Nat} (hb : ∀ z, b = some z → z < 256) (k : Int32) (w : tb_Hp) : fb_m_toldOf (pu_oi b) k w = some (pu_a_of b k, w) := by
  unfold fb_m_toldOf
  cases b with
  | none => rfl
  | some x =>
    have hx := hb x rfl
    show (if nI x < 0 then _ else if k = 0 then (fb_m_bits (nI x) w).bind _ else some (nI x, w)) = _
    rw [if_neg (pu_lt0 (by omega)), pu_mbits_x hx]
    show _ = some (if k = 0 then nI (pu_cn x) else nI x, w)
    by_cases h : k = 0
    · rw [if_pos h, if_pos h]; rfl
    · rw [if_neg h, if_neg h]
theorem pu_bs_256 {P : Nat → Bool} : ∀ z, pu_bs A P 256 0 none = some z → z < 256 := fun z hz => by
  have := pu_bs_lt (A := A) (P := P) 256 0 none z (fun _ h => by cases h) hz
  omega
theorem pu_h_fewestCut (hX : pu_X s R) (v : pu_V I 19 A) (wf : pu_wf A) (g : Nat → Bool) : ∃ I', fb_h_fewestCut 42 19 (pu_mk g 10) (s, I, J, R) = some (pu_oi (pu_bs A (pu_pc A g) 256 0 none), (s, I', J, R)) ∧ pu_Fr 43 I I' := by
  obtain ⟨I1, a1, a2, a3⟩ := pu_s_copyFrom (J := J) (pu_st43 hX) (pu_st19 hX) (by omega) v wf
  obtain ⟨I2, b1, b2⟩ := pu_h_fewestCut_l (J := J) hX wf g 256 0 1048576 I1 none (by omega) (by omega) (fun z hz => by cases hz) (pu_V_fr43 a3 v) a2.w
  refine ⟨I2, ?_, a3.tr b2⟩
  unfold fb_h_fewestCut
  rw [show nI 0 = 0 from rfl, show pu_oi none = -1 from rfl] at b1
  simp only [pu_gN (pu_c42 hX), pu_f42_0 hX, Option.bind_some, pu_on (pu_c43 hX), a1, b1]
theorem pu_x_fewest (hX : pu_X s R) (v : pu_V I 19 A) (wf : pu_wf A) (a b : Int32) : ∃ I' J', fb_x_fewest 1 a b (s, I, J, R) = some (pu_a_fewest A a b, (s, I', J', R)) ∧ pu_Cf I I' J J' := by
  have h5 := wf.1
  unfold fb_x_fewest pu_a_fewest
  simp only [pu_gN (pu_c1 hX), pu_f1_5 hX, pu_f1_9 hX, Option.bind_some, pu_gN (pu_c18 hX), pu_f18_0 hX, pu_on (pu_c19 hX), pu_s_standsA (pu_st19 hX) v wf, pu_b0, pu_x_within]
  cases h1 : pu_hs A a
  · simp only [↓reduceIte]
    exact ⟨I, J, rfl, pu_Cf.rf⟩
  · simp only [Bool.true_eq_false, ↓reduceIte]
    cases h2 : pu_wi b 0 1
    · simp only [↓reduceIte]
      exact ⟨I, J, rfl, pu_Cf.rf⟩
    · obtain ⟨k, hk, rfl, -⟩ := pu_hs_n wf h1
      obtain ⟨I1, a1, a2⟩ := pu_h_fewestCut (J := J) hX v wf (fun z => decide (z = k))
      rw [← pu_mk_1 (show k < 10 by omega) (by omega)] at a1
      simp only [Bool.true_eq_false, ↓reduceIte, pu_gN (pu_c1 hX), pu_f1_5 hX, pu_f1_9 hX, pu_gN (pu_c18 hX), pu_f18_0 hX, Option.bind_some, pu_on (pu_c42 hX), a1, pu_x_ofSet pu_bs_256]
      rw [pu_cl (show k < 2147483648 by omega)]
      exact ⟨I1, J, rfl, pu_Cf.fr (by omega) (by omega) a2⟩
theorem pu_x_down (hX : pu_X s R) (v : pu_V I 19 A) (wf : pu_wf A) (b : Int32) : ∃ I' J', fb_x_down 1 b (s, I, J, R) = some (pu_a_down A b, (s, I', J', R)) ∧ pu_Cf I I' J J' := by
  unfold fb_x_down pu_a_down
  simp only [pu_gN (pu_c1 hX), pu_f1_5 hX, pu_f1_9 hX, Option.bind_some, pu_on (pu_c18 hX), pu_sc_isEmpty hX v wf, pu_b0, decide_eq_false_iff_not, pu_x_within]
  by_cases h0 : A.1 0 0 = 0
  · simp only [h0, not_true, ↓reduceIte]
    exact ⟨I, J, rfl, pu_Cf.rf⟩
  · simp only [h0, not_false_eq_true, ↓reduceIte]
    cases h2 : pu_wi b 0 1
    · simp only [↓reduceIte]
      exact ⟨I, J, rfl, pu_Cf.rf⟩
    · obtain ⟨I1, a1, a2⟩ := pu_h_fewestCut (J := J) hX v wf (A.2 1)
      simp only [Bool.true_eq_false, ↓reduceIte, pu_gN (pu_c1 hX), pu_f1_5 hX, pu_f1_9 hX, pu_gN (pu_c18 hX), pu_f18_0 hX, Option.bind_some, pu_gI (pu_c19 hX), v.1.2.2.2.2.2, pu_on (pu_c42 hX), a1, pu_x_ofSet pu_bs_256]
      exact ⟨I1, J, rfl, pu_Cf.fr (by omega) (by omega) a2⟩
theorem pu_x_byThese (hX : pu_X s R) (v : pu_V I 19 A) (wf : pu_wf A) (b : Int32) : ∃ I' J', fb_x_byThese 1 b (s, I, J, R) = some (pu_a_byThese A b, (s, I', J', R)) ∧ pu_Cf I I' J J' := by
  unfold fb_x_byThese pu_a_byThese
  simp only [pu_gN (pu_c1 hX), pu_f1_5 hX, pu_f1_9 hX, Option.bind_some, pu_on (pu_c18 hX), pu_sc_isEmpty hX v wf, pu_b0, decide_eq_false_iff_not, pu_x_within]
  by_cases h0 : A.1 0 0 = 0
  · simp only [h0, not_true, ↓reduceIte]
    exact ⟨I, J, rfl, pu_Cf.rf⟩
  · simp only [h0, not_false_eq_true, ↓reduceIte]
    cases h2 : pu_wi b 0 1
    · simp only [↓reduceIte]
      exact ⟨I, J, rfl, pu_Cf.rf⟩
    · obtain ⟨I1, a1, a2, a3⟩ := pu_s_copyFrom (J := J) (pu_st43 hX) (pu_st19 hX) (by omega) v wf
      obtain ⟨I2, b1, b2⟩ := pu_h_fewestKept_l (J := J) hX wf 256 0 1048576 I1 none (by omega) (by omega) (fun z hz => by cases hz) (pu_V_fr43 a3 v) a2.w
      rw [show nI 0 = 0 from rfl, show pu_oi none = -1 from rfl] at b1
      simp only [Bool.true_eq_false, ↓reduceIte, pu_gN (pu_c1 hX), pu_f1_5 hX, pu_f1_9 hX, pu_gN (pu_c18 hX), pu_f18_0 hX, Option.bind_some, pu_on (pu_c42 hX), fb_h_fewestKept, pu_gN (pu_c42 hX), pu_f42_0 hX, pu_on (pu_c43 hX), a1, b1, pu_x_ofSet pu_bs_256]
      exact ⟨I2, J, rfl, pu_Cf.fr (by omega) (by omega) (a3.tr b2)⟩
end PUf
