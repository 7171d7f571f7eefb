/-! ===== The tape as tokens (kind, place, number); the class splits it ===== -/
def pu_isd (c : Nat) : Bool := decide (48 ≤ c) && decide (c ≤ 57)
def pu_isl (c : Nat) : Bool := decide (97 ≤ c) && decide (c ≤ 122)
/-- where digits, letters end -/
def pu_de (b : Nat → Nat) (tl p : Nat) : Nat := pu_ff (fun k => !pu_isd (b k)) (tl - p) p
def pu_le (b : Nat → Nat) (tl p : Nat) : Nat := pu_ff (fun k => !pu_isl (b k)) (tl - p) p
/-- a number by its first five digits -/
def pu_dv (b : Nat → Nat) (p : Nat) : Nat → Nat
  | 0 => 0
  | k + 1 => if k < 5 then 10 * pu_dv b p k + (b (p + k) - 48) else pu_dv b p k
/-- the words, by their letters -/
def pu_wl : List (List Nat) := [[108, 105, 110, 101], [111, 100, 100], [101, 118, 101, 110], [112, 117, 108, 108], [108, 101, 97, 110, 111, 100, 100], [108, 101, 97, 110, 101, 118, 101, 110], [102, 111, 111, 116, 111, 100, 100], [102, 111, 111, 116, 101, 118, 101, 110], [117, 112], [115, 116, 97, 110, 100, 105, 110, 103], [102, 97, 100, 101, 115], [121, 101, 97, 114], [115, 116, 114, 101, 101, 116], [104, 111, 117, 115, 101], [107, 101, 101, 112], [105, 102], [111, 114], [97, 110, 100], [110, 111, 116]]
def pu_spl (b : Nat → Nat) (p : Nat) (l : List Nat) : Bool := pu_fr (fun i => decide (l.getD i 0 = b (p + i))) l.length 0
def pu_isw (b : Nat → Nat) (p e k : Nat) : Bool := decide ((pu_wl.getD k []).length = e - p) && pu_spl b p (pu_wl.getD k [])
def pu_wk (b : Nat → Nat) (p e : Nat) : Nat → Nat
  | 0 => 1
  | k + 1 => if pu_isw b p e k then 20 + k else pu_wk b p e k
def pu_sg (c : Nat) : Nat := if c = 37 then 11 else if c = 42 then 9 else if c = 43 then 7 else if c = 45 then 8 else if c = 47 then 10 else if c = 59 then 4 else if c = 60 then 12 else if c = 61 then 14 else if c = 62 then 16 else if c = 91 then 5 else if c = 93 then 6 else 1
/-- one step from place p: a token or none, and where it goes on -/
def pu_t1 (b : Nat → Nat) (tl p : Nat) : Option (Nat × Nat × Nat) × Nat :=
  if b p = 32 then (none, p + 1) else if pu_isd (b p) then (some (if 5 < pu_de b tl p - p then 3 else 2, p, pu_dv b p (pu_de b tl p - p)), pu_de b tl p) else if pu_isl (b p) then (some (pu_wk b p (pu_le b tl p) 19, p, 0), pu_le b tl p)
  else if (p + 1 < tl ∧ b (p + 1) = 61) ∧ (pu_sg (b p) = 12 ∨ pu_sg (b p) = 16) then (some (if pu_sg (b p) = 12 then 13 else 15, p, 0), p + 2) else (some (pu_sg (b p), p, 0), p + 1)
def pu_ts (b : Nat → Nat) (tl : Nat) : Nat → Nat → List (Nat × Nat × Nat)
  | 0, _ => []
  | n + 1, p => if p < tl then (match (pu_t1 b tl p).1 with | some t => t :: pu_ts b tl n (pu_t1 b tl p).2 | none => pu_ts b tl n (pu_t1 b tl p).2) else []
theorem pu_ff_gt {f : Nat → Bool} {n i : Nat} (h : f i = false) (hn : 0 < n) : i < pu_ff f n i := by
  obtain ⟨n, rfl⟩ : ∃ z, n = z + 1 := ⟨n - 1, by omega⟩
  show i < (if f i then i else pu_ff f n (i + 1))
  rw [h, if_neg (by decide)]
  have := pu_ff_ge f n (i + 1)
  omega
theorem pu_t1_gt (b : Nat → Nat) {tl p : Nat} (hp : p < tl) : p < (pu_t1 b tl p).2 ∧ (pu_t1 b tl p).2 ≤ tl := by
  unfold pu_t1
  by_cases h1 : b p = 32
  · rw [if_pos h1]; exact ⟨by show p < p + 1; omega, hp⟩
  · rw [if_neg h1]
    by_cases h2 : pu_isd (b p) = true
    · rw [if_pos h2]
      refine ⟨pu_ff_gt (by rw [h2]; rfl) (by omega), ?_⟩
      have := pu_ff_le (fun k => !pu_isd (b k)) (tl - p) p
      show pu_ff _ _ _ ≤ tl
      omega
    · rw [if_neg h2]
      by_cases h3 : pu_isl (b p) = true
      · rw [if_pos h3]
        refine ⟨pu_ff_gt (by rw [h3]; rfl) (by omega), ?_⟩
        have := pu_ff_le (fun k => !pu_isl (b k)) (tl - p) p
        show pu_ff _ _ _ ≤ tl
        omega
      · rw [if_neg h3]
        by_cases h4 : (p + 1 < tl ∧ b (p + 1) = 61) ∧ (pu_sg (b p) = 12 ∨ pu_sg (b p) = 16)
        · rw [if_pos h4]; exact ⟨by show p < p + 2; omega, by show p + 2 ≤ tl; omega⟩
        · rw [if_neg h4]; exact ⟨by show p < p + 1; omega, hp⟩
theorem pu_ts_more (b : Nat → Nat) (tl : Nat) : ∀ n m p, tl ≤ p + n → n ≤ m → pu_ts b tl m p = pu_ts b tl n p := by
  intro n
  induction n with
  | zero =>
    intro m p h1 h2
    cases m with
    | zero => rfl
    | succ m => show (if p < tl then _ else []) = []; rw [if_neg (by omega)]
  | succ n ih =>
    intro m p h1 h2
    obtain ⟨m, rfl⟩ : ∃ z, m = z + 1 := ⟨m - 1, by omega⟩
    show (if p < tl then _ else []) = (if p < tl then _ else [])
    by_cases hp : p < tl
    · have hg := pu_t1_gt b hp
      rw [if_pos hp, if_pos hp, ih m _ (by omega) (by omega)]
    · rw [if_neg hp, if_neg hp]
/-- all tokens from p on, but for the end -/
def pu_tk (b : Nat → Nat) (tl p : Nat) : List (Nat × Nat × Nat) := pu_ts b tl tl p
theorem pu_tk_s (b : Nat → Nat) {tl p : Nat} (hp : p < tl) : pu_tk b tl p = match (pu_t1 b tl p).1 with | some t => t :: pu_tk b tl (pu_t1 b tl p).2 | none => pu_tk b tl (pu_t1 b tl p).2 := by
  have hg := pu_t1_gt b hp
  unfold pu_tk
  have e : pu_ts b tl tl p = pu_ts b tl (tl - 1 + 1) p := by rw [show tl - 1 + 1 = tl by omega]
  rw [e]
  show (if p < tl then _ else []) = _
  rw [if_pos hp, pu_ts_more b tl (tl - 1) tl _ (by omega) (by omega)]
theorem pu_tk_e (b : Nat → Nat) {tl p : Nat} (hp : tl ≤ p) : pu_tk b tl p = [] := by
  unfold pu_tk
  cases tl with
  | zero => rfl
  | succ tl => show (if p < tl + 1 then _ else []) = []; rw [if_neg (by omega)]
/-- how the class keeps tokens -/
def pu_TK (I : Nat → Nat → Int32) (l : List (Nat × Nat × Nat)) : Prop := I 2 8 = nI l.length ∧ ∀ i t, l[i]? = some t → I 4 i = nI t.1 ∧ I 5 i = nI t.2.1 ∧ I 6 i = nI t.2.2
/-- the class's tape -/
def pu_TB (I : Nat → Nat → Int32) (b : Nat → Nat) (tl : Nat) : Prop := I 2 0 = nI tl ∧ tl ≤ 400 ∧ ∀ k, k < tl → b k < 256 ∧ I 3 k = nI (b k)
section PUT1
variable {s : List (Nat × Nat)} {I : Nat → Nat → Int32} {J : Nat → Nat → Int64} {R : Nat → Nat → Option Nat} {b : Nat → Nat} {tl : Nat}
theorem pu_t_byteAt (hX : pu_X s R) (h : pu_TB I b tl) {p : Nat} (hp : p ≤ 1000) : fb_t_byteAt 2 (nI p) (s, I, J, R) = some (if p < tl then nI (b p) else -1, (s, I, J, R)) := by
  obtain ⟨h1, h2, h3⟩ := h
  unfold fb_t_byteAt
  simp only [pu_lt0 (show p < 2147483648 by omega), ↓reduceIte, pu_gI (pu_c2 hX), h1, Option.bind_some, pu_ltI (show p < 2147483648 by omega) (show tl < 2147483648 by omega), pu_gN (pu_c2 hX), pu_f2_4 hX, pu_al (pu_c3 hX), pu_ltI (show p < 2147483648 by omega) (show 400 < 2147483648 by omega)]
  by_cases hl : p < tl
  · simp only [hl, ↓reduceIte, show p < 400 by omega, pu_lI (pu_c3 hX) (show p < 400 by omega) (show 400 ≤ 100000 by omega), Option.bind_some, (h3 p hl).2]
  · simp only [hl, ↓reduceIte]
theorem pu_t_isDigit {c : Nat} (hc : c < 1000) (w : tb_Hp) : fb_t_isDigit (nI c) w = some (pu_b (pu_isd c), w) := by
  unfold fb_t_isDigit pu_isd
  simp only [show (48 : Int32) = nI 48 from rfl, show (57 : Int32) = nI 57 from rfl, pu_ltI (show c < 2147483648 by omega) (show 48 < 2147483648 by omega), pu_leI (show c < 2147483648 by omega) (show 57 < 2147483648 by omega)]
  by_cases h1 : c < 48
  · rw [if_pos h1, decide_eq_false (by omega)]; rfl
  · rw [if_neg h1, decide_eq_true (by omega)]
    by_cases h2 : c ≤ 57
    · rw [if_pos h2, decide_eq_true h2]; rfl
    · rw [if_neg h2, decide_eq_false h2]; rfl
theorem pu_t_isLetter {c : Nat} (hc : c < 1000) (w : tb_Hp) : fb_t_isLetter (nI c) w = some (pu_b (pu_isl c), w) := by
  unfold fb_t_isLetter pu_isl
  simp only [show (97 : Int32) = nI 97 from rfl, show (122 : Int32) = nI 122 from rfl, pu_ltI (show c < 2147483648 by omega) (show 97 < 2147483648 by omega), pu_leI (show c < 2147483648 by omega) (show 122 < 2147483648 by omega)]
  by_cases h1 : c < 97
  · rw [if_pos h1, decide_eq_false (by omega)]; rfl
  · rw [if_neg h1, decide_eq_true (by omega)]
    by_cases h2 : c ≤ 122
    · rw [if_pos h2, decide_eq_true h2]; rfl
    · rw [if_neg h2, decide_eq_false h2]; rfl
theorem pu_t_signOf {c : Nat} (hc : c < 256) (w : tb_Hp) : fb_t_signOf (nI c) w = some (nI (pu_sg c), w) := by
  have e : ∀ z, z < 256 → ((nI c = nI z) = (c = z)) := fun z hz => pu_eqI (by omega) (by omega)
  unfold fb_t_signOf pu_sg
  rw [show (37 : Int32) = nI 37 from rfl, show (42 : Int32) = nI 42 from rfl, show (43 : Int32) = nI 43 from rfl, show (45 : Int32) = nI 45 from rfl, show (47 : Int32) = nI 47 from rfl, show (59 : Int32) = nI 59 from rfl, show (60 : Int32) = nI 60 from rfl, show (61 : Int32) = nI 61 from rfl, show (62 : Int32) = nI 62 from rfl, show (91 : Int32) = nI 91 from rfl, show (93 : Int32) = nI 93 from rfl]
  simp only [e 37 (by omega), e 42 (by omega), e 43 (by omega), e 45 (by omega), e 47 (by omega), e 59 (by omega), e 60 (by omega), e 61 (by omega), e 62 (by omega), e 91 (by omega), e 93 (by omega)]
  repeat' split
  all_goals rfl
theorem pu_t_addToken (hX : pu_X s R) {l : List (Nat × Nat × Nat)} (h : pu_TK I l) (hl : l.length ≤ 400) (t : Nat × Nat × Nat) : ∃ I', fb_t_addToken 2 (nI t.1) (nI t.2.1) (nI t.2.2) (s, I, J, R) = some (s, I', J, R) ∧ pu_TK I' (l ++ [t]) ∧ (∀ q, q ≠ 2 → (q < 4 ∨ 6 < q) → I' q = I q) ∧ (∀ k, k ≠ 8 → I' 2 k = I 2 k) := by
  obtain ⟨h1, h2⟩ := h
  have x1 : ∀ v, tb_up2 I 4 l.length v 2 8 = nI l.length := fun v => by rw [pu_u2p _ _ _ _ (by decide)]; exact h1
  have x2 : ∀ v u, tb_up2 (tb_up2 I 4 l.length v) 5 l.length u 2 8 = nI l.length := fun v u => by rw [pu_u2p _ _ _ _ (by decide)]; exact x1 v
  have x3 : ∀ v u y, tb_up2 (tb_up2 (tb_up2 I 4 l.length v) 5 l.length u) 6 l.length y 2 8 = nI l.length := fun v u y => by rw [pu_u2p _ _ _ _ (by decide)]; exact x2 v u
  refine ⟨tb_up2 (tb_up2 (tb_up2 (tb_up2 I 4 l.length (nI t.1)) 5 l.length (nI t.2.1)) 6 l.length (nI t.2.2)) 2 8 (nI (l.length + 1)), ?_, ⟨?_, ?_⟩, ?_, ?_⟩
  · unfold fb_t_addToken
    simp only [pu_gI (pu_c2 hX), h1, Option.bind_some, pu_lt0 (show l.length < 2147483648 by omega), ↓reduceIte, pu_gN (pu_c2 hX), pu_f2_5 hX, pu_f2_6 hX, pu_f2_7 hX, pu_al (pu_c4 hX), pu_ltI (show l.length < 2147483648 by omega) (show 401 < 2147483648 by omega), show l.length < 401 by omega, pu_tI (pu_c4 hX) (show l.length < 401 by omega) (show 401 ≤ 100000 by omega), x1, pu_tI (pu_c5 hX) (show l.length < 401 by omega) (show 401 ≤ 100000 by omega), x2, pu_tI (pu_c6 hX) (show l.length < 401 by omega) (show 401 ≤ 100000 by omega), x3, pu_R1, pu_pI (pu_c2 hX)]
  · rw [pu_u2s, List.length_append]; rfl
  · intro i u hu
    rw [pu_u2p _ _ _ _ (show (4 : Nat) ≠ 2 by decide), pu_u2p _ _ _ _ (show (5 : Nat) ≠ 2 by decide), pu_u2p _ _ _ _ (show (6 : Nat) ≠ 2 by decide), pu_u2p _ _ _ _ (show (4 : Nat) ≠ 6 by decide), pu_u2p _ _ _ _ (show (4 : Nat) ≠ 5 by decide), pu_u2i, pu_u2p _ _ _ _ (show (5 : Nat) ≠ 6 by decide), pu_u2i, pu_u2i, pu_u2p _ _ _ _ (show (5 : Nat) ≠ 4 by decide), pu_u2p _ _ _ _ (show (6 : Nat) ≠ 5 by decide), pu_u2p _ _ _ _ (show (6 : Nat) ≠ 4 by decide)]
    by_cases e : i = l.length
    · rw [e, List.getElem?_append_right (Nat.le_refl _), Nat.sub_self] at hu
      cases hu
      rw [if_pos e, if_pos e, if_pos e]
      exact ⟨rfl, rfl, rfl⟩
    · have hlt : i < (l ++ [t]).length := (List.getElem?_eq_some_iff.mp hu).1
      rw [List.length_append] at hlt
      have hlt : i < l.length + 1 := hlt
      rw [List.getElem?_append_left (by omega)] at hu
      rw [if_neg e, if_neg e, if_neg e]
      exact h2 i u hu
  · intro q hq hq2
    rw [pu_u2p _ _ _ _ hq, pu_u2p _ _ _ _ (by omega), pu_u2p _ _ _ _ (by omega), pu_u2p _ _ _ _ (by omega)]
  · intro k hk
    rw [pu_u2k _ _ _ _ hk, pu_u2p _ _ _ _ (by decide), pu_u2p _ _ _ _ (by decide), pu_u2p _ _ _ _ (by decide)]
theorem pu_dv_lt (b : Nat → Nat) (p : Nat) : ∀ k, (∀ i, i < k → pu_isd (b (p + i)) = true) → pu_dv b p k < 10 ^ (min k 5) := by
  intro k
  induction k with
  | zero => intro _; exact Nat.one_pos
  | succ k ih =>
    intro h
    have hk := h k (by omega)
    have ih := ih (fun i hi => h i (by omega))
    unfold pu_isd at hk
    rw [Bool.and_eq_true, decide_eq_true_eq, decide_eq_true_eq] at hk
    show (if k < 5 then 10 * pu_dv b p k + (b (p + k) - 48) else pu_dv b p k) < _
    by_cases h5 : k < 5
    · rw [if_pos h5, Nat.min_eq_left (by omega), Nat.pow_succ]
      rw [Nat.min_eq_left (by omega)] at ih
      omega
    · rw [if_neg h5, Nat.min_eq_right (by omega)]
      rw [Nat.min_eq_right (by omega)] at ih
      exact ih
theorem pu_dv_le {b : Nat → Nat} {p k : Nat} (h : ∀ i, i < k → pu_isd (b (p + i)) = true) : pu_dv b p k ≤ 99999 := by
  have h1 := pu_dv_lt b p k h
  have h2 : 10 ^ (min k 5) ≤ 10 ^ 5 := Nat.pow_le_pow_right (by decide) (Nat.min_le_right _ _)
  have h3 : (10 : Nat) ^ 5 = 100000 := by decide
  omega
theorem pu_de_d {b : Nat → Nat} {tl p : Nat} : ∀ i, i < pu_de b tl p - p → pu_isd (b (p + i)) = true := by
  intro i hi
  have := pu_ff_no (fun k => !pu_isd (b k)) (tl - p) p (p + i) (by omega) (by unfold pu_de at hi; omega)
  cases h : pu_isd (b (p + i))
  · rw [h] at this; cases this
  · rfl
end PUT1
