/-! ===== The class splits the tape ===== -/
section PUU1
variable {s : List (Nat × Nat)} {R : Nat → Nat → Option Nat} {b : Nat → Nat} {tl : Nat}
theorem pu_t_num_l {I : Nat → Nat → Int32} {J : Nat → Nat → Int64} (hX : pu_X s R) (h : pu_TB I b tl) {p : Nat} : ∀ d k n, p + k + d = tl → d < n → (∀ i, i < k → pu_isd (b (p + i)) = true) → fl_t_splitNumber_4 n 2 (nI p) (nI (pu_dv b p k)) (nI (p + k)) (s, I, J, R) = some (2, nI p, nI (pu_dv b p (pu_ff (fun z => !pu_isd (b z)) d (p + k) - p)), nI (pu_ff (fun z => !pu_isd (b z)) d (p + k)), (s, I, J, R)) := by
  have h400 := h.2.1
  intro d
  induction d with
  | zero =>
    intro k n hk hn hd
    obtain ⟨n, rfl⟩ : ∃ z, n = z + 1 := ⟨n - 1, by omega⟩
    rw [fl_t_splitNumber_4.eq_2]
    simp only [pu_gI (pu_c2 hX), h.1, Option.bind_some, pu_ltI (show p + k < 2147483648 by omega) (show tl < 2147483648 by omega), show ¬ p + k < tl by omega, ↓reduceIte]
    rw [show pu_ff (fun z => !pu_isd (b z)) 0 (p + k) = p + k from rfl, Nat.add_sub_cancel_left]
  | succ d ih =>
    intro k n hk hn hd
    obtain ⟨n, rfl⟩ : ∃ z, n = z + 1 := ⟨n - 1, by omega⟩
    have hb := (h.2.2 (p + k) (by omega)).1
    have e5 : (nI (p + k) - nI p < (5 : Int32)) = (k < 5) := by rw [pu_sub (by omega), Nat.add_sub_cancel_left]; exact pu_ltI (b := 5) (by omega) (by omega)
    have ed := pu_dv_le hd
    rw [fl_t_splitNumber_4.eq_2, show pu_ff (fun z => !pu_isd (b z)) (d + 1) (p + k) = if (!pu_isd (b (p + k))) = true then p + k else pu_ff (fun z => !pu_isd (b z)) d (p + k + 1) from rfl]
    simp only [pu_gI (pu_c2 hX), h.1, Option.bind_some, pu_ltI (show p + k < 2147483648 by omega) (show tl < 2147483648 by omega), show p + k < tl by omega, ↓reduceIte, pu_on (pu_c2 hX), pu_t_byteAt hX h (show p + k ≤ 1000 by omega), pu_t_isDigit (show b (p + k) < 1000 by omega), pu_b0, e5]
    cases hc : pu_isd (b (p + k))
    · simp only [↓reduceIte, Bool.not_false, Nat.add_sub_cancel_left]
    · have hih := ih (k + 1) n (by omega) (by omega) (fun i hi => by
        by_cases e : i = k
        · rw [e]; exact hc
        · exact hd i (by omega))
      have hs : pu_dv b p (k + 1) = if k < 5 then 10 * pu_dv b p k + (b (p + k) - 48) else pu_dv b p k := rfl
      have h48 : 48 ≤ b (p + k) := by
        unfold pu_isd at hc
        rw [Bool.and_eq_true, decide_eq_true_eq] at hc
        exact hc.1
      rw [hs, show p + (k + 1) = p + k + 1 by omega] at hih
      simp only [Bool.true_eq_false, ↓reduceIte, Bool.not_true, Bool.false_eq_true]
      rw [← nI_succ]
      by_cases h5 : k < 5
      · rw [if_pos h5] at hih ⊢
        have ev : nI (pu_dv b p k) * 10 + nI (b (p + k)) - 48 = nI (10 * pu_dv b p k + (b (p + k) - 48)) := by
          rw [show (10 : Int32) = nI 10 from rfl, pu_mul, nI_add, show (48 : Int32) = nI 48 from rfl, pu_sub (by omega)]
          congr 1
          omega
        simp only [Option.bind_some, ev]
        exact hih
      · rw [if_neg h5] at hih ⊢
        exact hih
theorem pu_t_splitNumber {I : Nat → Nat → Int32} {J : Nat → Nat → Int64} (hX : pu_X s R) (h : pu_TB I b tl) {p : Nat} (hp : p < tl) {l : List (Nat × Nat × Nat)} (ht : pu_TK I l) (hl : l.length ≤ 400) : ∃ I', fb_t_splitNumber 2 (nI p) (s, I, J, R) = some (nI (pu_de b tl p), (s, I', J, R)) ∧ pu_TK I' (l ++ [(if 5 < pu_de b tl p - p then 3 else 2, p, pu_dv b p (pu_de b tl p - p))]) ∧ (∀ q, q ≠ 2 → (q < 4 ∨ 6 < q) → I' q = I q) ∧ (∀ k, k ≠ 8 → I' 2 k = I 2 k) := by
  have h400 := h.2.1
  have e := pu_t_num_l (J := J) hX h (p := p) (tl - p) 0 1048576 (by omega) (by omega) (fun i hi => absurd hi (Nat.not_lt_zero _))
  rw [show nI (pu_dv b p 0) = 0 from rfl, Nat.add_zero, show pu_ff (fun z => !pu_isd (b z)) (tl - p) p = pu_de b tl p from rfl] at e
  have hle : pu_de b tl p ≤ tl := by have := pu_ff_le (fun k => !pu_isd (b k)) (tl - p) p; unfold pu_de; omega
  have hge : p ≤ pu_de b tl p := pu_ff_ge _ _ _
  have e5 : ((5 : Int32) < nI (pu_de b tl p) - nI p) = (5 < pu_de b tl p - p) := by rw [pu_sub hge]; exact pu_ltI (a := 5) (by omega) (by omega)
  obtain ⟨I', a1, a2, a3, a4⟩ := pu_t_addToken (J := J) hX ht hl (if 5 < pu_de b tl p - p then 3 else 2, p, pu_dv b p (pu_de b tl p - p))
  refine ⟨I', ?_, a2, a3, a4⟩
  unfold fb_t_splitNumber
  simp only [e, Option.bind_some, e5, pu_on (pu_c2 hX)]
  by_cases h5 : 5 < pu_de b tl p - p
  · simp only [h5, ↓reduceIte] at a1 ⊢
    rw [show (3 : Int32) = nI 3 from rfl, a1]; rfl
  · simp only [h5, ↓reduceIte] at a1 ⊢
    rw [show (2 : Int32) = nI 2 from rfl, a1]; rfl
theorem pu_t_word_l {I : Nat → Nat → Int32} {J : Nat → Nat → Int64} (hX : pu_X s R) (h : pu_TB I b tl) {p : Int32} : ∀ d k n, k + d = tl → d < n → fl_t_splitWord_2 n 2 p (nI k) (s, I, J, R) = some (2, p, nI (pu_ff (fun z => !pu_isl (b z)) d k), (s, I, J, R)) := by
  have h400 := h.2.1
  intro d
  induction d with
  | zero =>
    intro k n hk hn
    obtain ⟨n, rfl⟩ : ∃ z, n = z + 1 := ⟨n - 1, by omega⟩
    rw [fl_t_splitWord_2.eq_2]
    simp only [pu_gI (pu_c2 hX), h.1, Option.bind_some, pu_ltI (show k < 2147483648 by omega) (show tl < 2147483648 by omega), show ¬ k < tl by omega, ↓reduceIte]
    rfl
  | succ d ih =>
    intro k n hk hn
    obtain ⟨n, rfl⟩ : ∃ z, n = z + 1 := ⟨n - 1, by omega⟩
    have hb := (h.2.2 k (by omega)).1
    have hih := ih (k + 1) n (by omega) (by omega)
    rw [fl_t_splitWord_2.eq_2, show pu_ff (fun z => !pu_isl (b z)) (d + 1) k = if (!pu_isl (b k)) = true then k else pu_ff (fun z => !pu_isl (b z)) d (k + 1) from rfl]
    simp only [pu_gI (pu_c2 hX), h.1, Option.bind_some, pu_ltI (show k < 2147483648 by omega) (show tl < 2147483648 by omega), show k < tl by omega, ↓reduceIte, pu_on (pu_c2 hX), pu_t_byteAt hX h (show k ≤ 1000 by omega), pu_t_isLetter (show b k < 1000 by omega), pu_b0]
    cases hc : pu_isl (b k)
    · simp only [↓reduceIte, Bool.not_false]
    · simp only [Bool.true_eq_false, ↓reduceIte, Bool.not_true, Bool.false_eq_true]
      rw [← nI_succ]
      exact hih
/-- the class's words are these -/
theorem pu_tx_w : ∀ k, k < 19 → tb_tx k = (pu_wl.getD k []).map nI ∧ (pu_wl.getD k []).length ≤ 8 ∧ 0 < (pu_wl.getD k []).length := by
  intro k hk
  have : k = 0 ∨ k = 1 ∨ k = 2 ∨ k = 3 ∨ k = 4 ∨ k = 5 ∨ k = 6 ∨ k = 7 ∨ k = 8 ∨ k = 9 ∨ k = 10 ∨ k = 11 ∨ k = 12 ∨ k = 13 ∨ k = 14 ∨ k = 15 ∨ k = 16 ∨ k = 17 ∨ k = 18 := by omega
  rcases this with h | h | h | h | h | h | h | h | h | h | h | h | h | h | h | h | h | h | h <;> subst h <;> exact ⟨rfl, by decide, by decide⟩
theorem pu_tb_tx : tb_P.2.2.2 = tb_tx := by unfold tb_P; rfl
theorem pu_tl_w {k : Nat} (hk : k < 19) : tb_tl tb_P.2.2.2 k = some (nI (pu_wl.getD k []).length) := by
  obtain ⟨h1, h2, h3⟩ := pu_tx_w k hk
  rw [pu_tb_tx]
  unfold tb_tl
  rw [h1, List.length_map]
  cases h : pu_wl.getD k [] with
  | nil => rw [h] at h3; exact absurd h3 (by decide)
  | cons a l => rfl
theorem pu_tc_w {k i : Nat} (hk : k < 19) (hi : i < (pu_wl.getD k []).length) : tb_tc tb_P.2.2.2 k (nI i) = some (nI ((pu_wl.getD k []).getD i 0)) := by
  obtain ⟨h1, h2, h3⟩ := pu_tx_w k hk
  rw [pu_tb_tx]
  unfold tb_tc
  rw [h1, List.length_map, pu_in hi (by omega), nI_clamp (by omega)]
  simp only [↓reduceIte]
  generalize pu_wl.getD k [] = l at hi ⊢
  rw [List.getD_eq_getElem?_getD, List.getD_eq_getElem?_getD, List.getElem?_map, List.getElem?_eq_getElem hi]
  rfl
theorem pu_wl_lt : ∀ k, k < 19 → ∀ i, (pu_wl.getD k []).getD i 0 < 256 := by
  intro k hk i
  have hk2 : ∀ k, k < 19 → ∀ x ∈ pu_wl.getD k [], x < 256 := by decide
  rw [List.getD_eq_getElem?_getD]
  cases h : (pu_wl.getD k [])[i]? with
  | none => show 0 < 256; omega
  | some x => exact hk2 k hk x (List.mem_of_getElem? h)
theorem pu_t_spelt_l {I : Nat → Nat → Int32} {J : Nat → Nat → Int64} (hX : pu_X s R) (h : pu_TB I b tl) {p k : Nat} (hk : k < 19) (hp : p + (pu_wl.getD k []).length ≤ tl) : ∀ d i n, i + d = (pu_wl.getD k []).length → d < n → fl_t_isSpelt_10 n 2 k (nI p) (nI i) (s, I, J, R) = some (pu_b (pu_fr (fun i => decide ((pu_wl.getD k []).getD i 0 = b (p + i))) d i), (s, I, J, R)) := by
  have h400 := h.2.1
  intro d
  induction d with
  | zero =>
    intro i n hi hn
    obtain ⟨n, rfl⟩ : ∃ z, n = z + 1 := ⟨n - 1, by omega⟩
    rw [fl_t_isSpelt_10.eq_2]
    simp only [pu_tl_w hk, Option.bind_some, pu_ltI (show i < 2147483648 by omega) (show (pu_wl.getD k []).length < 2147483648 by omega), show ¬ i < (pu_wl.getD k []).length by omega, ↓reduceIte, fj_t_isSpelt_j27]
    rfl
  | succ d ih =>
    intro i n hi hn
    obtain ⟨n, rfl⟩ : ∃ z, n = z + 1 := ⟨n - 1, by omega⟩
    have hih := ih (i + 1) n (by omega) (by omega)
    have hb := (h.2.2 (p + i) (by omega)).1
    have hw := pu_wl_lt k hk i
    rw [fl_t_isSpelt_10.eq_2]
    simp only [pu_tl_w hk, Option.bind_some, pu_ltI (show i < 2147483648 by omega) (show (pu_wl.getD k []).length < 2147483648 by omega), show i < (pu_wl.getD k []).length by omega, ↓reduceIte, pu_tc_w hk (show i < (pu_wl.getD k []).length by omega), nI_add, pu_on (pu_c2 hX), pu_t_byteAt hX h (show p + i ≤ 1000 by omega), show p + i < tl by omega, pu_eqI (show (pu_wl.getD k []).getD i 0 < 2147483648 by omega) (show b (p + i) < 2147483648 by omega)]
    show _ = some (pu_b (decide ((pu_wl.getD k []).getD i 0 = b (p + i)) && pu_fr _ d (i + 1)), _)
    by_cases he : (pu_wl.getD k []).getD i 0 = b (p + i)
    · rw [if_pos he, decide_eq_true he, Bool.true_and, pu_R1]
      exact hih
    · rw [if_neg he, decide_eq_false he]
      rfl
theorem pu_t_isSpelt {I : Nat → Nat → Int32} {J : Nat → Nat → Int64} (hX : pu_X s R) (h : pu_TB I b tl) {p e k : Nat} (hk : k < 19) (hp : p ≤ e) (he : e ≤ tl) : fb_t_isSpelt 2 k (nI p) (nI e) (s, I, J, R) = some (pu_b (pu_isw b p e k), (s, I, J, R)) := by
  have h400 := h.2.1
  obtain ⟨_, h8, _⟩ := pu_tx_w k hk
  unfold fb_t_isSpelt pu_isw
  simp only [pu_tl_w hk, Option.bind_some, pu_sub hp, pu_eqI (show (pu_wl.getD k []).length < 2147483648 by omega) (show e - p < 2147483648 by omega)]
  by_cases hq : (pu_wl.getD k []).length = e - p
  · have := pu_t_spelt_l (J := J) hX h hk (p := p) (by omega) (pu_wl.getD k []).length 0 1048576 (by omega) (by omega)
    rw [show nI 0 = 0 from rfl] at this
    rw [if_pos hq, decide_eq_true hq, this, Bool.true_and]
    rfl
  · rw [if_neg hq, decide_eq_false hq]
    rfl
theorem pu_t_spellingOf : ∀ k, k < 19 → ∀ w : tb_Hp, fb_t_spellingOf (nI (20 + k)) w = some (k, w) := by
  intro k hk w
  have : k = 0 ∨ k = 1 ∨ k = 2 ∨ k = 3 ∨ k = 4 ∨ k = 5 ∨ k = 6 ∨ k = 7 ∨ k = 8 ∨ k = 9 ∨ k = 10 ∨ k = 11 ∨ k = 12 ∨ k = 13 ∨ k = 14 ∨ k = 15 ∨ k = 16 ∨ k = 17 ∨ k = 18 := by omega
  rcases this with h | h | h | h | h | h | h | h | h | h | h | h | h | h | h | h | h | h | h <;> subst h <;> rfl
theorem pu_t_found_l {I : Nat → Nat → Int32} {J : Nat → Nat → Int64} (hX : pu_X s R) (h : pu_TB I b tl) {p e : Nat} (hp : p ≤ e) (he : e ≤ tl) : ∀ d k n, k + d = 19 → d < n → fl_t_splitWord_17 n 2 (nI p) (nI e) (nI (pu_wk b p e k)) (nI (20 + k)) (s, I, J, R) = some (2, nI p, nI e, nI (pu_wk b p e 19), (s, I, J, R)) := by
  intro d
  induction d with
  | zero =>
    intro k n hk hn
    obtain ⟨n, rfl⟩ : ∃ z, n = z + 1 := ⟨n - 1, by omega⟩
    have hc : ¬ nI (20 + k) < (39 : Int32) := by rw [show (39 : Int32) = nI 39 from rfl, pu_ltI (by omega) (by omega)]; omega
    rw [fl_t_splitWord_17.eq_2]
    simp only [hc, ↓reduceIte]
    rw [show k = 19 by omega]
  | succ d ih =>
    intro k n hk hn
    obtain ⟨n, rfl⟩ : ∃ z, n = z + 1 := ⟨n - 1, by omega⟩
    have hih := ih (k + 1) n (by omega) (by omega)
    have hc : nI (20 + k) < (39 : Int32) := by rw [show (39 : Int32) = nI 39 from rfl, pu_ltI (by omega) (by omega)]; omega
    rw [show pu_wk b p e (k + 1) = if pu_isw b p e k then 20 + k else pu_wk b p e k from rfl, show 20 + (k + 1) = 20 + k + 1 by omega] at hih
    rw [fl_t_splitWord_17.eq_2]
    simp only [hc, ↓reduceIte, pu_t_spellingOf k (by omega), Option.bind_some, pu_on (pu_c2 hX), pu_t_isSpelt hX h (show k < 19 by omega) hp he, pu_b0, pu_R1]
    cases hw : pu_isw b p e k
    · rw [hw, if_neg (by decide)] at hih
      rw [if_pos rfl]
      exact hih
    · rw [hw, if_pos rfl] at hih
      rw [if_neg (by decide)]
      exact hih
theorem pu_t_splitWord {I : Nat → Nat → Int32} {J : Nat → Nat → Int64} (hX : pu_X s R) (h : pu_TB I b tl) {p : Nat} (hp : p < tl) {l : List (Nat × Nat × Nat)} (ht : pu_TK I l) (hl : l.length ≤ 400) : ∃ I', fb_t_splitWord 2 (nI p) (s, I, J, R) = some (nI (pu_le b tl p), (s, I', J, R)) ∧ pu_TK I' (l ++ [(pu_wk b p (pu_le b tl p) 19, p, 0)]) ∧ (∀ q, q ≠ 2 → (q < 4 ∨ 6 < q) → I' q = I q) ∧ (∀ k, k ≠ 8 → I' 2 k = I 2 k) := by
  have h400 := h.2.1
  have hle : pu_le b tl p ≤ tl := by have := pu_ff_le (fun k => !pu_isl (b k)) (tl - p) p; unfold pu_le; omega
  have hge : p ≤ pu_le b tl p := pu_ff_ge _ _ _
  have e1 := pu_t_word_l (J := J) hX h (p := nI p) (tl - p) p 1048576 (by omega) (by omega)
  rw [show pu_ff (fun z => !pu_isl (b z)) (tl - p) p = pu_le b tl p from rfl] at e1
  have e2 := pu_t_found_l (J := J) hX h hge hle 19 0 1048576 (by omega) (by omega)
  rw [show nI (pu_wk b p (pu_le b tl p) 0) = 1 from rfl, show nI (20 + 0) = 20 from rfl] at e2
  obtain ⟨I', a1, a2, a3, a4⟩ := pu_t_addToken (J := J) hX ht hl (pu_wk b p (pu_le b tl p) 19, p, 0)
  rw [show nI (pu_wk b p (pu_le b tl p) 19, p, 0).2.2 = 0 from rfl] at a1
  refine ⟨I', ?_, a2, a3, a4⟩
  unfold fb_t_splitWord
  simp only [e1, Option.bind_some, e2, pu_on (pu_c2 hX), a1]
theorem pu_sg_le (c : Nat) : pu_sg c ≤ 16 := by
  unfold pu_sg
  repeat' split
  all_goals omega
theorem pu_t_splitSign {I : Nat → Nat → Int32} {J : Nat → Nat → Int64} (hX : pu_X s R) (h : pu_TB I b tl) {p : Nat} (hp : p < tl) {l : List (Nat × Nat × Nat)} (ht : pu_TK I l) (hl : l.length ≤ 400) (h1 : b p ≠ 32) (h2 : pu_isd (b p) = false) (h3 : pu_isl (b p) = false) : ∃ I', fb_t_splitSign 2 (nI p) (s, I, J, R) = some (nI (pu_t1 b tl p).2, (s, I', J, R)) ∧ (∃ t, (pu_t1 b tl p).1 = some t ∧ pu_TK I' (l ++ [t])) ∧ (∀ q, q ≠ 2 → (q < 4 ∨ 6 < q) → I' q = I q) ∧ (∀ k, k ≠ 8 → I' 2 k = I 2 k) := by
  have h400 := h.2.1
  have hb := (h.2.2 p hp).1
  have sg := pu_sg_le (b p)
  have e61 : ((if p + 1 < tl then nI (b (p + 1)) else -1) = (61 : Int32)) = (p + 1 < tl ∧ b (p + 1) = 61) := by
    by_cases hc : p + 1 < tl
    · have hb2 := (h.2.2 (p + 1) hc).1
      rw [if_pos hc]
      have : (nI (b (p + 1)) = (61 : Int32)) = (b (p + 1) = 61) := pu_eqI (b := 61) (by omega) (by omega)
      rw [this]
      simp only [hc, true_and]
    · rw [if_neg hc]
      simp only [hc, false_and]
      exact propext ⟨fun h => absurd h (by decide), fun h => h.elim⟩
  have e12 : (nI (pu_sg (b p)) = (12 : Int32)) = (pu_sg (b p) = 12) := pu_eqI (b := 12) (by omega) (by omega)
  have e16 : (nI (pu_sg (b p)) = (16 : Int32)) = (pu_sg (b p) = 16) := pu_eqI (b := 16) (by omega) (by omega)
  have add : ∀ k, ∃ I', fb_t_addToken 2 (nI k) (nI p) 0 (s, I, J, R) = some (s, I', J, R) ∧ pu_TK I' (l ++ [(k, p, 0)]) ∧ (∀ q, q ≠ 2 → (q < 4 ∨ 6 < q) → I' q = I q) ∧ (∀ k, k ≠ 8 → I' 2 k = I 2 k) := fun k => pu_t_addToken (J := J) hX ht hl (k, p, 0)
  unfold fb_t_splitSign pu_t1
  rw [if_neg h1, h2, if_neg (by decide), h3, if_neg (by decide)]
  simp only [pu_on (pu_c2 hX), pu_t_byteAt hX h (show p ≤ 1000 by omega), hp, ↓reduceIte, Option.bind_some, pu_t_signOf hb, pu_R1, pu_t_byteAt hX h (show p + 1 ≤ 1000 by omega), e61, e12, e16]
  by_cases c1 : p + 1 < tl ∧ b (p + 1) = 61
  · by_cases c2 : pu_sg (b p) = 12
    · obtain ⟨I', a1, a2, a3, a4⟩ := add 13
      refine ⟨I', ?_, ⟨(13, p, 0), ?_, a2⟩, a3, a4⟩
      · simp only [c1, c2, and_self, true_or, ↓reduceIte, fj_t_splitSign_j18, show nI 12 = 12 from rfl, pu_on (pu_c2 hX), show (13 : Int32) = nI 13 from rfl, a1, Option.bind_some, pu_R2]
      · simp only [c1, c2, and_self, true_or, ↓reduceIte]
    · by_cases c3 : pu_sg (b p) = 16
      · obtain ⟨I', a1, a2, a3, a4⟩ := add 15
        refine ⟨I', ?_, ⟨(15, p, 0), ?_, a2⟩, a3, a4⟩
        · simp only [c1, c2, c3, and_self, or_true, ↓reduceIte, fj_t_splitSign_j18, show ¬ (nI 16 = (12 : Int32)) by decide, show ¬ (16 = 12) by decide, pu_on (pu_c2 hX), show (15 : Int32) = nI 15 from rfl, a1, Option.bind_some, pu_R2]
        · simp only [c1, c3, and_self, or_true, ↓reduceIte, show ¬ (16 = 12) by decide]
      · obtain ⟨I', a1, a2, a3, a4⟩ := add (pu_sg (b p))
        refine ⟨I', ?_, ⟨(pu_sg (b p), p, 0), ?_, a2⟩, a3, a4⟩
        · simp only [c1, c2, c3, or_self, and_false, ↓reduceIte, fj_t_splitSign_j32, pu_on (pu_c2 hX), a1, Option.bind_some, pu_R1, and_self]
        · simp only [c2, c3, or_self, and_false, ↓reduceIte]
  · obtain ⟨I', a1, a2, a3, a4⟩ := add (pu_sg (b p))
    refine ⟨I', ?_, ⟨(pu_sg (b p), p, 0), ?_, a2⟩, a3, a4⟩
    · simp only [c1, false_and, ↓reduceIte, fj_t_splitSign_j32, pu_on (pu_c2 hX), a1, Option.bind_some, pu_R1]
    · simp only [c1, false_and, ↓reduceIte]
/-- the loop: from place p on -/
theorem pu_t_begin_l (hX : pu_X s R) : ∀ d p st n (I : Nat → Nat → Int32) (J : Nat → Nat → Int64) (l : List (Nat × Nat × Nat)), p + d = tl → st ≤ p → d < n → pu_TB I b tl → pu_TK I l → l.length ≤ p →
    ∃ I', fl_t_begin_7 n 2 (nI p) (nI st) (s, I, J, R) = some (2, (s, I', J, R)) ∧ pu_TK I' (l ++ pu_tk b tl p) ∧ (l ++ pu_tk b tl p).length ≤ 400 ∧ (∀ q, q ≠ 2 → (q < 4 ∨ 6 < q) → I' q = I q) ∧ (∀ k, k ≠ 8 → I' 2 k = I 2 k) := by
  intro d
  induction d using Nat.strongRecOn with
  | _ d ih =>
    intro p st n I J l hp hst hn h ht hl
    obtain ⟨n, rfl⟩ : ∃ z, n = z + 1 := ⟨n - 1, by omega⟩
    have h400 := h.2.1
    by_cases hpt : p < tl
    · have hb := (h.2.2 p hpt).1
      have hg := pu_t1_gt b hpt
      have e32 : (nI (b p) = (32 : Int32)) = (b p = 32) := pu_eqI (b := 32) (by omega) (by omega)
      have hc4 : nI st < (400 : Int32) := by rw [show (400 : Int32) = nI 400 from rfl, pu_ltI (by omega) (by omega)]; omega
      have ek := pu_tk_s b hpt
      -- a token, and on
      have go : ∀ (t : Nat × Nat × Nat) (q : Nat) (I1 : Nat → Nat → Int32), pu_t1 b tl p = (some t, q) → pu_TK I1 (l ++ [t]) → (∀ z, z ≠ 2 → (z < 4 ∨ 6 < z) → I1 z = I z) → (∀ k, k ≠ 8 → I1 2 k = I 2 k) → ∃ I', fl_t_begin_7 n 2 (nI q) (nI (st + 1)) (s, I1, J, R) = some (2, (s, I', J, R)) ∧ pu_TK I' (l ++ pu_tk b tl p) ∧ (l ++ pu_tk b tl p).length ≤ 400 ∧ (∀ q, q ≠ 2 → (q < 4 ∨ 6 < q) → I' q = I q) ∧ (∀ k, k ≠ 8 → I' 2 k = I 2 k) := by
        intro t q I1 ht1 hk1 f1 f2
        rw [ht1] at hg ek
        have hg : p < q ∧ q ≤ tl := hg
        have ek : pu_tk b tl p = t :: pu_tk b tl q := ek
        obtain ⟨I', a1, a2, a3, a4, a5⟩ := ih (tl - q) (by omega) q (st + 1) n I1 J (l ++ [t]) (by omega) (by omega) (by omega) ⟨by rw [f2 0 (by decide)]; exact h.1, h400, fun k hk => by rw [f1 3 (by decide) (by omega)]; exact h.2.2 k hk⟩ hk1 (by rw [List.length_append]; show l.length + 1 ≤ q; omega)
        rw [List.append_assoc, List.singleton_append, ← ek] at a2 a3
        exact ⟨I', a1, a2, a3, fun z h1 h2 => by rw [a4 z h1 h2, f1 z h1 h2], fun k hk => by rw [a5 k hk, f2 k hk]⟩
      rw [fl_t_begin_7.eq_2]
      simp only [hc4, ↓reduceIte, pu_gI (pu_c2 hX), h.1, Option.bind_some, pu_ltI (show p < 2147483648 by omega) (show tl < 2147483648 by omega), hpt, pu_on (pu_c2 hX), pu_t_byteAt hX h (show p ≤ 1000 by omega), e32, pu_R1, pu_t_isDigit (show b p < 1000 by omega), pu_t_isLetter (show b p < 1000 by omega), pu_b0]
      by_cases c1 : b p = 32
      · have t1e : pu_t1 b tl p = (none, p + 1) := by unfold pu_t1; rw [if_pos c1]
        rw [t1e] at ek
        have ek : pu_tk b tl p = pu_tk b tl (p + 1) := ek
        obtain ⟨I', a1, a2, a3, a4, a5⟩ := ih (tl - (p + 1)) (by omega) (p + 1) (st + 1) n I J l (by omega) (by omega) (by omega) h ht (by omega)
        rw [if_pos c1, ek]
        exact ⟨I', a1, a2, a3, a4, a5⟩
      · rw [if_neg c1]
        cases c2 : pu_isd (b p)
        · rw [if_pos rfl]
          cases c3 : pu_isl (b p)
          · obtain ⟨I1, a1, ⟨t, a2, a2'⟩, a3, a4⟩ := pu_t_splitSign (J := J) hX h hpt ht (by omega) c1 c2 c3
            rw [if_pos rfl]
            simp only [a1, Option.bind_some]
            exact go t (pu_t1 b tl p).2 I1 (Prod.ext a2 rfl) a2' a3 a4
          · obtain ⟨I1, a1, a2, a3, a4⟩ := pu_t_splitWord (J := J) hX h hpt ht (by omega)
            rw [if_neg (by decide)]
            simp only [a1, Option.bind_some]
            exact go _ _ I1 (by unfold pu_t1; rw [if_neg c1, c2, if_neg (by decide), c3, if_pos rfl]) a2 a3 a4
        · obtain ⟨I1, a1, a2, a3, a4⟩ := pu_t_splitNumber (J := J) hX h hpt ht (by omega)
          rw [if_neg (by decide)]
          simp only [a1, Option.bind_some]
          exact go _ _ I1 (by unfold pu_t1; rw [if_neg c1, c2, if_pos rfl]) a2 a3 a4
    · refine ⟨I, ?_, ?_, ?_, fun _ _ _ => rfl, fun _ _ => rfl⟩
      · rw [fl_t_begin_7.eq_2]
        simp only [pu_gI (pu_c2 hX), h.1, Option.bind_some, pu_ltI (show p < 2147483648 by omega) (show tl < 2147483648 by omega), hpt, ↓reduceIte, ite_self]
      · rw [pu_tk_e b (by omega), List.append_nil]; exact ht
      · rw [pu_tk_e b (by omega), List.append_nil]; omega
/-- all tokens, with the end -/
def pu_tt (b : Nat → Nat) (tl p : Nat) : List (Nat × Nat × Nat) := pu_tk b tl p ++ [(0, tl, 0)]
/-- where the class's text stands: the rest r of the tokens l, its fault -/
def pu_TX (I : Nat → Nat → Int32) (l r : List (Nat × Nat × Nat)) (f : Nat) : Prop := pu_TK I l ∧ l.length ≤ 401 ∧ I 2 3 = nI f ∧ (∃ i, I 2 9 = nI i ∧ i ≤ 402 ∧ r = l.drop i) ∧ (match r with | t :: _ => I 2 1 = nI t.1 ∧ I 2 2 = nI t.2.2 | [] => I 2 1 = 0)
theorem pu_t_advance {I : Nat → Nat → Int32} {J : Nat → Nat → Int64} (hX : pu_X s R) {l : List (Nat × Nat × Nat)} {i : Nat} {a : Int32} (hk : pu_TK I l) (hl : l.length ≤ 401) (ha : I 2 9 = a) (hi : a + 1 = nI i) (hi2 : i ≤ 401) : ∃ I', fb_t_advance 2 (s, I, J, R) = some (s, I', J, R) ∧ (∀ f, I 2 3 = nI f → pu_TX I' l (l.drop i) f) ∧ (∀ q, q ≠ 2 → I' q = I q) ∧ (∀ k, k ≠ 1 → k ≠ 2 → k ≠ 9 → I' 2 k = I 2 k) := by
  obtain ⟨h1, h2⟩ := hk
  have x8 : tb_up2 I 2 9 (nI i) 2 8 = nI l.length := by rw [pu_u2k _ _ _ _ (by decide)]; exact h1
  by_cases hlt : i < l.length
  · obtain ⟨t, ht⟩ : ∃ t, l[i]? = some t := ⟨_, List.getElem?_eq_getElem hlt⟩
    obtain ⟨t1, t2, t3⟩ := h2 i t ht
    have hd : l.drop i = t :: l.drop (i + 1) := by
      rw [List.drop_eq_getElem_cons hlt]
      congr 1
      rw [List.getElem?_eq_getElem hlt] at ht
      exact Option.some.inj ht
    refine ⟨tb_up2 (tb_up2 (tb_up2 I 2 9 (nI i)) 2 1 (nI t.1)) 2 2 (nI t.2.2), ?_, fun f hf => ⟨⟨?_, fun k u hu => ?_⟩, hl, ?_, ⟨i, ?_, by omega, rfl⟩, ?_⟩, fun q hq => ?_, fun k h3 h4 h5 => ?_⟩
    · have y9 : tb_up2 (tb_up2 I 2 9 (nI i)) 2 1 (nI t.1) 2 9 = nI i := by rw [pu_u2k _ _ _ _ (by decide), pu_u2s]
      have z4 : tb_up2 I 2 9 (nI i) 4 i = nI t.1 := by rw [pu_u2p _ _ _ _ (by decide)]; exact t1
      have z6 : tb_up2 (tb_up2 I 2 9 (nI i)) 2 1 (nI t.1) 6 i = nI t.2.2 := by rw [pu_u2p _ _ _ _ (by decide), pu_u2p _ _ _ _ (by decide)]; exact t3
      unfold fb_t_advance
      simp only [pu_gI (pu_c2 hX), ha, Option.bind_some, hi, pu_pI (pu_c2 hX), pu_u2s, pu_lt0 (show i < 2147483648 by omega), ↓reduceIte, x8, pu_ltI (show i < 2147483648 by omega) (show l.length < 2147483648 by omega), hlt, pu_gN (pu_c2 hX), pu_f2_5 hX, pu_f2_7 hX, pu_al (pu_c4 hX), pu_ltI (show i < 2147483648 by omega) (show 401 < 2147483648 by omega), show i < 401 by omega, fj_t_advance_j23, show ¬ ((1 : Int32) = 0) by decide, pu_lI (pu_c4 hX) (show i < 401 by omega) (show 401 ≤ 100000 by omega), z4, fj_t_advance_j34, y9, pu_lI (pu_c6 hX) (show i < 401 by omega) (show 401 ≤ 100000 by omega), z6]
    · rw [pu_u2k _ _ _ _ (by decide), pu_u2k _ _ _ _ (by decide), pu_u2k _ _ _ _ (by decide)]; exact h1
    · rw [pu_u2p _ _ _ _ (show (4 : Nat) ≠ 2 by decide), pu_u2p _ _ _ _ (show (4 : Nat) ≠ 2 by decide), pu_u2p _ _ _ _ (show (4 : Nat) ≠ 2 by decide), pu_u2p _ _ _ _ (show (5 : Nat) ≠ 2 by decide), pu_u2p _ _ _ _ (show (5 : Nat) ≠ 2 by decide), pu_u2p _ _ _ _ (show (5 : Nat) ≠ 2 by decide), pu_u2p _ _ _ _ (show (6 : Nat) ≠ 2 by decide), pu_u2p _ _ _ _ (show (6 : Nat) ≠ 2 by decide), pu_u2p _ _ _ _ (show (6 : Nat) ≠ 2 by decide)]
      exact h2 k u hu
    · rw [pu_u2k _ _ _ _ (by decide), pu_u2k _ _ _ _ (by decide), pu_u2k _ _ _ _ (by decide)]; exact hf
    · rw [pu_u2k _ _ _ _ (by decide), pu_u2k _ _ _ _ (by decide), pu_u2s]
    · rw [hd]
      exact ⟨by rw [pu_u2k _ _ _ _ (by decide), pu_u2s], pu_u2s _ _ _ _⟩
    · rw [pu_u2p _ _ _ _ hq, pu_u2p _ _ _ _ hq, pu_u2p _ _ _ _ hq]
    · rw [pu_u2k _ _ _ _ h4, pu_u2k _ _ _ _ h3, pu_u2k _ _ _ _ h5]
  · have hd : l.drop i = [] := List.drop_eq_nil_of_le (by omega)
    refine ⟨tb_up2 (tb_up2 (tb_up2 I 2 9 (nI i)) 2 1 0) 2 2 0, ?_, fun f hf => ⟨⟨?_, fun k u hu => ?_⟩, hl, ?_, ⟨i, ?_, by omega, rfl⟩, ?_⟩, fun q hq => ?_, fun k h3 h4 h5 => ?_⟩
    · unfold fb_t_advance
      simp only [pu_gI (pu_c2 hX), ha, Option.bind_some, hi, pu_pI (pu_c2 hX), pu_u2s, pu_lt0 (show i < 2147483648 by omega), ↓reduceIte, x8, pu_ltI (show i < 2147483648 by omega) (show l.length < 2147483648 by omega), hlt, fj_t_advance_j23, fj_t_advance_j34]
    · rw [pu_u2k _ _ _ _ (by decide), pu_u2k _ _ _ _ (by decide), pu_u2k _ _ _ _ (by decide)]; exact h1
    · rw [pu_u2p _ _ _ _ (show (4 : Nat) ≠ 2 by decide), pu_u2p _ _ _ _ (show (4 : Nat) ≠ 2 by decide), pu_u2p _ _ _ _ (show (4 : Nat) ≠ 2 by decide), pu_u2p _ _ _ _ (show (5 : Nat) ≠ 2 by decide), pu_u2p _ _ _ _ (show (5 : Nat) ≠ 2 by decide), pu_u2p _ _ _ _ (show (5 : Nat) ≠ 2 by decide), pu_u2p _ _ _ _ (show (6 : Nat) ≠ 2 by decide), pu_u2p _ _ _ _ (show (6 : Nat) ≠ 2 by decide), pu_u2p _ _ _ _ (show (6 : Nat) ≠ 2 by decide)]
      exact h2 k u hu
    · rw [pu_u2k _ _ _ _ (by decide), pu_u2k _ _ _ _ (by decide), pu_u2k _ _ _ _ (by decide)]; exact hf
    · rw [pu_u2k _ _ _ _ (by decide), pu_u2k _ _ _ _ (by decide), pu_u2s]
    · rw [hd]
      show tb_up2 _ 2 2 0 2 1 = 0
      rw [pu_u2k _ _ _ _ (by decide), pu_u2s]
    · rw [pu_u2p _ _ _ _ hq, pu_u2p _ _ _ _ hq, pu_u2p _ _ _ _ hq]
    · rw [pu_u2k _ _ _ _ h4, pu_u2k _ _ _ _ h3, pu_u2k _ _ _ _ h5]
end PUU1
