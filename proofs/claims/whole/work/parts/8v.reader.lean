/-! ===== The class's text: begun, gone on, failed; its numbers ===== -/
/-- the fault that is kept: the first one -/
def pu_ft (r : List (Nat × Nat × Nat)) (f why : Nat) : Nat := if f = 0 then (match r with | t :: _ => 1 + 8 * t.2.1 + why | [] => 0) else f
/-- a state of reading: there is no fault, and something to read (the end, at least); or a fault, and nothing more -/
def pu_Rs (r : List (Nat × Nat × Nat)) (f : Nat) : Prop := (f = 0 ∧ r ≠ []) ∨ (f ≠ 0 ∧ r = [])
/-- what holds of tokens -/
def pu_Tg (l : List (Nat × Nat × Nat)) : Prop := ∀ t ∈ l, t.1 ≤ 38 ∧ t.2.1 ≤ 400 ∧ t.2.2 ≤ 99999
/-- what reading changes of the class's text: nothing but fields of it -/
def pu_Xf (I I' : Nat → Nat → Int32) : Prop := (∀ q, q ≠ 2 → I' q = I q) ∧ (∀ k, k = 0 ∨ (4 ≤ k ∧ k ≤ 8) → I' 2 k = I 2 k)
theorem pu_Xf.rf {I : Nat → Nat → Int32} : pu_Xf I I := ⟨fun _ _ => rfl, fun _ _ => rfl⟩
theorem pu_Xf.tr {I I' I2 : Nat → Nat → Int32} (a : pu_Xf I I') (b : pu_Xf I' I2) : pu_Xf I I2 := ⟨fun q h => (b.1 q h).trans (a.1 q h), fun k h => (b.2 k h).trans (a.2 k h)⟩
section PUV1
variable {s : List (Nat × Nat)} {R : Nat → Nat → Option Nat} {l r : List (Nat × Nat × Nat)} {f : Nat}
theorem pu_t_adv {I : Nat → Nat → Int32} {J : Nat → Nat → Int64} (hX : pu_X s R) {t : Nat × Nat × Nat} (h : pu_TX I l (t :: r) f) : ∃ I', fb_t_advance 2 (s, I, J, R) = some (s, I', J, R) ∧ pu_TX I' l r f ∧ pu_Xf I I' := by
  obtain ⟨h1, h2, h3, ⟨i, h4, h5, h6⟩, _⟩ := h
  have hi : i < l.length := by
    rcases Nat.lt_or_ge i l.length with hx | hx
    · exact hx
    · rw [List.drop_eq_nil_of_le hx] at h6; cases h6
  have hr : l.drop (i + 1) = r := by
    rw [List.drop_eq_getElem_cons hi] at h6
    exact (List.cons.inj h6).2.symm
  obtain ⟨I', a1, a2, a3, a4⟩ := pu_t_advance (J := J) (i := i + 1) hX h1 h2 h4 (pu_R1 i) (by omega)
  refine ⟨I', a1, by rw [← hr]; exact a2 f h3, a3, fun k hk => a4 k (by omega) (by omega) (by omega)⟩
theorem pu_t_fail {I : Nat → Nat → Int32} {J : Nat → Nat → Int64} (hX : pu_X s R) (h : pu_TX I l r f) (hs : pu_Rs r f) (hg : pu_Tg l) (hf : f < 10000) {why : Nat} (hw : why ≤ 4) : ∃ I', fb_t_fail 2 (nI why) (s, I, J, R) = some (s, I', J, R) ∧ pu_TX I' l [] (pu_ft r f why) ∧ pu_Rs [] (pu_ft r f why) ∧ pu_ft r f why < 10000 ∧ pu_Xf I I' := by
  obtain ⟨⟨k1, k2⟩, h2, h3, ⟨i, h4, h5, h6⟩, h7⟩ := h
  -- the end of it
  have fin : ∀ (I1 : Nat → Nat → Int32) (f' : Nat), (∀ q, q ≠ 2 → I1 q = I q) → (∀ k, k ≠ 3 → I1 2 k = I 2 k) → I1 2 3 = nI f' → f' ≠ 0 → ∃ I', fj_t_fail_j25 2 (s, I1, J, R) = some (s, I', J, R) ∧ pu_TX I' l [] f' ∧ pu_Xf I I' := by
    intro I1 f' e1 e2 e3 e4
    have x8 : I1 2 8 = nI l.length := by rw [e2 8 (by decide)]; exact k1
    refine ⟨tb_up2 (tb_up2 I1 2 9 (nI l.length)) 2 1 0, ?_, ⟨⟨?_, fun k u hu => ?_⟩, h2, ?_, ⟨l.length, ?_, by omega, (List.drop_eq_nil_of_le (Nat.le_refl _)).symm⟩, pu_u2s _ _ _ _⟩, fun q hq => ?_, fun k hk => ?_⟩
    · unfold fj_t_fail_j25
      simp only [pu_gI (pu_c2 hX), x8, Option.bind_some, pu_pI (pu_c2 hX)]
    · rw [pu_u2k _ _ _ _ (by decide), pu_u2k _ _ _ _ (by decide)]; exact x8
    · rw [pu_u2p _ _ _ _ (show (4 : Nat) ≠ 2 by decide), pu_u2p _ _ _ _ (show (4 : Nat) ≠ 2 by decide), pu_u2p _ _ _ _ (show (5 : Nat) ≠ 2 by decide), pu_u2p _ _ _ _ (show (5 : Nat) ≠ 2 by decide), pu_u2p _ _ _ _ (show (6 : Nat) ≠ 2 by decide), pu_u2p _ _ _ _ (show (6 : Nat) ≠ 2 by decide), e1 4 (by decide), e1 5 (by decide), e1 6 (by decide)]
      exact k2 k u hu
    · rw [pu_u2k _ _ _ _ (by decide), pu_u2k _ _ _ _ (by decide)]; exact e3
    · rw [pu_u2k _ _ _ _ (by decide), pu_u2s]
    · rw [pu_u2p _ _ _ _ hq, pu_u2p _ _ _ _ hq, e1 q hq]
    · rw [pu_u2k _ _ _ _ (by omega), pu_u2k _ _ _ _ (by omega), e2 k (by omega)]
  rcases hs with ⟨hf0, hr⟩ | ⟨hf0, hr⟩
  · subst hf0
    obtain ⟨t, r', rfl⟩ : ∃ t r', r = t :: r' := by
      cases r with
      | nil => exact absurd rfl hr
      | cons t r' => exact ⟨t, r', rfl⟩
    have hi : i < l.length := by
      rcases Nat.lt_or_ge i l.length with hx | hx
      · exact hx
      · rw [List.drop_eq_nil_of_le hx] at h6; cases h6
    have ht : l[i]? = some t := by
      rw [List.drop_eq_getElem_cons hi] at h6
      rw [List.getElem?_eq_getElem hi, (List.cons.inj h6).1]
    have hp := (k2 i t ht).2.1
    have hb := (hg t (List.mem_of_getElem? ht)).2.1
    have ef : pu_ft (t :: r') 0 why = 1 + 8 * t.2.1 + why := by unfold pu_ft; rw [if_pos rfl]
    obtain ⟨I', a1, a2, a3⟩ := fin (tb_up2 I 2 3 (nI (1 + 8 * t.2.1 + why))) (1 + 8 * t.2.1 + why) (fun q hq => pu_u2p _ _ _ _ hq) (fun k hk => pu_u2k _ _ _ _ hk) (pu_u2s _ _ _ _) (by omega)
    have ev : (1 : Int32) + 8 * nI t.2.1 + nI why = nI (1 + 8 * t.2.1 + why) := by rw [show (8 : Int32) = nI 8 from rfl, pu_mul, pu_L1, nI_add]
    rw [ef]
    refine ⟨I', ?_, a2, Or.inr ⟨by omega, rfl⟩, by omega, a3⟩
    unfold fb_t_fail
    simp only [pu_gI (pu_c2 hX), h3, show nI 0 = 0 from rfl, Option.bind_some, ↓reduceIte, h4, pu_lt0 (show i < 2147483648 by omega), pu_gN (pu_c2 hX), pu_f2_6 hX, pu_al (pu_c5 hX), pu_ltI (show i < 2147483648 by omega) (show 401 < 2147483648 by omega), show i < 401 by omega, pu_lI (pu_c5 hX) (show i < 401 by omega) (show 401 ≤ 100000 by omega), hp, ev, pu_pI (pu_c2 hX), a1]
  · have ef : pu_ft r f why = f := by unfold pu_ft; rw [if_neg hf0]
    obtain ⟨I', a1, a2, a3⟩ := fin I f (fun _ _ => rfl) (fun _ _ => rfl) h3 hf0
    have hne : ¬ nI f = 0 := nI_ne0 (by omega) (by omega)
    rw [ef]
    refine ⟨I', ?_, a2, Or.inr ⟨hf0, rfl⟩, hf, a3⟩
    unfold fb_t_fail
    simp only [pu_gI (pu_c2 hX), h3, Option.bind_some, hne, ↓reduceIte, a1]
/-- the kind of what stands here -/
def pu_hk (r : List (Nat × Nat × Nat)) : Nat := match r with | t :: _ => t.1 | [] => 0
theorem pu_TX.kd {I : Nat → Nat → Int32} (h : pu_TX I l r f) : I 2 1 = nI (pu_hk r) := by
  obtain ⟨_, _, _, _, h7⟩ := h
  cases r with
  | nil => exact h7
  | cons t r => exact h7.1
theorem pu_hk_le {I : Nat → Nat → Int32} (h : pu_TX I l r f) (hg : pu_Tg l) : pu_hk r ≤ 38 := by
  obtain ⟨_, _, _, ⟨i, _, _, h6⟩, _⟩ := h
  cases r with
  | nil => exact Nat.zero_le _
  | cons t r => exact (hg t (List.mem_of_mem_drop (h6 ▸ List.mem_cons_self))).1
/-- a number from lo, below hi -/
def pu_rn (lo hi : Nat) (r : List (Nat × Nat × Nat)) (f : Nat) : Nat × List (Nat × Nat × Nat) × Nat := match r with
  | t :: r' => if t.1 = 2 ∧ lo ≤ t.2.2 ∧ t.2.2 < hi then (t.2.2, r', f) else (0, [], pu_ft (t :: r') f (if t.1 = 2 ∨ t.1 = 3 then 1 else 0))
  | [] => (0, [], pu_ft [] f 0)
theorem pu_rn_lt {lo hi : Nat} (hh : 0 < hi) {r : List (Nat × Nat × Nat)} {f : Nat} : (pu_rn lo hi r f).1 < hi := by
  unfold pu_rn
  cases r with
  | nil => exact hh
  | cons t r =>
    dsimp only
    split
    · rename_i h; exact h.2.2
    · exact hh
/-- the rest is never empty without a fault: its last is the end, which is no number -/
def pu_En (l : List (Nat × Nat × Nat)) : Prop := ∀ t r, (∃ i, l.drop i = t :: r) → t.1 ≠ 0 → r ≠ []
theorem pu_sr_number {I : Nat → Nat → Int32} {J : Nat → Nat → Int64} (hX : pu_X s R) (h : pu_TX I l r f) (hs : pu_Rs r f) (hg : pu_Tg l) (he : pu_En l) (hf : f < 10000) {lo hi : Nat} {a2 : Int32} (hlo : lo < 1000) (hhi : hi < 1000) (ha : a2 = nI hi - 1) :
    ∃ I', fb_sr_readNumber 7 (nI lo) a2 (s, I, J, R) = some (nI (pu_rn lo hi r f).1, (s, I', J, R)) ∧ pu_TX I' l (pu_rn lo hi r f).2.1 (pu_rn lo hi r f).2.2 ∧ pu_Rs (pu_rn lo hi r f).2.1 (pu_rn lo hi r f).2.2 ∧ (pu_rn lo hi r f).2.2 < 10000 ∧ pu_Xf I I' := by
  have hk := h.kd
  have hk38 := pu_hk_le h hg
  have e2 : (nI (pu_hk r) = (2 : Int32)) = (pu_hk r = 2) := pu_eqI (b := 2) (by omega) (by omega)
  have e3 : (nI (pu_hk r) = (3 : Int32)) = (pu_hk r = 3) := pu_eqI (b := 3) (by omega) (by omega)
  -- not a number that fits
  have bad : (pu_rn lo hi r f) = (0, [], pu_ft r f (if pu_hk r = 2 ∨ pu_hk r = 3 then 1 else 0)) → ∃ I', fj_sr_readNumber_j19 7 (s, I, J, R) = some (nI (pu_rn lo hi r f).1, (s, I', J, R)) ∧ pu_TX I' l (pu_rn lo hi r f).2.1 (pu_rn lo hi r f).2.2 ∧ pu_Rs (pu_rn lo hi r f).2.1 (pu_rn lo hi r f).2.2 ∧ (pu_rn lo hi r f).2.2 < 10000 ∧ pu_Xf I I' := by
    intro e
    rw [e]
    unfold fj_sr_readNumber_j19
    simp only [pu_gN (pu_c7 hX), pu_f7_1 hX, Option.bind_some, pu_gI (pu_c2 hX), hk, e2, e3, pu_on (pu_c2 hX)]
    by_cases c2 : pu_hk r = 2
    · obtain ⟨I', b1, b2, b3, b4, b5⟩ := pu_t_fail (J := J) (why := 1) hX h hs hg hf (by omega)
      rw [show nI 1 = 1 from rfl] at b1
      simp only [c2, true_or, ↓reduceIte, b1, Option.bind_some]
      exact ⟨I', rfl, b2, b3, b4, b5⟩
    · by_cases c3 : pu_hk r = 3
      · obtain ⟨I', b1, b2, b3, b4, b5⟩ := pu_t_fail (J := J) (why := 1) hX h hs hg hf (by omega)
        rw [show nI 1 = 1 from rfl] at b1
        simp only [c2, c3, or_true, ↓reduceIte, b1, Option.bind_some, show ¬ (3 = 2) by decide]
        exact ⟨I', rfl, b2, b3, b4, b5⟩
      · obtain ⟨I', b1, b2, b3, b4, b5⟩ := pu_t_fail (J := J) (why := 0) hX h hs hg hf (by omega)
        rw [show nI 0 = 0 from rfl] at b1
        simp only [c2, c3, or_self, ↓reduceIte, b1, Option.bind_some]
        exact ⟨I', rfl, b2, b3, b4, b5⟩
  unfold fb_sr_readNumber
  simp only [pu_gN (pu_c7 hX), pu_f7_1 hX, Option.bind_some, pu_gI (pu_c2 hX), hk, e2]
  cases r with
  | nil =>
    have c2 : ¬ pu_hk [] = 2 := by decide
    rw [if_neg c2]
    exact bad rfl
  | cons t r' =>
    have hn : I 2 2 = nI t.2.2 := h.2.2.2.2.2
    obtain ⟨i, _, _, h6⟩ := h.2.2.2.1
    have hv := (hg t (List.mem_of_mem_drop (h6 ▸ List.mem_cons_self))).2.2
    by_cases c2 : pu_hk (t :: r') = 2
    · have c2' : t.1 = 2 := c2
      rw [if_pos c2]
      have hw : pu_wi (nI t.2.2) (nI lo) a2 = decide (lo ≤ t.2.2 ∧ t.2.2 < hi) := by
        unfold pu_wi
        rw [ha]
        have e4 : (nI t.2.2 ≤ nI hi - 1) = (t.2.2 < hi) := by
          cases hi with
          | zero =>
            apply propext
            constructor
            · intro h9
              have h10 : nI t.2.2 < 0 := Int32.lt_of_le_of_lt h9 (by decide)
              exact absurd h10 (pu_lt0 (by omega))
            · intro h9; omega
          | succ hi => rw [nI_pred, pu_leI (by omega) (by omega)]; exact propext (by omega)
        have e5 : decide (nI t.2.2 < nI lo) = decide (t.2.2 < lo) := by simp only [pu_ltI (show t.2.2 < 2147483648 by omega) (show lo < 2147483648 by omega)]
        simp only [e4, e5]
        by_cases x1 : t.2.2 < lo
        · rw [decide_eq_true x1, decide_eq_false (show ¬ (lo ≤ t.2.2 ∧ t.2.2 < hi) by omega)]; rfl
        · rw [decide_eq_false x1]
          by_cases x2 : t.2.2 < hi
          · rw [decide_eq_true x2, decide_eq_true (show lo ≤ t.2.2 ∧ t.2.2 < hi by omega)]; rfl
          · rw [decide_eq_false x2, decide_eq_false (show ¬ (lo ≤ t.2.2 ∧ t.2.2 < hi) by omega)]; rfl
      simp only [hn, pu_x_within, hw, Option.bind_some, pu_b0]
      by_cases c3 : lo ≤ t.2.2 ∧ t.2.2 < hi
      · obtain ⟨I', b1, b2, b3⟩ := pu_t_adv (J := J) hX h
        have er : pu_rn lo hi (t :: r') f = (t.2.2, r', f) := by unfold pu_rn; dsimp only; rw [if_pos ⟨c2', c3⟩]
        rw [er]
        have hrs : pu_Rs r' f := by
          rcases hs with ⟨x1, _⟩ | ⟨_, x2⟩
          · exact Or.inl ⟨x1, he t r' ⟨i, h6.symm⟩ (by omega)⟩
          · cases x2
        refine ⟨I', ?_, b2, hrs, hf, b3⟩
        simp only [c3, and_self, decide_true, Bool.true_eq_false, ↓reduceIte, pu_gN (pu_c7 hX), pu_f7_1 hX, Option.bind_some, pu_on (pu_c2 hX), b1]
      · rw [decide_eq_false c3, if_pos rfl]
        refine bad ?_
        unfold pu_rn
        dsimp only
        rw [if_neg (fun h => c3 h.2)]
        rfl
    · rw [if_neg c2]
      refine bad ?_
      unfold pu_rn
      dsimp only
      rw [if_neg (fun h => c2 h.1)]
      rfl
end PUV1
