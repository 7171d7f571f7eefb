/-! ===== The class's judge (place 40, its heap 41): a rule worked out ===== -/
def pu_Jg (s : List (Nat × Nat)) (R : Nat → Nat → Option Nat) : Prop := s[40]? = some (11, 2) ∧ s[41]? = some (2, 64) ∧ R 40 0 = some 41
/-- a step as the class writes it -/
def pu_en (k v : Nat) : Int32 := if k = 0 then nI v else if k = 1 then -(nI (20 + v)) else if k = 2 then -7 else if k = 3 then -8 else if k = 4 then -9 else if k = 5 then -10 else if k = 6 then -12 else if k = 7 then -13 else if k = 8 then -14 else if k = 9 then -15 else if k = 10 then -16 else if k = 11 then -38 else if k = 12 then -37 else if k = 13 then -36 else -11
def pu_cc (f : Nat → Int32) : Nat → List (Nat × Nat) → Prop
  | _, [] => True
  | b, (k, v) :: c => f b = pu_en k v ∧ k ≤ 14 ∧ v ≤ 99999 ∧ (k = 1 → v < 12) ∧ pu_cc f (b + 1) c
def pu_RC (f : Nat → Int32) : Nat → pu_Ru → Prop
  | _, [] => True
  | i, (sm, none) :: cs => pu_cc f i sm ∧ f (i + sm.length) = -34 ∧ pu_RC f (i + sm.length + 1) cs
  | i, (sm, some t) :: cs => pu_cc f i sm ∧ pu_cc f (i + sm.length) t ∧ f (i + sm.length + t.length) = -35 ∧ pu_RC f (i + sm.length + t.length + 1) cs
def pu_rl : pu_Ru → Nat
  | [] => 0
  | (sm, none) :: cs => sm.length + 1 + pu_rl cs
  | (sm, some t) :: cs => sm.length + t.length + 1 + pu_rl cs
def pu_Jf (I I' : Nat → Nat → Int32) (J J' : Nat → Nat → Int64) : Prop := (∀ q, q ≠ 40 → I' q = I q) ∧ (∀ q, q ≠ 41 → J' q = J q)
theorem pu_Jf.rf {I : Nat → Nat → Int32} {J : Nat → Nat → Int64} : pu_Jf I I J J := ⟨fun _ _ => rfl, fun _ _ => rfl⟩
theorem pu_Jf.tr {I I' I2 : Nat → Nat → Int32} {J J' J2 : Nat → Nat → Int64} (a : pu_Jf I I' J J') (b : pu_Jf I' I2 J' J2) : pu_Jf I I2 J J2 := ⟨fun q h => (b.1 q h).trans (a.1 q h), fun q h => (b.2 q h).trans (a.2 q h)⟩
theorem pu_Jf.ij {I : Nat → Nat → Int32} {J : Nat → Nat → Int64} {v : Int32} {k : Nat} {x : Int64} : pu_Jf I (tb_up2 I 40 1 v) J (tb_up2 J 41 k x) := ⟨fun _ h => pu_u2p _ _ _ _ h, fun _ h => pu_u2p _ _ _ _ h⟩
theorem pu_Jf.i {I : Nat → Nat → Int32} {J : Nat → Nat → Int64} {v : Int32} : pu_Jf I (tb_up2 I 40 1 v) J J := ⟨fun _ h => pu_u2p _ _ _ _ h, fun _ _ => rfl⟩
theorem pu_en_c {k v : Nat} (h2 : 2 ≤ k) (h14 : k ≤ 14) : pu_en k v < 0 ∧ (pu_en k v < -31 ∨ ¬ pu_en k v ≤ -20) ∧ ¬ pu_en k v = -34 ∧ ¬ pu_en k v = -35 ∧ (pu_en k v = -38 ↔ k = 11) := by
  have : k = 2 ∨ k = 3 ∨ k = 4 ∨ k = 5 ∨ k = 6 ∨ k = 7 ∨ k = 8 ∨ k = 9 ∨ k = 10 ∨ k = 11 ∨ k = 12 ∨ k = 13 ∨ k = 14 := by omega
  rcases this with e | e | e | e | e | e | e | e | e | e | e | e | e <;> subst e <;> unfold pu_en <;> simp only [Nat.reduceEqDiff, ↓reduceIte] <;> decide
theorem pu_en_a {k v : Nat} (h : k = 2 ∨ k = 3 ∨ k = 4 ∨ k = 5 ∨ k = 14) (x y : Int64) (w : tb_Hp) : fb_x_within (-(pu_en k v)) 7 11 w = some (1, w) ∧ fb_jg_reckon (-(pu_en k v)) x y w = some (pu_op k x y, w) := by
  rcases h with e | e | e | e | e <;> subst e <;> unfold pu_en fb_x_within fb_jg_reckon pu_op <;> simp only [Nat.reduceEqDiff, ↓reduceIte, lg_cmp_eq]
  · exact ⟨rfl, rfl⟩
  · exact ⟨rfl, rfl⟩
  · exact ⟨rfl, rfl⟩
  · refine ⟨rfl, ?_⟩
    rw [if_neg (by decide), if_neg (by decide), if_neg (by decide), if_pos (by decide)]
    by_cases h : y = 0 <;> simp only [h, ↓reduceIte]
  · refine ⟨rfl, ?_⟩
    rw [if_neg (by decide), if_neg (by decide), if_neg (by decide), if_neg (by decide), if_pos (by decide)]
    by_cases h : y = 0 <;> simp only [h, ↓reduceIte]
theorem pu_en_b {k v : Nat} (h : k = 6 ∨ k = 7 ∨ k = 8 ∨ k = 9 ∨ k = 10 ∨ k = 12 ∨ k = 13) (x y : Int64) (hb : k = 12 ∨ k = 13 → (x = 0 ∨ x = 1) ∧ (y = 0 ∨ y = 1)) (w : tb_Hp) : fb_x_within (-(pu_en k v)) 7 11 w = some (0, w) ∧ fb_jg_truth (-(pu_en k v)) x y w = some (pu_op k x y, w) := by
  rcases h with e | e | e | e | e | e | e <;> subst e <;> unfold pu_en fb_x_within fb_jg_truth pu_op <;> simp only [Nat.reduceEqDiff, ↓reduceIte, lg_cmp_eq, lg_cmp_lt, lg_cmp_le, lg_cmp_gt, fj_jg_truth_j9, fj_jg_truth_j18, fj_jg_truth_j27, fj_jg_truth_j36, fj_jg_truth_j45, fj_jg_truth_j58, fj_jg_truth_j71]
  · refine ⟨rfl, ?_⟩
    rw [if_pos (by decide)]
    by_cases h : x < y <;> simp only [h, ↓reduceIte] <;> rfl
  · refine ⟨rfl, ?_⟩
    rw [if_neg (by decide), if_pos (by decide)]
    by_cases h : x ≤ y <;> simp only [h, ↓reduceIte] <;> rfl
  · refine ⟨rfl, ?_⟩
    rw [if_neg (by decide), if_neg (by decide), if_pos (by decide)]
    by_cases h : x = y <;> simp only [h, ↓reduceIte] <;> rfl
  · refine ⟨rfl, ?_⟩
    rw [if_neg (by decide), if_neg (by decide), if_neg (by decide), if_pos (by decide)]
    by_cases h : x < y <;> simp only [h, ↓reduceIte] <;> rfl
  · refine ⟨rfl, ?_⟩
    rw [if_neg (by decide), if_neg (by decide), if_neg (by decide), if_neg (by decide), if_pos (by decide)]
    by_cases h : y < x <;> simp only [h, ↓reduceIte] <;> rfl
  · refine ⟨rfl, ?_⟩
    rw [if_neg (by decide), if_neg (by decide), if_neg (by decide), if_neg (by decide), if_neg (by decide), if_neg (by decide), if_pos (by decide)]
    obtain ⟨hx, hy⟩ := hb (Or.inl rfl)
    rcases hx with hx | hx <;> rcases hy with hy | hy <;> subst hx <;> subst hy <;> rfl
  · refine ⟨rfl, ?_⟩
    rw [if_neg (by decide), if_neg (by decide), if_neg (by decide), if_neg (by decide), if_neg (by decide), if_pos (by decide)]
    obtain ⟨hx, hy⟩ := hb (Or.inr rfl)
    rcases hx with hx | hx <;> rcases hy with hy | hy <;> subst hx <;> subst hy <;> rfl
section PUJ
variable {s : List (Nat × Nat)} {R : Nat → Nat → Option Nat} {p : Nat} {A : pu_A}
theorem pu_jg_push {I : Nat → Nat → Int32} {J : Nat → Nat → Int64} (hJ : pu_Jg s R) {n : Nat} (hn : I 40 1 = nI n) (h64 : n < 64) (v : Int64) : fb_jg_push 40 v (s, I, J, R) = some (s, tb_up2 I 40 1 (nI (n + 1)), tb_up2 J 41 n v, R) := by
  have hal : tb_al 41 (s, I, J, R) = some (nI 64) := by
    unfold tb_al
    simp only [hJ.2.1]
    rfl
  unfold fb_jg_push
  simp only [pu_gI hJ.1, pu_gN hJ.1, hJ.2.2, Option.bind_some, hn, pu_lt0 (show n < 2147483648 by omega), hal, pu_ltI (show n < 2147483648 by omega) (show 64 < 2147483648 by omega), h64, ↓reduceIte, pu_tJ hJ.2.1 h64 (by omega), pu_pI hJ.1, pu_R1]
theorem pu_jg_pop {I : Nat → Nat → Int32} {J : Nat → Nat → Int64} (hJ : pu_Jg s R) {n : Nat} (hn : I 40 1 = nI (n + 1)) (h64 : n < 64) : fb_jg_pop 40 (s, I, J, R) = some (J 41 n, (s, tb_up2 I 40 1 (nI n), J, R)) := by
  have hal : tb_al 41 (s, I, J, R) = some (nI 64) := by
    unfold tb_al
    simp only [hJ.2.1]
    rfl
  unfold fb_jg_pop
  simp only [pu_gI hJ.1, pu_gN hJ.1, hJ.2.2, Option.bind_some, hn, show (0 : Int32) = nI 0 from rfl, pu_ltI (show 0 < 2147483648 by omega) (show n + 1 < 2147483648 by omega), show 0 < n + 1 by omega, ↓reduceIte, hal, pu_ltI (show 64 < 2147483648 by omega) (show n + 1 < 2147483648 by omega), show ¬ 64 < n + 1 by omega, pu_pI hJ.1, nI_pred, pu_u2s, pu_lJ hJ.2.1 h64 (show 64 ≤ 100000 by omega)]
theorem pu_jg_wordOf {I : Nat → Nat → Int32} {J : Nat → Nat → Int64} (h : pu_St s R p) (v : pu_V I p A) (wf : pu_wf A) {l k : Nat} (hu : A.2 0 l = true) (hk : k < 12) : fb_jg_wordOf (nI (20 + k)) p (nI l) (s, I, J, R) = some (nI (pu_wn A l k), (s, I, J, R)) := by
  have hl := wf.2.2.2.2.2.2.1 l hu
  obtain ⟨g1, g2, g3⟩ := wf.2.2.2.2.2.1 l hl
  have vp := (v.2.2 l hl).2.2 hu
  have : k = 0 ∨ k = 1 ∨ k = 2 ∨ k = 3 ∨ k = 4 ∨ k = 5 ∨ k = 6 ∨ k = 7 ∨ k = 8 ∨ k = 9 ∨ k = 10 ∨ k = 11 := by omega
  unfold fb_jg_wordOf pu_wn
  rcases this with e | e | e | e | e | e | e | e | e | e | e | e <;> subst e <;> simp only [Nat.reduceEqDiff, Nat.reduceAdd, ↓reduceIte]
  · rw [if_pos (by decide)]
  · rw [if_neg (by decide), if_pos (by decide)]
    simp only [pu_on h.1, pu_s_oddOf h v wf hl, Option.bind_some]
  · rw [if_neg (by decide), if_neg (by decide), if_pos (by decide)]
    simp only [pu_on h.1, pu_s_evenOf h v wf hl, Option.bind_some]
  · rw [if_neg (by decide), if_neg (by decide), if_neg (by decide), if_pos (by decide)]
    simp only [pu_on h.1, pu_s_pullOf h v wf hl, Option.bind_some, vp]
  · rw [if_neg (by decide), if_neg (by decide), if_neg (by decide), if_neg (by decide), if_pos (by decide)]
    simp only [pu_on h.1, pu_s_oddOf h v wf hl, Option.bind_some, pu_s_leanOf h v wf (show A.1 3 l < 2 * A.1 0 0 by omega)]
  · rw [if_neg (by decide), if_neg (by decide), if_neg (by decide), if_neg (by decide), if_neg (by decide), if_pos (by decide)]
    simp only [pu_on h.1, pu_s_evenOf h v wf hl, Option.bind_some, pu_s_leanOf h v wf g3]
  · rw [if_neg (by decide), if_neg (by decide), if_neg (by decide), if_neg (by decide), if_neg (by decide), if_neg (by decide), if_pos (by decide)]
    simp only [pu_on h.1, pu_s_oddOf h v wf hl, Option.bind_some, pu_s_footOf h v wf (show A.1 3 l < 2 * A.1 0 0 by omega)]
  · rw [if_neg (by decide), if_neg (by decide), if_neg (by decide), if_neg (by decide), if_neg (by decide), if_neg (by decide), if_neg (by decide), if_pos (by decide)]
    simp only [pu_on h.1, pu_s_evenOf h v wf hl, Option.bind_some, pu_s_footOf h v wf g3]
  · rw [if_neg (by decide), if_neg (by decide), if_neg (by decide), if_neg (by decide), if_neg (by decide), if_neg (by decide), if_neg (by decide), if_neg (by decide), if_pos (by decide)]
    simp only [pu_gI h.1, Option.bind_some, v.1.2.2.2.2.1, pu_bitCount8]
  · rw [if_neg (by decide), if_neg (by decide), if_neg (by decide), if_neg (by decide), if_neg (by decide), if_neg (by decide), if_neg (by decide), if_neg (by decide), if_neg (by decide), if_pos (by decide)]
    simp only [pu_gI h.1, Option.bind_some, v.1.2.2.2.2.2, pu_bitCount]
  · rw [if_neg (by decide), if_neg (by decide), if_neg (by decide), if_neg (by decide), if_neg (by decide), if_neg (by decide), if_neg (by decide), if_neg (by decide), if_neg (by decide), if_neg (by decide), if_pos (by decide)]
    simp only [pu_gI h.1, Option.bind_some, v.1.2.1]
  · rw [if_neg (by decide), if_neg (by decide), if_neg (by decide), if_neg (by decide), if_neg (by decide), if_neg (by decide), if_neg (by decide), if_neg (by decide), if_neg (by decide), if_neg (by decide), if_neg (by decide), if_pos (by decide)]
    simp only [pu_gI h.1, Option.bind_some, v.1.2.2.1]
end PUJ
