/-! ===== The class reads a street ===== -/
theorem pu_wk_le (b : Nat → Nat) (p e : Nat) : ∀ k, k ≤ 19 → pu_wk b p e k ≤ 38
  | 0, _ => by show 1 ≤ 38; omega
  | k + 1, h => by
    show (if pu_isw b p e k then 20 + k else pu_wk b p e k) ≤ 38
    split
    · omega
    · exact pu_wk_le b p e k (by omega)
theorem pu_t1_ok (b : Nat → Nat) {tl p : Nat} (htl : tl ≤ 400) (hp : p < tl) {t : Nat × Nat × Nat} (h : (pu_t1 b tl p).1 = some t) : t.1 ≤ 38 ∧ t.2.1 ≤ 400 ∧ t.2.2 ≤ 99999 := by
  unfold pu_t1 at h
  split at h
  · cases h
  · split at h
    · cases h
      refine ⟨?_, by show p ≤ 400; omega, pu_dv_le pu_de_d⟩
      show (if 5 < pu_de b tl p - p then 3 else 2) ≤ 38
      split <;> omega
    · split at h
      · cases h
        exact ⟨pu_wk_le b p _ 19 (Nat.le_refl _), by show p ≤ 400; omega, by show 0 ≤ 99999; omega⟩
      · split at h
        · cases h
          refine ⟨?_, by show p ≤ 400; omega, by show 0 ≤ 99999; omega⟩
          show (if pu_sg (b p) = 12 then 13 else 15) ≤ 38
          split <;> omega
        · cases h
          refine ⟨?_, by show p ≤ 400; omega, by show 0 ≤ 99999; omega⟩
          have := pu_sg_le (b p)
          show pu_sg (b p) ≤ 38
          omega
theorem pu_ts_ok (b : Nat → Nat) {tl : Nat} (htl : tl ≤ 400) : ∀ n p, pu_Tg (pu_ts b tl n p)
  | 0, _ => fun t ht => by cases ht
  | n + 1, p => by
    intro t ht
    have ht : t ∈ (if p < tl then (match (pu_t1 b tl p).1 with | some t => t :: pu_ts b tl n (pu_t1 b tl p).2 | none => pu_ts b tl n (pu_t1 b tl p).2) else []) := ht
    by_cases hp : p < tl
    · rw [if_pos hp] at ht
      cases h1 : (pu_t1 b tl p).1 with
      | none => rw [h1] at ht; exact pu_ts_ok b htl n _ t ht
      | some u =>
        rw [h1] at ht
        rcases List.mem_cons.mp ht with e | e
        · subst e; exact pu_t1_ok b htl hp h1
        · exact pu_ts_ok b htl n _ t e
    · rw [if_neg hp] at ht; cases ht
theorem pu_tt_ok (b : Nat → Nat) {tl p : Nat} (htl : tl ≤ 400) : pu_Tg (pu_tt b tl p) := by
  intro t ht
  rcases List.mem_append.mp ht with h | h
  · exact pu_ts_ok b htl tl p t h
  · rcases List.mem_cons.mp h with e | e
    · subst e; exact ⟨by show 0 ≤ 38; omega, by show tl ≤ 400; omega, by show 0 ≤ 99999; omega⟩
    · cases e
theorem pu_tt_en (b : Nat → Nat) (tl p : Nat) : pu_En (pu_tt b tl p) := by
  rintro t r ⟨i, hi⟩ ht hr
  subst hr
  have h1 : ((pu_tt b tl p).drop i).getLast? = some t := by rw [hi]; rfl
  rw [List.getLast?_drop] at h1
  split at h1
  · cases h1
  · unfold pu_tt at h1
    rw [List.getLast?_append] at h1
    have h2 : (0, tl, 0) = t := by
      have : some (0, tl, 0) = some t := h1
      exact Option.some.inj this
    exact ht (by rw [← h2])
/-- what reading a street changes of the class: its text, and the fresh street -/
def pu_Yx (I I' : Nat → Nat → Int32) : Prop := (∀ q, q ≠ 2 → (q < 8 ∨ 15 ≤ q) → I' q = I q) ∧ (∀ k, k = 0 ∨ (4 ≤ k ∧ k ≤ 8) → I' 2 k = I 2 k)
theorem pu_Yx.tr {I I' I2 : Nat → Nat → Int32} (a : pu_Yx I I') (b : pu_Yx I' I2) : pu_Yx I I2 := ⟨fun q h h2 => (b.1 q h h2).trans (a.1 q h h2), fun k h => (b.2 k h).trans (a.2 k h)⟩
theorem pu_Yx.rf {I : Nat → Nat → Int32} : pu_Yx I I := ⟨fun _ _ _ => rfl, fun _ _ => rfl⟩
theorem pu_Yx.xf {I I' : Nat → Nat → Int32} (a : pu_Xf I I') : pu_Yx I I' := ⟨fun q h _ => a.1 q h, a.2⟩
theorem pu_Yx.fr {I I' : Nat → Nat → Int32} (a : pu_Fr 8 I I') : pu_Yx I I' := ⟨fun q h h2 => a q (by omega), fun k _ => by rw [a 2 (by omega)]⟩
theorem pu_TX_eq {I I' : Nat → Nat → Int32} {l r : List (Nat × Nat × Nat)} {f : Nat} (e2 : I' 2 = I 2) (e4 : I' 4 = I 4) (e5 : I' 5 = I 5) (e6 : I' 6 = I 6) (h : pu_TX I l r f) : pu_TX I' l r f := by
  unfold pu_TX pu_TK at h ⊢
  rw [e2, e4, e5, e6]; exact h
/-- a street as it is read: nothing stands yet, all lines are up -/
def pu_Fv (F : pu_A) : Prop := pu_wf F ∧ F.1 0 2 = 0 ∧ (∀ l, F.2 0 l = decide (l < F.1 0 3)) ∧ (∀ h, F.2 1 h = false) ∧ (∀ k, F.1 1 k ≤ 60 ∧ F.1 2 k ≤ 60 ∧ F.1 5 k ≤ 60)
def pu_hs2 (F : pu_A) (v1 v2 : Nat) : pu_A := pu_n (pu_n F 0 0 v1) 0 1 v2
def pu_hh2 (F : pu_A) (a l o : Nat) : pu_A := pu_n (pu_n F 1 a l) 2 a o
/-- a clause, the c-th -/
def pu_cla (c : Nat) (F : pu_A) (r : List (Nat × Nat × Nat)) (f : Nat) : pu_A × List (Nat × Nat × Nat) × Nat := match r with
  | [] => (F, [], pu_ft [] f 0)
  | t :: r1 =>
    if ¬ (t.1 = 32 ∨ t.1 = 33 ∨ t.1 = 20) then (F, [], pu_ft (t :: r1) f 0)
    else if ¬ (t.1 = 32 ↔ c = 0) ∨ (t.1 = 20 ∧ 8 ≤ F.1 0 3) ∨ 40 ≤ c then (F, [], pu_ft (t :: r1) f 4)
    else if t.1 = 32 then (pu_hs2 F (pu_rn 1 6 r1 f).1 (pu_rn 0 10 (pu_rn 1 6 r1 f).2.1 (pu_rn 1 6 r1 f).2.2).1, (pu_rn 0 10 (pu_rn 1 6 r1 f).2.1 (pu_rn 1 6 r1 f).2.2).2)
    else if t.1 = 33 then
      (let x := pu_rn 0 (2 * F.1 0 0) r1 f; let y := pu_rn 0 61 x.2.1 x.2.2; let z := pu_rn 0 31 y.2.1 y.2.2; (if z.2.2 = 0 then pu_hh2 F x.1 y.1 z.1 else F, z.2))
    else (let x := pu_rn 0 (F.1 0 0) r1 f; let y := pu_rn (F.1 0 0) (2 * F.1 0 0) x.2.1 x.2.2; let z := pu_rn 1 41 y.2.1 y.2.2; (if z.2.2 = 0 then pu_put F (F.1 0 3) x.1 y.1 z.1 else F, z.2))
theorem pu_rn_f {lo hi : Nat} {r : List (Nat × Nat × Nat)} {f : Nat} (hs : pu_Rs r f) (h : (pu_rn lo hi r f).2.2 = 0) : f = 0 ∧ lo ≤ (pu_rn lo hi r f).1 ∧ (pu_rn lo hi r f).1 < hi := by
  unfold pu_rn at h ⊢
  cases r with
  | nil =>
    rcases hs with ⟨_, x⟩ | ⟨x, _⟩
    · exact absurd rfl x
    · dsimp only at h
      unfold pu_ft at h
      rw [if_neg x] at h
      exact absurd h x
  | cons t r =>
    dsimp only at h ⊢
    split at h
    · rename_i hc
      rw [if_pos hc]
      exact ⟨h, hc.2⟩
    · unfold pu_ft at h
      rcases hs with ⟨x, _⟩ | ⟨_, x⟩
      · rw [if_pos x] at h
        dsimp only at h
        omega
      · cases x
theorem pu_hs2_fv {F : pu_A} (h : pu_Fv F) (h0 : F.1 0 3 = 0) {v1 v2 : Nat} (h1 : v1 < 6) (h2 : v2 < 10) : pu_Fv (pu_hs2 F v1 v2) := by
  obtain ⟨⟨w1, w2, w3, w4, w5, w6, w7, w8⟩, y, u, st, bd⟩ := h
  have e0 : (pu_hs2 F v1 v2).1 0 0 = v1 := by show tb_up2 (tb_up2 F.1 0 0 v1) 0 1 v2 0 0 = v1; rw [pu_u2k _ _ _ _ (by decide), pu_u2s]
  have e1 : (pu_hs2 F v1 v2).1 0 1 = v2 := pu_u2s (tb_up2 F.1 0 0 v1) 0 1 v2
  have e2 : (pu_hs2 F v1 v2).1 0 2 = F.1 0 2 := by show tb_up2 (tb_up2 F.1 0 0 v1) 0 1 v2 0 2 = _; rw [pu_u2k _ _ _ _ (by decide), pu_u2k _ _ _ _ (by decide)]
  have e3 : (pu_hs2 F v1 v2).1 0 3 = F.1 0 3 := by show tb_up2 (tb_up2 F.1 0 0 v1) 0 1 v2 0 3 = _; rw [pu_u2k _ _ _ _ (by decide), pu_u2k _ _ _ _ (by decide)]
  have er : ∀ r k, r ≠ 0 → (pu_hs2 F v1 v2).1 r k = F.1 r k := fun r k hr => by show tb_up2 (tb_up2 F.1 0 0 v1) 0 1 v2 r k = _; rw [pu_u2p _ _ _ _ hr, pu_u2p _ _ _ _ hr]
  refine ⟨⟨by omega, by omega, by omega, fun k => ?_, fun k => ?_, fun l hl => ?_, fun l hl => ?_, fun k hk => ?_⟩, by omega, fun l => ?_, st, fun k => ?_⟩
  · rw [er 1 k (by decide), er 2 k (by decide)]; exact w4 k
  · rw [er 5 k (by decide)]; exact w5 k
  · rw [e3, h0] at hl; omega
  · rw [e3]; exact w7 l hl
  · have := st k
    have hk : F.2 1 k = true := hk
    rw [this] at hk; cases hk
  · rw [e3]; exact u l
  · rw [er 1 k (by decide), er 2 k (by decide), er 5 k (by decide)]; exact bd k
theorem pu_hh2_fv {F : pu_A} (h : pu_Fv F) {a l o : Nat} (hl : l ≤ 60) (ho : o ≤ 60) : pu_Fv (pu_hh2 F a l o) := by
  obtain ⟨⟨w1, w2, w3, w4, w5, w6, w7, w8⟩, y, u, st, bd⟩ := h
  have e : ∀ r k, r ≠ 1 → r ≠ 2 → (pu_hh2 F a l o).1 r k = F.1 r k := fun r k h1 h2 => by show tb_up2 (tb_up2 F.1 1 a l) 2 a o r k = _; rw [pu_u2p _ _ _ _ h2, pu_u2p _ _ _ _ h1]
  have b1 : ∀ k, (pu_hh2 F a l o).1 1 k ≤ 60 := fun k => by
    show tb_up2 (tb_up2 F.1 1 a l) 2 a o 1 k ≤ 60
    rw [pu_u2p _ _ _ _ (by decide), pu_u2i]
    split
    · exact hl
    · exact (bd k).1
  have b2 : ∀ k, (pu_hh2 F a l o).1 2 k ≤ 60 := fun k => by
    show tb_up2 (tb_up2 F.1 1 a l) 2 a o 2 k ≤ 60
    rw [pu_u2i, pu_u2p _ _ _ _ (by decide)]
    split
    · exact ho
    · exact (bd k).2.1
  have e0 : ∀ k, (pu_hh2 F a l o).1 0 k = F.1 0 k := fun k => e 0 k (by decide) (by decide)
  refine ⟨⟨by rw [e0]; exact w1, by rw [e0]; exact w2, by rw [e0]; exact w3, fun k => ⟨by have := b1 k; omega, by have := b2 k; omega⟩, fun k => by rw [e 5 k (by decide) (by decide)]; exact w5 k, fun k hk => ?_, fun k hk => by rw [e0]; exact w7 k hk, fun k hk => by rw [e0]; exact w8 k hk⟩, by rw [e0]; exact y, fun k => by rw [e0]; exact u k, st, fun k => ⟨b1 k, b2 k, by rw [e 5 k (by decide) (by decide)]; exact (bd k).2.2⟩⟩
  rw [e0] at hk
  rw [e0, e 3 k (by decide) (by decide), e 4 k (by decide) (by decide)]; exact w6 k hk
theorem pu_put_fv {F : pu_A} (h : pu_Fv F) {o e m : Nat} (h8 : F.1 0 3 < 8) (ho : o < F.1 0 0) (he : F.1 0 0 ≤ e) (he2 : e < 2 * F.1 0 0) (hm : m ≤ 60) : pu_Fv (pu_put F (F.1 0 3) o e m) := by
  obtain ⟨wf, y, u, st, bd⟩ := h
  refine ⟨pu_put_wf wf (Nat.le_refl _) h8 ho he he2 (by omega), y, fun l => ?_, st, fun k => ⟨?_, ?_, ?_⟩⟩
  · show (F.2 0 l || decide (l = F.1 0 3)) = decide (l < (if F.1 0 3 = F.1 0 3 then F.1 0 3 + 1 else F.1 0 3))
    rw [if_pos rfl, u l]
    by_cases h1 : l < F.1 0 3
    · rw [decide_eq_true h1, decide_eq_true (show l < F.1 0 3 + 1 by omega)]; rfl
    · rw [decide_eq_false h1]
      by_cases h2 : l = F.1 0 3
      · rw [decide_eq_true h2, decide_eq_true (show l < F.1 0 3 + 1 by omega)]; rfl
      · rw [decide_eq_false h2, decide_eq_false (show ¬ l < F.1 0 3 + 1 by omega)]; rfl
  · show (if k = F.1 0 3 then F.1 1 k else F.1 1 k) ≤ 60
    rw [ite_self]; exact (bd k).1
  · show (if k = F.1 0 3 then F.1 2 k else F.1 2 k) ≤ 60
    rw [ite_self]; exact (bd k).2.1
  · show (if k = F.1 0 3 then m else F.1 5 k) ≤ 60
    split
    · exact hm
    · exact (bd k).2.2
