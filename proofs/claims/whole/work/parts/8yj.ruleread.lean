/-! ===== The class reads a rule: clauses ===== -/
abbrev pz_Y : Type := pu_Ru × Nat × List (Nat × Nat × Nat) × Nat
def pz_kc (y : pz_Y) : pz_Y :=
  if pu_hk (pz_su ([], y.2.1, y.2.2.1.tail, y.2.2.2)).2.2.1 = 35 then
    (y.1 ++ [((pz_su ([], y.2.1, y.2.2.1.tail, y.2.2.2)).1, some (pz_te (pz_fa 16 0) ([], (pz_su ([], y.2.1, y.2.2.1.tail, y.2.2.2)).2.1, (pz_su ([], y.2.1, y.2.2.1.tail, y.2.2.2)).2.2.1.tail, (pz_su ([], y.2.1, y.2.2.1.tail, y.2.2.2)).2.2.2)).1)], (pz_te (pz_fa 16 0) ([], (pz_su ([], y.2.1, y.2.2.1.tail, y.2.2.2)).2.1, (pz_su ([], y.2.1, y.2.2.1.tail, y.2.2.2)).2.2.1.tail, (pz_su ([], y.2.1, y.2.2.1.tail, y.2.2.2)).2.2.2)).2)
  else (y.1 ++ [((pz_su ([], y.2.1, y.2.2.1.tail, y.2.2.2)).1, none)], (pz_su ([], y.2.1, y.2.2.1.tail, y.2.2.2)).2)
def pz_rr : Nat → Nat → pz_Y → pz_Y
  | 0, _, y => y
  | d + 1, i, y => if pu_hk y.2.2.1 = 34 ∧ i < 12 then (if pu_hk (pz_kc y).2.2.1 = 4 then pz_rr d (i + 1) ((pz_kc y).1, (pz_kc y).2.1, (pz_kc y).2.2.1.tail, (pz_kc y).2.2.2) else pz_kc y) else (y.1, y.2.1, [], pu_ft y.2.2.1 y.2.2.2 (if pu_hk y.2.2.1 = 34 then 4 else 0))
theorem pz_RC_eq {f f' : Nat → Int32} : ∀ (ru : pu_Ru) (i : Nat), (∀ k, i ≤ k → k < i + pu_rl ru → f' k = f k) → pu_RC f i ru → pu_RC f' i ru := by
  intro ru
  induction ru with
  | nil => intro i _ _; trivial
  | cons q ru ih =>
    obtain ⟨sm, t⟩ := q
    intro i e h
    match t, e, h with
    | none, e, h =>
      have hl : pu_rl ((sm, none) :: ru) = sm.length + 1 + pu_rl ru := rfl
      rw [hl] at e
      obtain ⟨a, b, c⟩ := h
      exact ⟨pz_cc_eq _ _ (fun k h1 h2 => e k (by omega) (by omega)) a, by rw [e _ (by omega) (by omega)]; exact b, ih _ (fun k h1 h2 => e k (by omega) (by omega)) c⟩
    | some t, e, h =>
      have hl : pu_rl ((sm, some t) :: ru) = sm.length + t.length + 1 + pu_rl ru := rfl
      rw [hl] at e
      obtain ⟨a, a', b, c⟩ := h
      exact ⟨pz_cc_eq _ _ (fun k h1 h2 => e k (by omega) (by omega)) a, pz_cc_eq _ _ (fun k h1 h2 => e k (by omega) (by omega)) a', by rw [e _ (by omega) (by omega)]; exact b, ih _ (fun k h1 h2 => e k (by omega) (by omega)) c⟩
theorem pz_RC_app {f : Nat → Int32} {cl : List (Nat × Nat) × Option (List (Nat × Nat))} : ∀ (ru : pu_Ru) (i : Nat), pu_RC f i ru → pu_RC f (i + pu_rl ru) [cl] → pu_RC f i (ru ++ [cl]) := by
  intro ru
  induction ru with
  | nil => intro i _ h; exact h
  | cons q ru ih =>
    obtain ⟨sm, t⟩ := q
    intro i h h2
    match t, h, h2 with
    | none, h, h2 =>
      have hl : pu_rl ((sm, none) :: ru) = sm.length + 1 + pu_rl ru := rfl
      rw [hl] at h2
      exact ⟨h.1, h.2.1, ih _ h.2.2 (by rw [show i + sm.length + 1 + pu_rl ru = i + (sm.length + 1 + pu_rl ru) by omega]; exact h2)⟩
    | some t, h, h2 =>
      have hl : pu_rl ((sm, some t) :: ru) = sm.length + t.length + 1 + pu_rl ru := rfl
      rw [hl] at h2
      exact ⟨h.1, h.2.1, h.2.2.1, ih _ h.2.2.2 (by rw [show i + sm.length + t.length + 1 + pu_rl ru = i + (sm.length + t.length + 1 + pu_rl ru) by omega]; exact h2)⟩
theorem pz_rl_app (ru : pu_Ru) (cl : List (Nat × Nat) × Option (List (Nat × Nat))) : pu_rl (ru ++ [cl]) = pu_rl ru + pu_rl [cl] := by
  induction ru with
  | nil => show pu_rl [cl] = 0 + pu_rl [cl]; omega
  | cons q ru ih =>
    obtain ⟨sm, t⟩ := q
    match t with
    | none => show sm.length + 1 + pu_rl (ru ++ [cl]) = sm.length + 1 + pu_rl ru + pu_rl [cl]; rw [ih]; omega
    | some t => show sm.length + t.length + 1 + pu_rl (ru ++ [cl]) = sm.length + t.length + 1 + pu_rl ru + pu_rl [cl]; rw [ih]; omega
theorem pz_ok_app {cl : List (Nat × Nat) × Option (List (Nat × Nat))} : ∀ (ru : pu_Ru), pu_ok ru → pu_ok [cl] → pu_ok (ru ++ [cl]) := by
  intro ru
  induction ru with
  | nil => intro _ h; exact h
  | cons q ru ih =>
    obtain ⟨sm, t⟩ := q
    intro h h2
    match t, h with
    | none, h => exact ⟨h.1, h.2.1, ih h.2.2 h2⟩
    | some t, h => exact ⟨h.1, h.2.1, h.2.2.1, ih h.2.2.2 h2⟩
/-- between clauses -/
def pz_RY (I : Nat → Nat → Int32) (l : List (Nat × Nat × Nat)) (y : pz_Y) : Prop :=
  pu_TX I l y.2.2.1 y.2.2.2 ∧ pu_Rs y.2.2.1 y.2.2.2 ∧ y.2.2.2 < 10000 ∧ (y.2.2.2 = 0 → I 15 2 = nI (pu_rl y.1) ∧ I 15 3 = nI y.2.1 ∧ y.2.1 ≤ 60 ∧ pu_RC (I 16) 0 y.1 ∧ pu_rl y.1 + y.2.2.1.length ≤ l.length ∧ pu_ok y.1)
section PUJ9
variable {s : List (Nat × Nat)} {R : Nat → Nat → Option Nat} {l : List (Nat × Nat × Nat)}
theorem pz_emit_raw {I : Nat → Nat → Int32} {J : Nat → Nat → Int64} (hX : pu_X s R) {f n : Nat} (hf : I 2 3 = nI f) (hf4 : f < 10000) (hn : f = 0 → I 15 2 = nI n ∧ n < 400) (a : Int32) : fb_rr_emit 15 a (s, I, J, R) = some (s, (if f = 0 then tb_up2 (tb_up2 I 16 n a) 15 2 (nI (n + 1)) else I), J, R) := by
  have e0 : (nI f = (0 : Int32)) = (f = 0) := pu_eqI (b := 0) (by omega) (by omega)
  unfold fb_rr_emit
  simp only [pu_gN (pu_c15 hX), pu_f15_0 hX, pu_f15_1 hX, Option.bind_some, pu_gI (pu_c2 hX), hf, e0, pu_gI (pu_c15 hX)]
  by_cases hz : f = 0
  · obtain ⟨g1, g2⟩ := hn hz
    have lt : nI n < nI 400 := by rw [pu_ltI (by omega) (by omega)]; omega
    have u : tb_up2 I 16 n a 15 2 = nI n := by rw [pu_u2p _ _ _ _ (by decide)]; exact g1
    simp only [hz, ↓reduceIte, g1, pu_lt0 (show n < 2147483648 by omega), pu_al (pu_c16 hX), Option.bind_some, lt, pu_tI (pu_c16 hX) (show n < 400 by omega) (show 400 ≤ 100000 by omega), pu_gI (pu_c15 hX), u, pu_R1, pu_pI (pu_c15 hX)]
  · simp only [hz, ↓reduceIte]
theorem pz_G.rf {z : pz_Z} {m : Nat} (rs : pu_Rs z.2.2.1 z.2.2.2) (hd : ∃ i, l.drop i = z.2.2.1) (hm : z.2.2.1.length ≤ m) : pz_G l z z [] m := ⟨⟨rs, hd⟩, fun hz => ⟨hz, hm, [], by rw [List.append_nil], fun _ => rfl, by show z.2.1 + 0 ≤ z.2.1; omega⟩⟩
theorem pz_RZ.dr {I : Nat → Nat → Int32} {b e : Nat} {z : pz_Z} (h : pz_RZ I l b e z) : ∃ i, l.drop i = z.2.2.1 := by
  obtain ⟨i, _, _, x⟩ := h.1.2.2.2.1
  exact ⟨i, x.symm⟩
end PUJ9
