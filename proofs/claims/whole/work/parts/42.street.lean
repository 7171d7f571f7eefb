/-! ===== The class's Street: lines at houses, what holds, who is weak ===== -/
def pu_at (A : pu_A) (l h : Nat) : Bool := A.2 0 l && (decide (A.1 3 l = h) || decide (A.1 4 l = h))
def pu_sm (f : Nat → Nat) : Nat → Nat
  | 0 => 0
  | n + 1 => pu_sm f n + f n
theorem pu_sm_s (f : Nat → Nat) (n : Nat) : pu_sm f (n + 1) = pu_sm f n + f n := rfl
theorem pu_sm_le {f : Nat → Nat} {c : Nat} (h : ∀ k, f k ≤ c) : ∀ n, pu_sm f n ≤ n * c
  | 0 => by rw [Nat.zero_mul]; exact Nat.le_refl _
  | n + 1 => by rw [pu_sm_s, Nat.succ_mul]; exact Nat.add_le_add (pu_sm_le h n) (h n)
theorem pu_sm_cong {f g : Nat → Nat} : ∀ n, (∀ k, k < n → f k = g k) → pu_sm f n = pu_sm g n
  | 0, _ => rfl
  | n + 1, h => by rw [pu_sm_s, pu_sm_s, pu_sm_cong n (fun k hk => h k (by omega)), h n (by omega)]
/-- what holds a house, and whether it is weak -/
def pu_hold (A : pu_A) (h : Nat) : Nat := A.1 2 h + pu_sm (fun l => if pu_at A l h then A.1 5 l else 0) (A.1 0 3)
def pu_weak (A : pu_A) (h : Nat) : Bool := A.2 1 h && decide (pu_hold A h < A.1 1 h)
/-- these houses fall, and their lines with them -/
def pu_fell (A : pu_A) (f : Nat → Bool) : pu_A := (A.1, fun i k => if i = 0 then A.2 0 k && !(f (A.1 3 k) || f (A.1 4 k)) else if i = 1 then A.2 1 k && !f k else A.2 i k)
def pu_gw : Nat → pu_A → pu_A
  | 0, A => A
  | n + 1, A => if pu_mk (pu_weak A) 10 = 0 then A else pu_gw n (pu_fell A (pu_weak A))
theorem pu_hold_le {A : pu_A} (wf : pu_wf A) (h : Nat) : pu_hold A h ≤ 2000 := by
  have h1 := (wf.2.2.2.1 h).2
  have h2 := pu_sm_le (f := fun l => if pu_at A l h then A.1 5 l else 0) (c := 100) (fun k => by
    show (if pu_at A k h then A.1 5 k else 0) ≤ 100
    split
    · exact wf.2.2.2.2.1 k
    · omega) (A.1 0 3)
  have h3 := wf.2.2.1
  have h4 : A.1 0 3 * 100 ≤ 800 := by omega
  unfold pu_hold
  omega
theorem pu_fell_wf {A : pu_A} (wf : pu_wf A) (f : Nat → Bool) : pu_wf (pu_fell A f) := by
  obtain ⟨a, b, c, d, e, g, u, t⟩ := wf
  refine ⟨a, b, c, d, e, g, ?_, ?_⟩
  · intro l hl
    have hl : (A.2 0 l && !(f (A.1 3 l) || f (A.1 4 l))) = true := hl
    rw [Bool.and_eq_true] at hl
    exact u l hl.1
  · intro h hh
    have hh : (A.2 1 h && !f h) = true := hh
    rw [Bool.and_eq_true] at hh
    exact t h hh.1
/-- the ends of a line that is up stand -/
def pu_we (A : pu_A) : Prop := ∀ l, A.2 0 l = true → A.2 1 (A.1 3 l) = true ∧ A.2 1 (A.1 4 l) = true
theorem pu_fell_we {A : pu_A} (we : pu_we A) (f : Nat → Bool) : pu_we (pu_fell A f) := by
  intro l hl
  have hl : (A.2 0 l && !(f (A.1 3 l) || f (A.1 4 l))) = true := hl
  rw [Bool.and_eq_true, Bool.not_eq_true', Bool.or_eq_false_iff] at hl
  obtain ⟨h1, h2, h3⟩ := hl
  obtain ⟨u2, u3⟩ := we l h1
  constructor
  · show (A.2 1 (A.1 3 l) && !f (A.1 3 l)) = true
    rw [u2, h2]; rfl
  · show (A.2 1 (A.1 4 l) && !f (A.1 4 l)) = true
    rw [u3, h3]; rfl
theorem pu_gw_we : ∀ n {A : pu_A}, pu_we A → pu_we (pu_gw n A)
  | 0, _, we => we
  | n + 1, A, we => by
    unfold pu_gw
    split
    · exact we
    · exact pu_gw_we n (pu_fell_we we _)
theorem pu_gw_wf : ∀ n {A : pu_A}, pu_wf A → pu_wf (pu_gw n A)
  | 0, _, wf => wf
  | n + 1, A, wf => by
    unfold pu_gw
    split
    · exact wf
    · exact pu_gw_wf n (pu_fell_wf wf _)
/-- only rows of truths change -/
theorem pu_gw_1 : ∀ n (A : pu_A), (pu_gw n A).1 = A.1
  | 0, _ => rfl
  | n + 1, A => by
    unfold pu_gw
    split
    · rfl
    · rw [pu_gw_1 n]; rfl
section PUT
variable {s : List (Nat × Nat)} {J : Nat → Nat → Int64} {R : Nat → Nat → Option Nat} {p : Nat}
theorem pu_V_eq {I I' : Nat → Nat → Int32} {A : pu_A} (e : ∀ i, i < 6 → I' (p + i) = I (p + i)) (v : pu_V I p A) : pu_V I' p A := by
  have e0 : I' p = I p := e 0 (by omega)
  have e1 := e 1 (by omega)
  have e2 := e 2 (by omega)
  have e3 := e 3 (by omega)
  have e4 := e 4 (by omega)
  have e5 := e 5 (by omega)
  unfold pu_V at v ⊢
  rw [e0, e1, e2, e3, e4, e5]
  exact v
theorem pu_s_linesAtAny_l {I : Nat → Nat → Int32} {A : pu_A} (h : pu_St s R p) (v : pu_V I p A) (wf : pu_wf A) (f : Nat → Bool) : ∀ d i n, i + d = A.1 0 3 → d < n →
    fl_s_linesAtAny_4 n p (pu_mk f 10) (pu_mk (fun l => A.2 0 l && (f (A.1 3 l) || f (A.1 4 l))) i) (nI i) (s, I, J, R) = some (pu_mk (fun l => A.2 0 l && (f (A.1 3 l) || f (A.1 4 l))) (A.1 0 3), (s, I, J, R)) := by
  intro d
  have h5 := wf.2.2.1
  have h7 := wf.1
  induction d with
  | zero =>
    intro i n hi hn
    obtain ⟨n, rfl⟩ : ∃ z, n = z + 1 := ⟨n - 1, by omega⟩
    unfold fl_s_linesAtAny_4
    simp only [pu_gI h.1, Option.bind_some, v.1.2.2.2.1, pu_ltI (show i < 2147483648 by omega) (show A.1 0 3 < 2147483648 by omega), show ¬ i < A.1 0 3 by omega, ↓reduceIte]
    rw [show i = A.1 0 3 by omega]
  | succ d ih =>
    intro i n hi hn
    obtain ⟨n, rfl⟩ : ∃ z, n = z + 1 := ⟨n - 1, by omega⟩
    have hil : i < A.1 0 3 := by omega
    have h6 := wf.2.2.2.2.2.1 i hil
    have hih := ih (i + 1) n (by omega) (by omega)
    rw [nI_succ] at hih
    unfold fl_s_linesAtAny_4
    simp only [pu_gI h.1, Option.bind_some, v.1.2.2.2.1, pu_ltI (show i < 2147483648 by omega) (show A.1 0 3 < 2147483648 by omega), hil, ↓reduceIte, pu_on h.1, pu_s_isUp h v wf (show i < 2147483648 by omega), pu_s_endsOf h v wf hil, pu_b0, pu_mk_and _ _ (show 10 ≤ 32 by omega), pu_mk0 (show 10 ≤ 32 by omega)]
    have e2 : pu_mk (fun l => A.2 0 l && (f (A.1 3 l) || f (A.1 4 l))) (i + 1) = pu_mk (fun l => A.2 0 l && (f (A.1 3 l) || f (A.1 4 l))) i ||| (if (A.2 0 i && (f (A.1 3 i) || f (A.1 4 i))) = true then 1 <<< (nI i &&& 31) else 0) := rfl
    rw [e2] at hih
    cases hu : A.2 0 i
    · simp only [hu, Bool.false_and, Bool.false_eq_true, ↓reduceIte, Int32.or_zero] at hih ⊢
      exact hih
    · simp only [hu, Bool.true_and, Bool.true_eq_false, ↓reduceIte] at hih ⊢
      by_cases hz : (f (A.1 3 i) || f (A.1 4 i)) = true
      · rw [if_pos hz] at hih
        rw [if_neg]
        · exact hih
        · intro hall
          rw [Bool.or_eq_true] at hz
          rcases hz with hz | hz
          · have := hall (A.1 3 i) (by omega)
            simp [hz] at this
          · have := hall (A.1 4 i) (by omega)
            simp [hz] at this
      · rw [if_neg hz, Int32.or_zero] at hih
        rw [if_pos]
        · exact hih
        · intro k hk
          rw [Bool.or_eq_true, not_or] at hz
          by_cases k1 : k = A.1 3 i
          · subst k1; simp [hz.1]
          · by_cases k2 : k = A.1 4 i
            · subst k2; simp [hz.2]
            · simp [k1, k2]
theorem pu_s_linesAtAny {I : Nat → Nat → Int32} {A : pu_A} (h : pu_St s R p) (v : pu_V I p A) (wf : pu_wf A) (f : Nat → Bool) : fb_s_linesAtAny p (pu_mk f 10) (s, I, J, R) = some (pu_mk (fun l => A.2 0 l && (f (A.1 3 l) || f (A.1 4 l))) 8, (s, I, J, R)) := by
  have h5 := wf.2.2.1
  unfold fb_s_linesAtAny
  have e := pu_s_linesAtAny_l (J := J) h v wf f (A.1 0 3) 0 1048576 (by omega) (by omega)
  rw [show pu_mk (fun l => A.2 0 l && (f (A.1 3 l) || f (A.1 4 l))) 0 = 0 from rfl, show nI 0 = 0 from rfl] at e
  rw [e]
  simp only [Option.bind_some]
  rw [pu_mk_more 8 h5 (fun k h1 h2 => by
    cases e : A.2 0 k
    · rfl
    · exact absurd (wf.2.2.2.2.2.2.1 k e) (by omega))]
end PUT
