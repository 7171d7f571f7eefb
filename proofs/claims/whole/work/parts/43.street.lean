/-! ===== The class's Street: weighing, giving way ===== -/
section PUU
variable {s : List (Nat × Nat)} {J : Nat → Nat → Int64} {R : Nat → Nat → Option Nat} {p : Nat}
theorem pu_cy {I : Nat → Nat → Int32} {a b n m : Nat} {k : Nat} (h1 : s[a]? = some (1, n)) (h2 : s[b]? = some (1, m)) (hn : k ≤ n) (hm : k ≤ m) (hk : k < 2147483648) : tb_cy (nI k) 0 b 0 a (s, I, J, R) = some (s, tb_up1 I b (va_cpy (I a) (I b) 0 0 k), J, R) := by
  unfold tb_cy
  simp only [h1, h2, nI_clamp (show k < 2 ^ 31 from hk), decide_eq_false (nI_pos (show k < 2 ^ 31 from hk)), show (0 : Int32).toNatClampNeg = 0 from rfl, show decide ((0 : Int32) < 0) = false from rfl, Nat.zero_add, decide_eq_true hn, decide_eq_true hm, Bool.not_false, Bool.and_self, ↓reduceIte]
  rfl
theorem pu_s_weighAll_l {A : pu_A} (h : pu_St s R p) (wf : pu_wf A) : ∀ d i n I, i + d = A.1 0 3 → d < n → pu_V I p A → (∀ z, z < 10 → I (p + 6) z = nI (A.1 2 z + pu_sm (fun l => if pu_at A l z then A.1 5 l else 0) i)) →
    ∃ I', fl_s_weighAll_10 n p (nI i) (s, I, J, R) = some (s, I', J, R) ∧ (∀ q, q ≠ p + 6 → I' q = I q) ∧ (∀ z, z < 10 → I' (p + 6) z = nI (pu_hold A z)) := by
  intro d
  have h5 := wf.2.2.1
  have h7 := wf.1
  induction d with
  | zero =>
    intro i n I hi hn v hz
    obtain ⟨n, rfl⟩ : ∃ z, n = z + 1 := ⟨n - 1, by omega⟩
    unfold fl_s_weighAll_10
    simp only [pu_gI h.1, Option.bind_some, v.1.2.2.2.1, pu_ltI (show i < 2147483648 by omega) (show A.1 0 3 < 2147483648 by omega), show ¬ i < A.1 0 3 by omega, ↓reduceIte]
    refine ⟨I, rfl, fun _ _ => rfl, ?_⟩
    intro z hz1
    rw [hz z hz1, show i = A.1 0 3 by omega]
    rfl
  | succ d ih =>
    intro i n I hi hn v hz
    obtain ⟨n, rfl⟩ : ∃ z, n = z + 1 := ⟨n - 1, by omega⟩
    have hil : i < A.1 0 3 := by omega
    obtain ⟨h6, h8, h9⟩ := wf.2.2.2.2.2.1 i hil
    unfold fl_s_weighAll_10
    simp only [pu_gI h.1, Option.bind_some, v.1.2.2.2.1, pu_ltI (show i < 2147483648 by omega) (show A.1 0 3 < 2147483648 by omega), hil, ↓reduceIte, pu_on h.1, pu_s_isUp h v wf (show i < 2147483648 by omega), pu_b0]
    rw [← nI_succ]
    cases hu : A.2 0 i
    · simp only [↓reduceIte]
      refine ih (i + 1) n I (by omega) (by omega) v ?_
      intro z hz1
      rw [hz z hz1, pu_sm_s]
      simp only [pu_at, hu, Bool.false_and, Bool.false_eq_true, ↓reduceIte, Nat.add_zero]
    · simp only [Bool.true_eq_false, ↓reduceIte, pu_on h.1, pu_gN h.1, h.2.2.2.2.1, h.2.2.2.2.2.1, h.2.2.2.2.2.2.1, h.2.2.2.2.2.2.2, Option.bind_some, pu_lI h.2.1.2.2.1 (show i < 8 by omega) (show 8 ≤ 100000 by omega), (v.2.2 i hil).1, pu_s_isHouse h v wf (show A.1 3 i < 2147483648 by omega), pu_b0, decide_eq_false_iff_not, show A.1 3 i < 2 * A.1 0 0 by omega, not_true, pu_lI h.2.1.2.2.2.1 (show i < 8 by omega) (show 8 ≤ 100000 by omega), (v.2.2 i hil).2.1, pu_s_isHouse h v wf (show A.1 4 i < 2147483648 by omega), h9, pu_lI h.2.1.2.2.2.2.2 (show A.1 3 i < 10 by omega) (show 10 ≤ 100000 by omega), pu_lI h.2.1.2.2.2.2.1 (show i < 8 by omega) (show 8 ≤ 100000 by omega), (v.2.2 i hil).2.2 hu, pu_tI h.2.1.2.2.2.2.2 (show A.1 3 i < 10 by omega) (show 10 ≤ 100000 by omega)]
      rw [hz _ (show A.1 3 i < 10 by omega), nI_add]
      generalize hI2 : tb_up2 I (p + 6) (A.1 3 i) (nI (A.1 2 (A.1 3 i) + pu_sm (fun l => if pu_at A l (A.1 3 i) then A.1 5 l else 0) i + A.1 5 i)) = I2
      have v2 : pu_V I2 p A := pu_V_eq (fun j hj => by rw [← hI2]; exact pu_u2p _ _ _ _ (by omega)) v
      simp only [pu_lI h.2.1.2.2.2.1 (show i < 8 by omega) (show 8 ≤ 100000 by omega), (v2.2.2 i hil).2.1, Option.bind_some, pu_lI h.2.1.2.2.2.2.2 (show A.1 4 i < 10 by omega) (show 10 ≤ 100000 by omega), pu_lI h.2.1.2.2.2.2.1 (show i < 8 by omega) (show 8 ≤ 100000 by omega), (v2.2.2 i hil).2.2 hu, pu_tI h.2.1.2.2.2.2.2 (show A.1 4 i < 10 by omega) (show 10 ≤ 100000 by omega)]
      have e6 : I2 (p + 6) (A.1 4 i) = I (p + 6) (A.1 4 i) := by rw [← hI2]; exact pu_u2k _ _ _ _ (by omega)
      rw [e6, hz _ (show A.1 4 i < 10 by omega), nI_add]
      generalize hI3 : tb_up2 I2 (p + 6) (A.1 4 i) (nI (A.1 2 (A.1 4 i) + pu_sm (fun l => if pu_at A l (A.1 4 i) then A.1 5 l else 0) i + A.1 5 i)) = I3
      have v3 : pu_V I3 p A := pu_V_eq (fun j hj => by rw [← hI3]; exact pu_u2p _ _ _ _ (by omega)) v2
      obtain ⟨I', e1, e2, e3⟩ := ih (i + 1) n I3 (by omega) (by omega) v3 (by
        intro z hz1
        rw [pu_sm_s, ← hI3, pu_u2i]
        by_cases z4 : z = A.1 4 i
        · rw [if_pos z4, z4]
          simp only [pu_at, hu, decide_true, Bool.or_true, Bool.and_true, ↓reduceIte]
          rw [Nat.add_assoc]
        · rw [if_neg z4, ← hI2, pu_u2i]
          by_cases z3 : z = A.1 3 i
          · rw [if_pos z3, z3]
            simp only [pu_at, hu, decide_true, Bool.true_or, Bool.and_true, ↓reduceIte]
            rw [Nat.add_assoc]
          · rw [if_neg z3, hz z hz1]
            have : pu_at A i z = false := by
              unfold pu_at
              rw [decide_eq_false (fun e => z3 e.symm), decide_eq_false (fun e => z4 e.symm)]
              simp
            simp only [this, Bool.false_eq_true, ↓reduceIte, Nat.add_zero])
      refine ⟨I', e1, ?_, e3⟩
      intro q hq
      rw [e2 q hq, ← hI3, pu_u2p _ _ _ _ hq, ← hI2, pu_u2p _ _ _ _ hq]
theorem pu_s_weighAll {I : Nat → Nat → Int32} {A : pu_A} (h : pu_St s R p) (v : pu_V I p A) (wf : pu_wf A) : ∃ I', fb_s_weighAll p (s, I, J, R) = some (s, I', J, R) ∧ (∀ q, q ≠ p + 6 → I' q = I q) ∧ (∀ z, z < 10 → I' (p + 6) z = nI (pu_hold A z)) := by
  have h5 := wf.2.2.1
  unfold fb_s_weighAll
  simp only [pu_gN h.1, h.2.2.2.1, h.2.2.2.2.2.2.2, Option.bind_some]
  rw [show (10 : Int32) = nI 10 from rfl, pu_cy h.2.1.2.1 h.2.1.2.2.2.2.2 (by omega) (by omega) (by omega)]
  simp only [Option.bind_some]
  generalize hI2 : tb_up1 I (p + 6) (va_cpy (I (p + 2)) (I (p + 6)) 0 0 10) = I2
  have e0 : ∀ q, q ≠ p + 6 → I2 q = I q := fun q hq => by rw [← hI2]; exact pu_u1p _ _ _ hq
  obtain ⟨I', e1, e2, e3⟩ := pu_s_weighAll_l (J := J) h wf (A.1 0 3) 0 1048576 I2 (by omega) (by omega) (pu_V_eq (fun j hj => e0 _ (by omega)) v) (by
    intro z hz
    rw [← hI2, pu_u1s, sb_cpy0 hz, (v.2.1 z hz).2]
    rfl)
  rw [show nI 0 = 0 from rfl] at e1
  rw [e1]
  refine ⟨I', rfl, fun q hq => by rw [e2 q hq, e0 q hq], e3⟩
theorem pu_s_weak_l {I : Nat → Nat → Int32} {A : pu_A} (h : pu_St s R p) (v : pu_V I p A) (wf : pu_wf A) (hz : ∀ z, z < 10 → I (p + 6) z = nI (pu_hold A z)) : ∀ d i n, i + d = 2 * A.1 0 0 → d < n →
    fl_s_weak_6 n p (pu_mk (pu_weak A) i) (nI i) (s, I, J, R) = some (pu_mk (pu_weak A) (2 * A.1 0 0), (s, I, J, R)) := by
  intro d
  have h7 := wf.1
  induction d with
  | zero =>
    intro i n hi hn
    obtain ⟨n, rfl⟩ : ∃ z, n = z + 1 := ⟨n - 1, by omega⟩
    unfold fl_s_weak_6
    simp only [pu_on h.1, pu_s_houses h v, Option.bind_some, pu_ltI (show i < 2147483648 by omega) (show 2 * A.1 0 0 < 2147483648 by omega), show ¬ i < 2 * A.1 0 0 by omega, ↓reduceIte]
    rw [show i = 2 * A.1 0 0 by omega]
  | succ d ih =>
    intro i n hi hn
    obtain ⟨n, rfl⟩ : ∃ z, n = z + 1 := ⟨n - 1, by omega⟩
    have hil : i < 2 * A.1 0 0 := by omega
    have hih := ih (i + 1) n (by omega) (by omega)
    have hb := pu_hold_le wf i
    have hb2 := (wf.2.2.2.1 i).1
    rw [nI_succ, show pu_mk (pu_weak A) (i + 1) = pu_mk (pu_weak A) i ||| (if pu_weak A i = true then 1 <<< (nI i &&& 31) else 0) from rfl] at hih
    unfold fl_s_weak_6
    simp only [pu_on h.1, pu_s_houses h v, Option.bind_some, pu_ltI (show i < 2147483648 by omega) (show 2 * A.1 0 0 < 2147483648 by omega), hil, ↓reduceIte, pu_s_stands h v wf (show i < 2147483648 by omega), pu_b0, pu_gN h.1, h.2.2.1, h.2.2.2.2.2.2.2, pu_lI h.2.1.1 (show i < 10 by omega) (show 10 ≤ 100000 by omega), pu_lI h.2.1.2.2.2.2.2 (show i < 10 by omega) (show 10 ≤ 100000 by omega), hz i (by omega), (v.2.1 i (by omega)).1, pu_ltI (show pu_hold A i < 2147483648 by omega) (show A.1 1 i < 2147483648 by omega)]
    cases hu : A.2 1 i
    · simp only [pu_weak, hu, Bool.false_and, Bool.false_eq_true, ↓reduceIte, Int32.or_zero] at hih ⊢
      exact hih
    · simp only [pu_weak, hu, Bool.true_and, decide_eq_true_eq, Bool.true_eq_false, ↓reduceIte] at hih ⊢
      by_cases hw : pu_hold A i < A.1 1 i
      · simp only [hw, ↓reduceIte] at hih ⊢
        exact hih
      · simp only [hw, ↓reduceIte, Int32.or_zero] at hih ⊢
        exact hih
theorem pu_s_weak {I : Nat → Nat → Int32} {A : pu_A} (h : pu_St s R p) (v : pu_V I p A) (wf : pu_wf A) : ∃ I', fb_s_weak p (s, I, J, R) = some (pu_mk (pu_weak A) 10, (s, I', J, R)) ∧ (∀ q, q ≠ p + 6 → I' q = I q) := by
  have h7 := wf.1
  obtain ⟨I', e1, e2, e3⟩ := pu_s_weighAll (J := J) h v wf
  refine ⟨I', ?_, e2⟩
  have v' : pu_V I' p A := pu_V_eq (fun j hj => e2 _ (by omega)) v
  unfold fb_s_weak
  simp only [pu_on h.1, e1, Option.bind_some]
  have e := pu_s_weak_l (J := J) h v' wf e3 (2 * A.1 0 0) 0 1048576 (by omega) (by omega)
  rw [show pu_mk (pu_weak A) 0 = 0 from rfl, show nI 0 = 0 from rfl] at e
  rw [e]
  simp only [Option.bind_some]
  rw [pu_mk_more 10 (show 2 * A.1 0 0 ≤ 10 by omega) (fun k h1 h2 => by
    unfold pu_weak
    cases e : A.2 1 k
    · rfl
    · exact absurd (wf.2.2.2.2.2.2.2 k e) (by omega))]
end PUU
