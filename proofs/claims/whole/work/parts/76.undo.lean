/-! ===== The reference keeps what was ahead of an act, and lays it back ===== -/
/-- the state of a street alone: cells 10 to 73 -/
def pu_Qs (f : Nat → Int32) (A : pu_A) : Prop :=
  (f 10 = nI (A.1 0 2) ∧ f 11 = nI (A.1 0 3)) ∧
  (∀ h, h < 10 → f (12 + h) = nI (A.1 1 h) ∧ f (22 + h) = nI (A.1 2 h)) ∧ (∀ h, h < 2 * A.1 0 0 → f (32 + h) = pu_b (A.2 1 h)) ∧
  (∀ l, l < A.1 0 3 → f (42 + 4 * l) = nI (A.1 3 l) ∧ f (42 + 4 * l + 1) = nI (A.1 4 l) ∧ f (42 + 4 * l + 2) = (if A.2 0 l then nI (A.1 5 l) else 0) ∧ f (42 + 4 * l + 3) = pu_b (A.2 0 l))
theorem pu_Q_s {f : Nat → Int32} {A : pu_A} (q : pu_Q f A) : pu_Qs f A := ⟨⟨q.1.2.2.2.1, q.1.2.2.2.2⟩, q.2.1, q.2.2.1, q.2.2.2⟩
theorem pu_Q_of {f : Nat → Int32} {A : pu_A} (h0 : f 0 = pu_b (decide (0 < A.1 0 0))) (h1 : f 1 = nI (A.1 0 0)) (h2 : f 2 = nI (A.1 0 1)) (q : pu_Qs f A) : pu_Q f A := ⟨⟨h0, h1, h2, q.1.1, q.1.2⟩, q.2.1, q.2.2.1, q.2.2.2⟩
theorem pu_Qs_eq {f g : Nat → Int32} {A : pu_A} (wf : pu_wf A) (e : ∀ j, 10 ≤ j → j < 74 → g j = f j) (q : pu_Qs f A) : pu_Qs g A := by
  have h5 := wf.1
  have h8 := wf.2.2.1
  obtain ⟨⟨a, b⟩, c, d, l⟩ := q
  refine ⟨⟨?_, ?_⟩, ?_, ?_, ?_⟩
  · rw [e 10 (by omega) (by omega)]; exact a
  · rw [e 11 (by omega) (by omega)]; exact b
  · intro h hh
    rw [e (12 + h) (by omega) (by omega), e (22 + h) (by omega) (by omega)]; exact c h hh
  · intro h hh
    rw [e (32 + h) (by omega) (by omega)]; exact d h hh
  · intro k hk
    rw [e (42 + 4 * k) (by omega) (by omega), e (42 + 4 * k + 1) (by omega) (by omega), e (42 + 4 * k + 2) (by omega) (by omega), e (42 + 4 * k + 3) (by omega) (by omega)]
    exact l k hk
/-- one of the states kept -/
def pu_sl (g : Nat → Int32) (i : Nat) : Nat → Int32 := fun j => g (64 * i + (j - 10))
/-- what the reference has kept: the latest first; P what holds of each -/
def pu_UM (P : pu_A → Prop) (g : Nat → Int32) : List pu_A → Prop
  | [] => True
  | A :: L => (pu_Qs (pu_sl g L.length) A ∧ pu_wf A ∧ P A) ∧ pu_UM P g L
theorem pu_UM_eq {P : pu_A → Prop} {f g : Nat → Int32} : ∀ (L : List pu_A), (∀ j, j < 64 * L.length → g j = f j) → pu_UM P f L → pu_UM P g L
  | [], _, _ => trivial
  | A :: L, e, ⟨⟨h1, h2, h3⟩, h4⟩ => by
    rw [List.length_cons] at e
    refine ⟨⟨pu_Qs_eq h2 (fun j hj hj2 => ?_) h1, h2, h3⟩, pu_UM_eq L (fun j hj => e j (by omega)) h4⟩
    exact e _ (by omega)
theorem pu_UM_drop {P : pu_A → Prop} {f g : Nat → Int32} (a : pu_A) : ∀ (L : List pu_A), L.length ≤ 19 → (∀ j, j < 1216 → g j = f (j + 64)) → pu_UM P f (L ++ [a]) → pu_UM P g L
  | [], _, _, _ => trivial
  | A :: L, hl, e, ⟨⟨h1, h2, h3⟩, h4⟩ => by
    rw [List.length_cons] at hl
    refine ⟨⟨pu_Qs_eq h2 (fun j hj hj2 => ?_) h1, h2, h3⟩, pu_UM_drop a L (by omega) e h4⟩
    show g (64 * L.length + (j - 10)) = f (64 * (L ++ [a]).length + (j - 10))
    rw [e _ (by omega), List.length_append]
    congr 1
    show 64 * L.length + (j - 10) + 64 = 64 * (L.length + 1) + (j - 10)
    omega
section PUn
variable {s : List (Nat × Nat)} {J : Nat → Nat → Int64} {R : Nat → Nat → Option Nat}
theorem pu_m_shift_l (hM : pu_M s R) : ∀ d i n I, i + d = 1280 → 64 ≤ i → d < n → ∃ I', fl_m_keepsAct_6 n 70 (nI i) (s, I, J, R) = some (70, (s, I', J, R)) ∧ (∀ k, k < 1216 → I' 81 k = if i ≤ k + 64 then I 81 (k + 64) else I 81 k) ∧ (∀ q, q ≠ 81 → I' q = I q) := by
  intro d
  induction d with
  | zero =>
    intro i n I hi h64 hn
    obtain ⟨n, rfl⟩ : ∃ z, n = z + 1 := ⟨n - 1, by omega⟩
    unfold fl_m_keepsAct_6
    simp only [show (1280 : Int32) = nI 1280 from rfl, pu_ltI (show i < 2147483648 by omega) (show 1280 < 2147483648 by omega), show ¬ i < 1280 by omega, ↓reduceIte]
    exact ⟨I, rfl, fun k hk => by rw [if_neg (by omega)], fun _ _ => rfl⟩
  | succ d ih =>
    intro i n I hi h64 hn
    obtain ⟨n, rfl⟩ : ∃ z, n = z + 1 := ⟨n - 1, by omega⟩
    have ei : nI i - (64 : Int32) = nI (i - 64) := pu_sub (b := 64) h64
    unfold fl_m_keepsAct_6
    simp only [show (1280 : Int32) = nI 1280 from rfl, pu_ltI (show i < 2147483648 by omega) (show 1280 < 2147483648 by omega), show i < 1280 by omega, ↓reduceIte, pu_gN (pu_m70 hM), pu_r23 hM, Option.bind_some, pu_lI (pu_m81 hM) (show i < 1280 by omega) (show 1280 ≤ 100000 by omega), ei, pu_tI (pu_m81 hM) (show i - 64 < 1280 by omega) (show 1280 ≤ 100000 by omega)]
    rw [← nI_succ]
    obtain ⟨I', a1, a2, a3⟩ := ih (i + 1) n (tb_up2 I 81 (i - 64) (I 81 i)) (by omega) (by omega) (by omega)
    refine ⟨I', a1, ?_, fun q hq => by rw [a3 q hq, pu_u2p _ _ _ _ hq]⟩
    intro k hk
    rw [a2 k hk, pu_u2i, pu_u2i]
    by_cases h1 : i + 1 ≤ k + 64
    · rw [if_pos h1, if_neg (show ¬ k + 64 = i - 64 by omega), if_pos (show i ≤ k + 64 by omega)]
    · rw [if_neg h1]
      by_cases h2 : k = i - 64
      · rw [if_pos h2, if_pos (by omega), h2, show i - 64 + 64 = i by omega]
      · rw [if_neg h2, if_neg (by omega)]
theorem pu_m_store_l (hM : pu_M s R) {u : Nat} (hu : u < 20) : ∀ d i n I, i + d = 64 → d < n → I 70 24 = nI u → ∃ I', fl_m_keepsAct_29 n 70 (nI i) (s, I, J, R) = some (70, (s, I', J, R)) ∧ (∀ k, I' 81 k = if 64 * u + i ≤ k ∧ k < 64 * u + 64 then I 80 (10 + (k - 64 * u)) else I 81 k) ∧ (∀ q, q ≠ 81 → I' q = I q) := by
  intro d
  induction d with
  | zero =>
    intro i n I hi hn e
    obtain ⟨n, rfl⟩ : ∃ z, n = z + 1 := ⟨n - 1, by omega⟩
    unfold fl_m_keepsAct_29
    simp only [show (64 : Int32) = nI 64 from rfl, pu_ltI (show i < 2147483648 by omega) (show 64 < 2147483648 by omega), show ¬ i < 64 by omega, ↓reduceIte]
    exact ⟨I, rfl, fun k => by rw [if_neg (by omega)], fun _ _ => rfl⟩
  | succ d ih =>
    intro i n I hi hn e
    obtain ⟨n, rfl⟩ : ∃ z, n = z + 1 := ⟨n - 1, by omega⟩
    have ei : (64 : Int32) * nI u + nI i = nI (64 * u + i) := by rw [pu_M64, nI_add]
    have hc : nI i < (64 : Int32) := by rw [show (64 : Int32) = nI 64 from rfl, pu_ltI (by omega) (by omega)]; omega
    unfold fl_m_keepsAct_29
    simp only [hc, ↓reduceIte, pu_gN (pu_m70 hM), pu_r23 hM, pu_r20 hM, pu_gI (pu_m70 hM), e, Option.bind_some, pu_cell' hM (pu_L10 i) (show 10 + i < 149 by omega), ei, pu_tI (pu_m81 hM) (show 64 * u + i < 1280 by omega) (show 1280 ≤ 100000 by omega)]
    rw [← nI_succ]
    obtain ⟨I', a1, a2, a3⟩ := ih (i + 1) n (tb_up2 I 81 (64 * u + i) (I 80 (10 + i))) (by omega) (by omega) (by rw [pu_u2p _ _ _ _ (by decide)]; exact e)
    refine ⟨I', a1, ?_, fun q hq => by rw [a3 q hq, pu_u2p _ _ _ _ hq]⟩
    intro k
    rw [a2 k, pu_u2p _ _ _ _ (show (80 : Nat) ≠ 81 by decide), pu_u2i]
    by_cases h1 : 64 * u + (i + 1) ≤ k ∧ k < 64 * u + 64
    · rw [if_pos h1, if_pos (by omega)]
    · rw [if_neg h1]
      by_cases h2 : k = 64 * u + i
      · rw [if_pos h2, if_pos (by omega), h2, show 64 * u + i - 64 * u = i by omega]
      · rw [if_neg h2, if_neg (by omega)]
theorem pu_take_last {α : Type} (a : α) : ∀ (L : List α), L.length = 20 → ∃ L' b, L = L' ++ [b] ∧ (a :: L).take 20 = a :: L' ∧ L'.length = 19 := by
  intro L h
  have hne : L ≠ [] := by intro e; rw [e] at h; cases h
  refine ⟨L.dropLast, L.getLast hne, (List.dropLast_concat_getLast hne).symm, ?_, by rw [List.length_dropLast, h]⟩
  rw [List.take_succ_cons, List.dropLast_eq_take, h]
theorem pu_m_keepsAct {I : Nat → Nat → Int32} {A : pu_A} {P : pu_A → Prop} {L : List pu_A} (hM : pu_M s R) (q : pu_Q (I 80) A) (wf : pu_wf A) (hP : P A) (hu : I 70 24 = nI L.length) (hL : L.length ≤ 20) (hU : pu_UM P (I 81) L) :
    ∃ I', fb_m_keepsAct 70 (s, I, J, R) = some (s, I', J, R) ∧ I' 70 24 = nI ((A :: L).take 20).length ∧ pu_UM P (I' 81) ((A :: L).take 20) ∧ (∀ q, q ≠ 81 → q ≠ 70 → I' q = I q) ∧ (∀ k, k ≠ 24 → I' 70 k = I 70 k) := by
  -- storing behind L'
  have fin : ∀ (I1 : Nat → Nat → Int32) (L' : List pu_A), L'.length < 20 → pu_Q (I1 80) A → I1 70 24 = nI L'.length → pu_UM P (I1 81) L' → ∃ I2, fl_m_keepsAct_29 1048576 70 0 (s, I1, J, R) = some (70, (s, I2, J, R)) ∧ I2 70 24 = nI L'.length ∧ pu_UM P (I2 81) (A :: L') ∧ (∀ q, q ≠ 81 → I2 q = I1 q) := by
    intro I1 L' h20 q1 e1 u1
    obtain ⟨I2, a1, a2, a3⟩ := pu_m_store_l (J := J) hM h20 64 0 1048576 I1 (by omega) (by omega) e1
    rw [show nI 0 = 0 from rfl] at a1
    refine ⟨I2, a1, by rw [a3 70 (by decide)]; exact e1, ⟨⟨?_, wf, hP⟩, ?_⟩, a3⟩
    · refine pu_Qs_eq wf (fun j hj hj2 => ?_) (pu_Q_s q1)
      show I2 81 (64 * L'.length + (j - 10)) = I1 80 j
      rw [a2, if_pos (by omega), show 10 + (64 * L'.length + (j - 10) - 64 * L'.length) = j by omega]
    · refine pu_UM_eq L' (fun j hj => ?_) u1
      rw [a2, if_neg (by omega)]
  unfold fb_m_keepsAct
  simp only [pu_gI (pu_m70 hM), Option.bind_some, hu, show (20 : Int32) = nI 20 from rfl, pu_eqI (show L.length < 2147483648 by omega) (show 20 < 2147483648 by omega)]
  by_cases h20 : L.length = 20
  · obtain ⟨L', b, hb, ht, hl'⟩ := pu_take_last A L h20
    rw [if_pos h20, ht]
    obtain ⟨I1, a1, a2, a3⟩ := pu_m_shift_l (J := J) hM 1216 64 1048576 I (by omega) (by omega) (by omega)
    rw [show nI 64 = 64 from rfl] at a1
    have e24 : I1 70 24 = nI 20 := by rw [a3 70 (by decide), hu, h20]
    have e19 : nI 20 - 1 = nI L'.length := by rw [hl']; rfl
    simp only [a1, Option.bind_some, pu_gI (pu_m70 hM), e24, e19, pu_pI (pu_m70 hM)]
    obtain ⟨I2, c1, c2, c3, c4⟩ := fin (tb_up2 I1 70 24 (nI L'.length)) L' (by omega) (by rw [pu_u2p _ _ _ _ (by decide), a3 80 (by decide)]; exact q) (pu_u2s _ _ _ _) (by
      rw [pu_u2p _ _ _ _ (by decide)]
      rw [hb] at hU
      exact pu_UM_drop b L' (by omega) (fun j hj => by rw [a2 j hj, if_pos (by omega)]) hU)
    simp only [c1, Option.bind_some, pu_gI (pu_m70 hM), c2, pu_R1, pu_pI (pu_m70 hM)]
    refine ⟨_, rfl, ?_, ?_, ?_, ?_⟩
    · rw [pu_u2s, List.length_cons]
    · rw [pu_u2p _ _ _ _ (by decide)]; exact c3
    · intro z h1 h2
      rw [pu_u2p _ _ _ _ h2, c4 z h1, pu_u2p _ _ _ _ h2, a3 z h1]
    · intro k hk
      rw [pu_u2k _ _ _ _ hk, c4 70 (by decide), pu_u2k _ _ _ _ hk, a3 70 (by decide)]
  · rw [if_neg h20]
    have ht : (A :: L).take 20 = A :: L := List.take_of_length_le (by rw [List.length_cons]; omega)
    rw [ht]
    obtain ⟨I2, c1, c2, c3, c4⟩ := fin I L (by omega) q hu hU
    simp only [c1, Option.bind_some, pu_gI (pu_m70 hM), c2, pu_R1, pu_pI (pu_m70 hM)]
    refine ⟨_, rfl, ?_, ?_, ?_, ?_⟩
    · rw [pu_u2s, List.length_cons]
    · rw [pu_u2p _ _ _ _ (by decide)]; exact c3
    · intro z h1 h2
      rw [pu_u2p _ _ _ _ h2, c4 z h1]
    · intro k hk
      rw [pu_u2k _ _ _ _ hk, c4 70 (by decide)]
theorem pu_m_undo_l (hM : pu_M s R) {u : Nat} (hu : u < 20) : ∀ d i n I, i + d = 64 → d < n → I 70 24 = nI u → ∃ I', fl_m_undo_13 n 70 (nI i) (s, I, J, R) = some (70, (s, I', J, R)) ∧ (∀ k, k < 64 → I' 80 (10 + k) = if i ≤ k then I 81 (64 * u + k) else I 80 (10 + k)) ∧ pu_Mf I I' := by
  intro d
  induction d with
  | zero =>
    intro i n I hi hn e
    obtain ⟨n, rfl⟩ : ∃ z, n = z + 1 := ⟨n - 1, by omega⟩
    have hc : ¬ nI i < (64 : Int32) := by rw [show (64 : Int32) = nI 64 from rfl, pu_ltI (by omega) (by omega)]; omega
    unfold fl_m_undo_13
    simp only [hc, ↓reduceIte]
    exact ⟨I, rfl, fun k hk => by rw [if_neg (by omega)], pu_Mf.rf⟩
  | succ d ih =>
    intro i n I hi hn e
    obtain ⟨n, rfl⟩ : ∃ z, n = z + 1 := ⟨n - 1, by omega⟩
    have ei : (64 : Int32) * nI u + nI i = nI (64 * u + i) := by rw [pu_M64, nI_add]
    have hc : nI i < (64 : Int32) := by rw [show (64 : Int32) = nI 64 from rfl, pu_ltI (by omega) (by omega)]; omega
    unfold fl_m_undo_13
    simp only [hc, ↓reduceIte, pu_gN (pu_m70 hM), pu_r23 hM, pu_r20 hM, pu_gI (pu_m70 hM), e, Option.bind_some, ei, pu_lI (pu_m81 hM) (show 64 * u + i < 1280 by omega) (show 1280 ≤ 100000 by omega), pu_put' hM (pu_L10 i) (show 10 + i < 149 by omega)]
    rw [← nI_succ]
    obtain ⟨I', a1, a2, a3⟩ := ih (i + 1) n (tb_up2 I 80 (10 + i) (I 81 (64 * u + i))) (by omega) (by omega) (by rw [pu_u2p _ _ _ _ (by decide)]; exact e)
    refine ⟨I', a1, ?_, (pu_Mf.u2 (by omega) (by omega)).tr a3⟩
    intro k hk
    rw [a2 k hk, pu_u2p _ _ _ _ (show (81 : Nat) ≠ 80 by decide), pu_u2i]
    by_cases h1 : i + 1 ≤ k
    · rw [if_pos h1, if_pos (by omega)]
    · rw [if_neg h1]
      by_cases h2 : k = i
      · rw [if_pos (by omega), if_pos (by omega), h2]
      · rw [if_neg (by omega), if_neg (by omega)]
/-- with nothing kept; with something kept -/
theorem pu_m_undo0 {I : Nat → Nat → Int32} (hM : pu_M s R) (hu : I 70 24 = nI 0) : fb_m_undo 70 (s, I, J, R) = some (-1, (s, I, J, R)) := by
  unfold fb_m_undo
  simp only [pu_gI (pu_m70 hM), Option.bind_some, hu, show nI 0 = 0 from rfl, ↓reduceIte]
theorem pu_m_undo {I : Nat → Nat → Int32} {A B : pu_A} {P : pu_A → Prop} {L : List pu_A} (hM : pu_M s R) (q : pu_Q (I 80) A) (hu : I 70 24 = nI (L.length + 1)) (hL : L.length < 20) (hU : pu_UM P (I 81) (B :: L)) (hs : B.1 0 0 = A.1 0 0) (hf : B.1 0 1 = A.1 0 1) :
    ∃ I', fb_m_undo 70 (s, I, J, R) = some (nI L.length, (s, I', J, R)) ∧ pu_Q (I' 80) B ∧ I' 70 24 = nI L.length ∧ (∀ q, q ≠ 70 → q ≠ 80 → I' q = I q) ∧ (∀ k, k ≠ 24 → I' 70 k = I 70 k) ∧ (∀ k, k < 10 ∨ 74 ≤ k → I' 80 k = I 80 k) := by
  have hne : ¬ nI (L.length + 1) = 0 := by
    rw [show (0 : Int32) = nI 0 from rfl, pu_eqI (by omega) (by omega)]
    omega
  obtain ⟨I2, a1, a2, a3⟩ := pu_m_undo_l (J := J) hM hL 64 0 1048576 (tb_up2 I 70 24 (nI L.length)) (by omega) (by omega) (pu_u2s _ _ _ _)
  rw [show nI 0 = 0 from rfl] at a1
  have e24 : I2 70 24 = nI L.length := by rw [a3.1 70 (by decide), pu_u2s]
  have k80 : ∀ k, k < 10 ∨ 74 ≤ k → I2 80 k = I 80 k := fun k hk => by rw [a3.2 k hk, pu_u2p _ _ _ _ (by decide)]
  refine ⟨I2, ?_, ?_, e24, ?_, ?_, k80⟩
  · unfold fb_m_undo
    simp only [pu_gI (pu_m70 hM), Option.bind_some, hu, hne, ↓reduceIte, nI_pred, pu_pI (pu_m70 hM), a1, e24]
  · refine pu_Q_of (by rw [k80 0 (by omega), hs]; exact q.1.1) (by rw [k80 1 (by omega), hs]; exact q.1.2.1) (by rw [k80 2 (by omega), hf]; exact q.1.2.2.1) ?_
    refine pu_Qs_eq hU.1.2.1 (fun j hj hj2 => ?_) hU.1.1
    have := a2 (j - 10) (by omega)
    rw [show 10 + (j - 10) = j by omega, if_pos (by omega), pu_u2p _ _ _ _ (by decide)] at this
    exact this
  · intro z h1 h2
    rw [a3.1 z h2, pu_u2p _ _ _ _ h1]
  · intro k hk
    rw [a3.1 70 (by decide), pu_u2k _ _ _ _ hk]
end PUn
