/-! ===== The class's Street: fading, sums, copies, hands ===== -/
theorem pu_sub {a b : Nat} (h : b ≤ a) : nI a - nI b = nI (a - b) := by unfold nI; rw [Int32.ofNat_sub _ _ h]
theorem pu_sub0 {a b : Nat} (ha : a < 1073741824) (hb : b < 1073741824) : (nI a - nI b ≤ 0) = (a ≤ b) := by
  apply propext
  rw [Int32.le_iff_toInt_le, Int32.toInt_sub, nI_toInt (show a < 2 ^ 31 by omega), nI_toInt (show b < 2 ^ 31 by omega), Int.bmod_eq_of_le (by omega) (by omega)]
  show (a : Int) - (b : Int) ≤ 0 ↔ a ≤ b
  omega
/-- the first i lines have faded -/
def pu_fd (A : pu_A) (i : Nat) : pu_A := (fun r k => if r = 5 then (if k < i ∧ A.2 0 k = true then A.1 5 k - A.1 0 1 else A.1 5 k) else A.1 r k, fun r k => if r = 0 then A.2 0 k && !(decide (k < i) && decide (A.1 5 k ≤ A.1 0 1)) else A.2 r k)
theorem pu_fd_wf {A : pu_A} (wf : pu_wf A) (i : Nat) : pu_wf (pu_fd A i) := by
  obtain ⟨a, b, c, d, e, g, u, t⟩ := wf
  refine ⟨a, b, c, d, ?_, g, ?_, t⟩
  · intro l
    show (if l < i ∧ A.2 0 l = true then A.1 5 l - A.1 0 1 else A.1 5 l) ≤ 100
    have := e l
    split <;> omega
  · intro l hl
    have hl : (A.2 0 l && !(decide (l < i) && decide (A.1 5 l ≤ A.1 0 1))) = true := hl
    rw [Bool.and_eq_true] at hl
    exact u l hl.1
theorem pu_fd_we {A : pu_A} (we : pu_we A) (i : Nat) : pu_we (pu_fd A i) := by
  intro l hl
  have hl : (A.2 0 l && !(decide (l < i) && decide (A.1 5 l ≤ A.1 0 1))) = true := hl
  rw [Bool.and_eq_true] at hl
  exact we l hl.1
section PUX
variable {s : List (Nat × Nat)} {J : Nat → Nat → Int64} {R : Nat → Nat → Option Nat} {p : Nat}
theorem pu_s_fade_l {A : pu_A} (h : pu_St s R p) (wf : pu_wf A) : ∀ d i n I, i + d = A.1 0 3 → d < n → pu_V I p (pu_fd A i) →
    ∃ I', fl_s_fade_2 n p (nI i) (s, I, J, R) = some (s, I', J, R) ∧ pu_V I' p (pu_fd A (A.1 0 3)) ∧ pu_Fr p I I' := by
  intro d
  have h5 := wf.2.2.1
  have hf := wf.2.1
  induction d with
  | zero =>
    intro i n I hi hn v
    obtain ⟨n, rfl⟩ : ∃ z, n = z + 1 := ⟨n - 1, by omega⟩
    unfold fl_s_fade_2
    have v3 : I p 3 = nI (A.1 0 3) := v.1.2.2.2.1
    simp only [pu_gI h.1, Option.bind_some, v3, pu_ltI (show i < 2147483648 by omega) (show A.1 0 3 < 2147483648 by omega), show ¬ i < A.1 0 3 by omega, ↓reduceIte]
    refine ⟨I, rfl, ?_, pu_Fr.rf⟩
    rw [show i = A.1 0 3 by omega] at v
    exact v
  | succ d ih =>
    intro i n I hi hn v
    obtain ⟨n, rfl⟩ : ∃ z, n = z + 1 := ⟨n - 1, by omega⟩
    have hil : i < A.1 0 3 := by omega
    have v1 : I p 1 = nI (A.1 0 1) := v.1.2.1
    have v3 : I p 3 = nI (A.1 0 3) := v.1.2.2.2.1
    have v4 : I p 4 = pu_mk (fun k => A.2 0 k && !(decide (k < i) && decide (A.1 5 k ≤ A.1 0 1))) 8 := v.1.2.2.2.2.1
    have hp := wf.2.2.2.2.1 i
    have wi := pu_fd_wf wf i
    have eu : (pu_fd A i).2 0 i = A.2 0 i := by
      show (A.2 0 i && !(decide (i < i) && decide (A.1 5 i ≤ A.1 0 1))) = A.2 0 i
      rw [decide_eq_false (Nat.lt_irrefl i)]; simp
    unfold fl_s_fade_2
    simp only [pu_gI h.1, Option.bind_some, v3, pu_ltI (show i < 2147483648 by omega) (show A.1 0 3 < 2147483648 by omega), hil, ↓reduceIte, pu_on h.1, pu_s_isUp h v wi (show i < 2147483648 by omega), pu_b0, eu]
    rw [← nI_succ]
    cases hu : A.2 0 i
    · simp only [↓reduceIte]
      have e : pu_fd A (i + 1) = pu_fd A i := by
        unfold pu_fd
        congr 1
        · funext r k
          by_cases hr : r = 5
          · by_cases hk : k = i
            · subst hk; simp [hu]
            · have : (k < i + 1) = (k < i) := propext (by omega)
              simp only [this]
          · simp only [hr, ↓reduceIte]
        · funext r k
          by_cases hk : k = i
          · subst hk; simp [hu]
          · have : (k < i + 1) = (k < i) := propext (by omega)
            simp only [this]
      exact ih (i + 1) n I (by omega) (by omega) (by rw [e]; exact v)
    · simp only [Bool.true_eq_false, ↓reduceIte, pu_gN h.1, h.2.2.2.2.2.2.1, Option.bind_some, pu_lI h.2.1.2.2.2.2.1 (show i < 8 by omega) (show 8 ≤ 100000 by omega), pu_tI h.2.1.2.2.2.2.1 (show i < 8 by omega) (show 8 ≤ 100000 by omega), pu_gI h.1, v1, pu_u2s]
      have vp : I (p + 5) i = nI (A.1 5 i) := by
        have := (v.2.2 i hil).2.2 (by rw [eu]; exact hu)
        rw [this]
        show nI (if i < i ∧ A.2 0 i = true then A.1 5 i - A.1 0 1 else A.1 5 i) = _
        rw [if_neg (fun z => Nat.lt_irrefl i z.1)]
      rw [vp]
      simp only [pu_sub0 (show A.1 5 i < 1073741824 by omega) (show A.1 0 1 < 1073741824 by omega)]
      by_cases hd : A.1 5 i ≤ A.1 0 1
      · simp only [hd, ↓reduceIte, pu_pI h.1, Option.bind_some]
        have x4 : tb_up2 I (p + 5) i (nI (A.1 5 i) - nI (A.1 0 1)) p 4 = I p 4 := congrFun (pu_u2p _ _ _ _ (by omega)) 4
        rw [x4, v4, pu_mk_1 (show i < 8 by omega) (by omega), pu_mk_no _ _ (by omega) (by omega)]
        obtain ⟨I', e1, e2, e3⟩ := ih (i + 1) n (tb_up2 (tb_up2 I (p + 5) i (nI (A.1 5 i) - nI (A.1 0 1))) p 4 (pu_mk (fun k => (A.2 0 k && !(decide (k < i) && decide (A.1 5 k ≤ A.1 0 1))) && !(decide (k < 8) && decide (k = i))) 8)) (by omega) (by omega) (by
          obtain ⟨⟨a0, a1, a2, a3, a4, a5⟩, b, c⟩ := v
          have q : ∀ k, k ≠ 4 → tb_up2 (tb_up2 I (p + 5) i (nI (A.1 5 i) - nI (A.1 0 1))) p 4 (pu_mk (fun k => (A.2 0 k && !(decide (k < i) && decide (A.1 5 k ≤ A.1 0 1))) && !(decide (k < 8) && decide (k = i))) 8) p k = I p k := fun k hk => by
            rw [pu_u2k _ _ _ _ hk, pu_u2p _ _ _ _ (by omega)]
          refine ⟨⟨?_, ?_, ?_, ?_, ?_, ?_⟩, ?_, ?_⟩
          · rw [q 0 (by decide)]; exact a0
          · rw [q 1 (by decide)]; exact a1
          · rw [q 2 (by decide)]; exact a2
          · rw [q 3 (by decide)]; exact a3
          · rw [pu_u2s]
            refine pu_mk_cong 8 (fun k hk => ?_)
            show ((A.2 0 k && !(decide (k < i) && decide (A.1 5 k ≤ A.1 0 1))) && !(decide (k < 8) && decide (k = i))) = (A.2 0 k && !(decide (k < i + 1) && decide (A.1 5 k ≤ A.1 0 1)))
            by_cases hk2 : k = i
            · subst hk2; simp [hd, hk]
            · have : (k < i + 1) = (k < i) := propext (by omega)
              simp only [this, hk2, decide_false, Bool.and_false, Bool.not_false, Bool.and_true]
          · rw [q 5 (by decide)]; exact a5
          · intro z hz
            rw [pu_u2p _ _ _ _ (by omega), pu_u2p _ _ _ _ (by omega), pu_u2p _ _ _ _ (by omega), pu_u2p _ _ _ _ (by omega)]
            exact b z hz
          · intro l hl
            rw [pu_u2p _ _ _ _ (by omega), pu_u2p _ _ _ _ (by omega), pu_u2p _ _ _ _ (by omega), pu_u2p _ _ _ _ (by omega), pu_u2p _ _ _ _ (by omega)]
            refine ⟨(c l hl).1, (c l hl).2.1, ?_⟩
            intro hx
            have hx : (A.2 0 l && !(decide (l < i + 1) && decide (A.1 5 l ≤ A.1 0 1))) = true := hx
            by_cases hl2 : l = i
            · subst hl2; simp [hd] at hx
            · have e5 : (l < i + 1) = (l < i) := propext (by omega)
              rw [pu_u2k _ _ _ _ hl2]
              simp only [e5] at hx
              rw [(c l hl).2.2 hx]
              show nI (if l < i ∧ A.2 0 l = true then A.1 5 l - A.1 0 1 else A.1 5 l) = nI (if l < i + 1 ∧ A.2 0 l = true then A.1 5 l - A.1 0 1 else A.1 5 l)
              simp only [e5])
        exact ⟨I', e1, e2, ((pu_Fr.u2 (i := 5) (by omega)).tr (pu_Fr.u2 (i := 0) (by omega))).tr e3⟩
      · simp only [hd, ↓reduceIte]
        obtain ⟨I', e1, e2, e3⟩ := ih (i + 1) n (tb_up2 I (p + 5) i (nI (A.1 5 i) - nI (A.1 0 1))) (by omega) (by omega) (by
          obtain ⟨⟨a0, a1, a2, a3, a4, a5⟩, b, c⟩ := v
          have q : ∀ k, tb_up2 I (p + 5) i (nI (A.1 5 i) - nI (A.1 0 1)) p k = I p k := fun k => by
            rw [pu_u2p _ _ _ _ (by omega)]
          refine ⟨⟨?_, ?_, ?_, ?_, ?_, ?_⟩, ?_, ?_⟩
          · rw [q 0]; exact a0
          · rw [q 1]; exact a1
          · rw [q 2]; exact a2
          · rw [q 3]; exact a3
          · rw [q 4, a4]
            refine pu_mk_cong 8 (fun k hk => ?_)
            show (A.2 0 k && !(decide (k < i) && decide (A.1 5 k ≤ A.1 0 1))) = (A.2 0 k && !(decide (k < i + 1) && decide (A.1 5 k ≤ A.1 0 1)))
            by_cases hk2 : k = i
            · subst hk2; simp [hd]
            · have : (k < i + 1) = (k < i) := propext (by omega)
              simp only [this]
          · rw [q 5]; exact a5
          · intro z hz
            rw [pu_u2p _ _ _ _ (by omega), pu_u2p _ _ _ _ (by omega)]
            exact b z hz
          · intro l hl
            rw [pu_u2p _ _ _ _ (by omega), pu_u2p _ _ _ _ (by omega)]
            refine ⟨(c l hl).1, (c l hl).2.1, ?_⟩
            intro hx
            have hx : (A.2 0 l && !(decide (l < i + 1) && decide (A.1 5 l ≤ A.1 0 1))) = true := hx
            show tb_up2 I (p + 5) i (nI (A.1 5 i) - nI (A.1 0 1)) (p + 5) l = nI (if l < i + 1 ∧ A.2 0 l = true then A.1 5 l - A.1 0 1 else A.1 5 l)
            by_cases hl2 : l = i
            · subst hl2
              rw [pu_u2s, pu_sub (by omega), if_pos ⟨by omega, hu⟩]
            · have e5 : (l < i + 1) = (l < i) := propext (by omega)
              rw [pu_u2k _ _ _ _ hl2]
              simp only [e5] at hx ⊢
              rw [(c l hl).2.2 hx]
              rfl)
        exact ⟨I', e1, e2, (pu_Fr.u2 (i := 5) (by omega)).tr e3⟩
/-- all lines fade -/
def pu_fade (A : pu_A) : pu_A := pu_fd A (A.1 0 3)
theorem pu_s_fade {I : Nat → Nat → Int32} {A : pu_A} (h : pu_St s R p) (v : pu_V I p A) (wf : pu_wf A) :
    ∃ I', fb_s_fade p (s, I, J, R) = some (s, I', J, R) ∧ pu_V I' p (pu_fade A) ∧ pu_Fr p I I' := by
  have h5 := wf.2.2.1
  have e0 : pu_fd A 0 = A := by
    unfold pu_fd
    have : ∀ r k, (if r = 5 then (if k < 0 ∧ A.2 0 k = true then A.1 5 k - A.1 0 1 else A.1 5 k) else A.1 r k) = A.1 r k := by
      intro r k
      by_cases hr : r = 5
      · subst hr; simp
      · simp [hr]
    have h2 : ∀ r k, (if r = 0 then A.2 0 k && !(decide (k < 0) && decide (A.1 5 k ≤ A.1 0 1)) else A.2 r k) = A.2 r k := by
      intro r k
      by_cases hr : r = 0
      · subst hr; simp
      · simp [hr]
    simp only [this, h2]
  obtain ⟨I', e1, e2, e3⟩ := pu_s_fade_l (J := J) h wf (A.1 0 3) 0 1048576 I (by omega) (by omega) (by rw [e0]; exact v)
  refine ⟨I', ?_, e2, e3⟩
  rw [show nI 0 = 0 from rfl] at e1
  unfold fb_s_fade
  rw [e1]
  rfl
end PUX
