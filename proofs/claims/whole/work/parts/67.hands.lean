/-! ===== Hands: who falls with other lines up; needed ===== -/
/-- giving way leaves the numbers -/
def pu_Gk (p : Nat) (I I' : Nat → Nat → Int32) : Prop := (∀ i, 1 ≤ i → i < 6 → I' (p + i) = I (p + i)) ∧ (∀ k, k ≠ 4 → k ≠ 5 → I' p k = I p k)
theorem pu_Gk.rf {p : Nat} {I : Nat → Nat → Int32} : pu_Gk p I I := ⟨fun _ _ _ => rfl, fun _ _ _ => rfl⟩
theorem pu_Gk.tr {p : Nat} {I I' I2 : Nat → Nat → Int32} (a : pu_Gk p I I') (b : pu_Gk p I' I2) : pu_Gk p I I2 := ⟨fun i h1 h2 => (b.1 i h1 h2).trans (a.1 i h1 h2), fun k h1 h2 => (b.2 k h1 h2).trans (a.2 k h1 h2)⟩
theorem pu_Gk.h6 {p : Nat} {I I' : Nat → Nat → Int32} (h : ∀ q, q ≠ p + 6 → I' q = I q) : pu_Gk p I I' := ⟨fun i h1 h2 => h _ (by omega), fun k _ _ => congrFun (h p (by omega)) k⟩
theorem pu_Gk.u4 {p : Nat} {I : Nat → Nat → Int32} {v : Int32} : pu_Gk p I (tb_up2 I p 4 v) := ⟨fun i h1 h2 => pu_u2p _ _ _ _ (by omega), fun k h1 _ => pu_u2k _ _ _ _ h1⟩
theorem pu_Gk.u5 {p : Nat} {I : Nat → Nat → Int32} {v : Int32} : pu_Gk p I (tb_up2 I p 5 v) := ⟨fun i h1 h2 => pu_u2p _ _ _ _ (by omega), fun k _ h1 => pu_u2k _ _ _ _ h1⟩
section PUd
variable {s : List (Nat × Nat)} {J : Nat → Nat → Int64} {R : Nat → Nat → Option Nat} {p : Nat}
theorem pu_s_gwk_l (h : pu_St s R p) (v1 : Int32) : ∀ d i n I A, i + d = 11 → d < n → pu_V I p A → pu_wf A →
    ∃ X I', fl_s_giveWay_5 n p v1 (nI i) (s, I, J, R) = some (X, (s, I', J, R)) ∧ pu_Gk p I I' := by
  intro d
  induction d with
  | zero =>
    intro i n I A hi hn v wf
    obtain ⟨n, rfl⟩ : ∃ z, n = z + 1 := ⟨n - 1, by omega⟩
    unfold fl_s_giveWay_5
    simp only [show (10 : Int32) = nI 10 from rfl, pu_leI (show i < 2147483648 by omega) (show 10 < 2147483648 by omega), show ¬ i ≤ 10 by omega, ↓reduceIte, fj_s_giveWay_j34, pu_gI h.1, Option.bind_some]
    exact ⟨_, I, rfl, pu_Gk.rf⟩
  | succ d ih =>
    intro i n I A hi hn v wf
    obtain ⟨n, rfl⟩ : ∃ z, n = z + 1 := ⟨n - 1, by omega⟩
    obtain ⟨I1, w1, w2⟩ := pu_s_weak (J := J) h v wf
    have vv : pu_V I1 p A := pu_V_eq (fun j hj => w2 _ (by omega)) v
    unfold fl_s_giveWay_5
    simp only [show (10 : Int32) = nI 10 from rfl, pu_leI (show i < 2147483648 by omega) (show 10 < 2147483648 by omega), show i ≤ 10 by omega, ↓reduceIte, pu_on h.1, w1, Option.bind_some]
    by_cases hw : pu_mk (pu_weak A) 10 = 0
    · simp only [hw, ↓reduceIte, fj_s_giveWay_j13, fj_s_giveWay_j34, pu_gI h.1, Option.bind_some]
      exact ⟨_, I1, rfl, pu_Gk.h6 w2⟩
    · simp only [hw, ↓reduceIte, pu_gI h.1, pu_pI h.1, Option.bind_some, vv.1.2.2.2.2.2]
      rw [pu_mk_no _ _ (by omega) (by omega)]
      have ek : pu_mk (fun k => A.2 1 k && !(decide (k < 10) && pu_weak A k)) 10 = pu_mk (fun k => A.2 1 k && !pu_weak A k) 10 := pu_mk_cong 10 (fun k hk => by rw [decide_eq_true hk, Bool.true_and])
      rw [ek]
      have v2 := pu_V_st vv (fun k => A.2 1 k && !pu_weak A k)
      have wf2 : pu_wf (pu_t2 A (A.2 0) (fun k => A.2 1 k && !pu_weak A k)) := pu_t2_wf wf (fun l hl => hl) (fun l hl => (Bool.and_eq_true _ _ ▸ hl : _ ∧ _).1)
      have el := pu_s_linesAtAny (J := J) h v2 wf2 (pu_weak A)
      simp only [pu_on h.1, el, Option.bind_some, pu_pI h.1, v2.1.2.2.2.2.1]
      rw [show (pu_t2 A (A.2 0) (fun k => A.2 1 k && !pu_weak A k)).2 0 = A.2 0 from rfl, show (pu_t2 A (A.2 0) (fun k => A.2 1 k && !pu_weak A k)).1 = A.1 from rfl, pu_mk_no _ _ (by omega) (by omega)]
      have ek2 : pu_mk (fun k => A.2 0 k && !(decide (k < 8) && (A.2 0 k && (pu_weak A (A.1 3 k) || pu_weak A (A.1 4 k))))) 8 = pu_mk (fun k => A.2 0 k && !(pu_weak A (A.1 3 k) || pu_weak A (A.1 4 k))) 8 := pu_mk_cong 8 (fun k hk => by
        rw [decide_eq_true hk, Bool.true_and]
        cases A.2 0 k <;> simp)
      rw [ek2]
      have v3 := pu_V_up v2 (fun k => A.2 0 k && !(pu_weak A (A.1 3 k) || pu_weak A (A.1 4 k))) (fun l hl => (Bool.and_eq_true _ _ ▸ hl : _ ∧ _).1)
      have v4 : pu_V (tb_up2 (tb_up2 I1 p 5 (pu_mk (fun k => A.2 1 k && !pu_weak A k) 10)) p 4 (pu_mk (fun k => A.2 0 k && !(pu_weak A (A.1 3 k) || pu_weak A (A.1 4 k))) 8)) p (pu_fell A (pu_weak A)) := by
        rw [pu_fell_t2]
        exact v3
      rw [← nI_succ]
      obtain ⟨X, I', e1, e2⟩ := ih (i + 1) n _ _ (by omega) (by omega) v4 (pu_fell_wf wf _)
      exact ⟨X, I', e1, (((pu_Gk.h6 w2).tr pu_Gk.u5).tr pu_Gk.u4).tr e2⟩
theorem pu_s_giveWay2 {I : Nat → Nat → Int32} {A : pu_A} (h : pu_St s R p) (v : pu_V I p A) (wf : pu_wf A) :
    ∃ I', fb_s_giveWay p (s, I, J, R) = some (pu_mk (pu_fallen A (pu_gw 11 A)) 10, (s, I', J, R)) ∧ pu_V I' p (pu_gw 11 A) ∧ pu_Fr p I I' ∧ pu_Gk p I I' := by
  obtain ⟨I', a1, a2, a3⟩ := pu_s_giveWay (J := J) h v wf
  obtain ⟨X, I2, b1, b2⟩ := pu_s_gwk_l (J := J) h (I p 5) 11 0 1048576 I A (by omega) (by omega) v wf
  have e : fb_s_giveWay p (s, I, J, R) = some (X, (s, I2, J, R)) := by
    unfold fb_s_giveWay
    simp only [pu_gI h.1, Option.bind_some]
    rw [show nI 0 = 0 from rfl] at b1
    rw [b1]
    rfl
  have e2 := a1.symm.trans e
  injection e2 with e2
  injection e2 with _ e2
  injection e2 with _ e2
  injection e2 with e2 _
  subst e2
  exact ⟨I', a1, a2, a3, b2⟩
/-- the numbers of a Street at p, its sets left open -/
def pu_W (I : Nat → Nat → Int32) (p : Nat) (A : pu_A) : Prop :=
  (I p 0 = nI (A.1 0 0) ∧ I p 1 = nI (A.1 0 1) ∧ I p 2 = nI (A.1 0 2) ∧ I p 3 = nI (A.1 0 3)) ∧
  (∀ h, h < 10 → I (p + 1) h = nI (A.1 1 h) ∧ I (p + 2) h = nI (A.1 2 h)) ∧ (∀ l, l < A.1 0 3 → I (p + 3) l = nI (A.1 3 l) ∧ I (p + 4) l = nI (A.1 4 l) ∧ (A.2 0 l = true → I (p + 5) l = nI (A.1 5 l)))
theorem pu_V.w {I : Nat → Nat → Int32} {A : pu_A} (v : pu_V I p A) : pu_W I p A := ⟨⟨v.1.1, v.1.2.1, v.1.2.2.1, v.1.2.2.2.1⟩, v.2.1, v.2.2⟩
theorem pu_W_gk {I I' : Nat → Nat → Int32} {A : pu_A} (g : pu_Gk p I I') (w : pu_W I p A) : pu_W I' p A := by
  obtain ⟨⟨a0, a1, a2, a3⟩, b, c⟩ := w
  refine ⟨⟨?_, ?_, ?_, ?_⟩, ?_, ?_⟩
  · rw [g.2 0 (by decide) (by decide)]; exact a0
  · rw [g.2 1 (by decide) (by decide)]; exact a1
  · rw [g.2 2 (by decide) (by decide)]; exact a2
  · rw [g.2 3 (by decide) (by decide)]; exact a3
  · rw [g.1 1 (by omega) (by omega), g.1 2 (by omega) (by omega)]; exact b
  · rw [g.1 3 (by omega) (by omega), g.1 4 (by omega) (by omega), g.1 5 (by omega) (by omega)]; exact c
theorem pu_W_v {I : Nat → Nat → Int32} {A : pu_A} (w : pu_W I p A) {u t : Nat → Bool} (hu : ∀ l, u l = true → A.2 0 l = true) : pu_V (tb_up2 (tb_up2 I p 4 (pu_mk u 8)) p 5 (pu_mk t 10)) p (pu_t2 A u t) := by
  obtain ⟨⟨a0, a1, a2, a3⟩, b, c⟩ := w
  refine ⟨⟨?_, ?_, ?_, ?_, ?_, ?_⟩, ?_, ?_⟩
  · simp (disch := omega) only [pu_u2k]; exact a0
  · simp (disch := omega) only [pu_u2k]; exact a1
  · simp (disch := omega) only [pu_u2k]; exact a2
  · simp (disch := omega) only [pu_u2k]; exact a3
  · simp (disch := omega) only [pu_u2k, pu_u2s]; rfl
  · rw [pu_u2s]; rfl
  · intro h hh
    simp (disch := omega) only [pu_u2p]
    exact b h hh
  · intro l hl
    simp (disch := omega) only [pu_u2p]
    exact ⟨(c l hl).1, (c l hl).2.1, fun z => (c l hl).2.2 (hu l z)⟩
end PUd
/-- who falls with the lines u up -/
def pu_fw (A : pu_A) (u : Nat → Bool) (k : Nat) : Bool := pu_fallen (pu_t2 A u (A.2 1)) (pu_gw 11 (pu_t2 A u (A.2 1))) k
def pu_a_needed (A : pu_A) : Int32 := if A.1 0 0 = 0 then -1 else pu_mk (fun l => A.2 0 l && !decide (pu_mk (pu_fw A (fun z => A.2 0 z && !decide (z = l))) 10 = 0)) 8
section PUe
variable {s : List (Nat × Nat)} {R : Nat → Nat → Option Nat} {I : Nat → Nat → Int32} {J : Nat → Nat → Int64} {A : pu_A}
theorem pu_h_fallenWith (hX : pu_X s R) (v : pu_V I 19 A) (w : pu_W I 43 A) (wf : pu_wf A) {u : Nat → Bool} (hu : ∀ l, u l = true → A.2 0 l = true) :
    ∃ I', fb_h_fallenWith 42 19 (pu_mk u 8) (s, I, J, R) = some (pu_mk (pu_fw A u) 10, (s, I', J, R)) ∧ pu_W I' 43 A ∧ pu_Fr 43 I I' := by
  have v2 := pu_W_v w (t := A.2 1) hu
  have wf2 : pu_wf (pu_t2 A u (A.2 1)) := pu_t2_wf wf hu (fun l hl => hl)
  obtain ⟨I', a1, a2, a3, a4⟩ := pu_s_giveWay2 (J := J) (pu_st43 hX) v2 wf2
  have e5 : tb_up2 I 43 4 (pu_mk u 8) 19 5 = pu_mk (A.2 1) 10 := by rw [pu_u2p _ _ _ _ (by decide)]; exact v.1.2.2.2.2.2
  refine ⟨I', ?_, pu_W_gk ((pu_Gk.u4.tr pu_Gk.u5).tr a4) w, ((pu_Fr.u2 (i := 0) (by omega)).tr (pu_Fr.u2 (i := 0) (by omega))).tr a3⟩
  unfold fb_h_fallenWith
  simp only [pu_gN (pu_c42 hX), pu_f42_0 hX, Option.bind_some, pu_pI (pu_c43 hX), pu_gI (pu_c19 hX), e5, pu_on (pu_c43 hX), a1]
  rfl
theorem pu_V_fr43 {I' : Nat → Nat → Int32} (f : pu_Fr 43 I I') (v : pu_V I 19 A) : pu_V I' 19 A := pu_V_eq (fun j hj => f _ (by omega)) v
theorem pu_h_needed_l (hX : pu_X s R) (wf : pu_wf A) : ∀ d i n I, i + d = A.1 0 3 → d < n → pu_V I 19 A → pu_W I 43 A →
    ∃ I', fl_h_linesNeeded_8 n 42 19 (pu_mk (fun l => A.2 0 l && !decide (pu_mk (pu_fw A (fun z => A.2 0 z && !decide (z = l))) 10 = 0)) i) (nI i) (s, I, J, R) = some (pu_mk (fun l => A.2 0 l && !decide (pu_mk (pu_fw A (fun z => A.2 0 z && !decide (z = l))) 10 = 0)) (A.1 0 3), (s, I', J, R)) ∧ pu_Fr 43 I I' := by
  intro d
  have h5 := wf.2.2.1
  induction d with
  | zero =>
    intro i n I hi hn v w
    obtain ⟨n, rfl⟩ : ∃ z, n = z + 1 := ⟨n - 1, by omega⟩
    unfold fl_h_linesNeeded_8
    simp only [pu_gI (pu_c19 hX), Option.bind_some, v.1.2.2.2.1, pu_ltI (show i < 2147483648 by omega) (show A.1 0 3 < 2147483648 by omega), show ¬ i < A.1 0 3 by omega, ↓reduceIte]
    rw [show i = A.1 0 3 by omega]
    exact ⟨I, rfl, pu_Fr.rf⟩
  | succ d ih =>
    intro i n I hi hn v w
    obtain ⟨n, rfl⟩ : ∃ z, n = z + 1 := ⟨n - 1, by omega⟩
    have hil : i < A.1 0 3 := by omega
    unfold fl_h_linesNeeded_8
    simp only [pu_gI (pu_c19 hX), Option.bind_some, v.1.2.2.2.1, pu_ltI (show i < 2147483648 by omega) (show A.1 0 3 < 2147483648 by omega), hil, ↓reduceIte, pu_on (pu_c19 hX), pu_s_isUp (pu_st19 hX) v wf (show i < 2147483648 by omega), pu_b0]
    rw [← nI_succ]
    cases hu : A.2 0 i
    · simp only [↓reduceIte]
      obtain ⟨I', a1, a2⟩ := ih (i + 1) n I (by omega) (by omega) v w
      rw [pu_mk_s] at a1
      simp only [hu, Bool.false_and, Bool.false_eq_true, ↓reduceIte, Int32.or_zero] at a1
      exact ⟨I', a1, a2⟩
    · have em : pu_mk (A.2 0) 8 &&& ((1 : Int32) <<< (nI i &&& 31) ^^^ (-1)) = pu_mk (fun z => A.2 0 z && !decide (z = i)) 8 := by
        rw [pu_mk_1 (show i < 8 by omega) (by omega), pu_mk_no _ _ (by omega) (by omega)]
        exact pu_mk_cong 8 (fun k hk => by rw [decide_eq_true hk, Bool.true_and])
      obtain ⟨I1, b1, b2, b3⟩ := pu_h_fallenWith (J := J) hX v w wf (u := fun z => A.2 0 z && !decide (z = i)) (fun l hl => (Bool.and_eq_true _ _ ▸ hl : _ ∧ _).1)
      simp only [Bool.true_eq_false, ↓reduceIte, pu_gI (pu_c19 hX), v.1.2.2.2.2.1, Option.bind_some, em, pu_on (pu_c42 hX), b1]
      obtain ⟨I', a1, a2⟩ := ih (i + 1) n I1 (by omega) (by omega) (pu_V_fr43 b3 v) b2
      rw [pu_mk_s] at a1
      simp only [hu, Bool.true_and] at a1
      refine ⟨I', ?_, b3.tr a2⟩
      by_cases hz : pu_mk (pu_fw A (fun z => A.2 0 z && !decide (z = i))) 10 = 0
      · simp only [hz, decide_true, Bool.not_true, Bool.false_eq_true, ↓reduceIte, Int32.or_zero] at a1 ⊢
        exact a1
      · simp only [hz, decide_false, Bool.not_false, ↓reduceIte] at a1 ⊢
        exact a1
theorem pu_x_needed (hX : pu_X s R) (v : pu_V I 19 A) (wf : pu_wf A) : ∃ I' J', fb_x_needed 1 (s, I, J, R) = some (pu_a_needed A, (s, I', J', R)) ∧ pu_Cf I I' J J' := by
  have h5 := wf.2.2.1
  unfold fb_x_needed pu_a_needed
  simp only [pu_gN (pu_c1 hX), pu_f1_5 hX, pu_f1_9 hX, Option.bind_some, pu_on (pu_c18 hX), pu_sc_isEmpty hX v wf, pu_b0, decide_eq_false_iff_not]
  by_cases h0 : A.1 0 0 = 0
  · simp only [h0, not_true, ↓reduceIte]
    exact ⟨I, J, rfl, pu_Cf.rf⟩
  · simp only [h0, not_false_eq_true, ↓reduceIte, pu_gN (pu_c18 hX), pu_f18_0 hX, Option.bind_some, pu_on (pu_c42 hX), fb_h_linesNeeded, pu_gN (pu_c42 hX), pu_f42_0 hX, pu_on (pu_c43 hX)]
    obtain ⟨I1, a1, a2, a3⟩ := pu_s_copyFrom (J := J) (pu_st43 hX) (pu_st19 hX) (by omega) v wf
    obtain ⟨I2, b1, b2⟩ := pu_h_needed_l (J := J) hX wf (A.1 0 3) 0 1048576 I1 (by omega) (by omega) (pu_V_fr43 a3 v) a2.w
    rw [show pu_mk (fun l => A.2 0 l && !decide (pu_mk (pu_fw A (fun z => A.2 0 z && !decide (z = l))) 10 = 0)) 0 = 0 from rfl, show nI 0 = 0 from rfl] at b1
    simp only [a1, Option.bind_some, b1]
    rw [pu_mk_more 8 h5 (fun k h1 _ => by rw [pu_noup wf (by omega)]; rfl)]
    exact ⟨I2, J, rfl, pu_Cf.fr (by omega) (by omega) (a3.tr b2)⟩
/-- lines cut, who falls, all laid back -/
theorem pu_m_fallBy {I0 : Nat → Nat → Int32} {J0 : Nat → Nat → Int64} (hM : pu_M s R) (q : pu_Q (I0 80) A) (wf : pu_wf A) (f : pu_Zf I0 I J0 J) (h82 : ∀ z, z < 64 → I 82 z = I0 80 (10 + z)) (g : Nat → Bool) :
    ∃ I', fb_m_fallBy 70 (pu_mk g 8) (s, I, J, R) = some (pu_mk (pu_fw A (fun l => A.2 0 l && !g l)) 10, (s, I', J, R)) ∧ pu_Zf I0 I' J0 J ∧ (∀ z, z < 64 → I' 82 z = I0 80 (10 + z)) := by
  have q1 : pu_Q (I 80) A := by rw [f.1 80 (by decide) (by omega)]; exact q
  obtain ⟨I1, a1, a2, a3⟩ := pu_m_downsAll (J := J) hM q1 wf g
  have wf1 : pu_wf (pu_t2 A (fun l => A.2 0 l && !g l) (A.2 1)) := pu_t2_wf wf (fun l hl => (Bool.and_eq_true _ _ ▸ hl : _ ∧ _).1) (fun l hl => hl)
  obtain ⟨I2, b1, b2, b3⟩ := pu_m_givesWay (J := J) hM a2 wf1
  have h822 : ∀ z, z < 64 → I2 82 z = I0 80 (10 + z) := fun z hz => by rw [b3.1 82 (by decide), a3.1 82 (by decide)]; exact h82 z hz
  obtain ⟨I3, c1, c2, c3, -⟩ := pu_m_laysBack (I := I2) (I0 := I0) (J := J) (J0 := J0) hM h822 (((pu_Tf.zf f).tr (pu_Tf.mf a3)).tr (pu_Tf.mf b3))
  refine ⟨I3, ?_, c2, fun z hz => by rw [c3]; exact h822 z hz⟩
  unfold fb_m_fallBy
  simp only [pu_on (pu_m70 hM), a1, b1, c1, Option.bind_some]
  rfl
theorem pu_m_needed_l {I0 : Nat → Nat → Int32} {J0 : Nat → Nat → Int64} (hM : pu_M s R) (q : pu_Q (I0 80) A) (wf : pu_wf A) : ∀ d i n I, i + d = A.1 0 3 → d < n → pu_Zf I0 I J0 J → (∀ z, z < 64 → I 82 z = I0 80 (10 + z)) →
    ∃ I', fl_m_needed_11 n 70 (pu_mk (fun l => A.2 0 l && !decide (pu_mk (pu_fw A (fun z => A.2 0 z && !decide (z = l))) 10 = 0)) i) (nI i) (s, I, J, R) = some (pu_mk (fun l => A.2 0 l && !decide (pu_mk (pu_fw A (fun z => A.2 0 z && !decide (z = l))) 10 = 0)) (A.1 0 3), (s, I', J, R)) ∧ pu_Zf I0 I' J0 J := by
  intro d
  have h5 := wf.2.2.1
  induction d with
  | zero =>
    intro i n I hi hn f h82
    obtain ⟨n, rfl⟩ : ∃ z, n = z + 1 := ⟨n - 1, by omega⟩
    have q1 : pu_Q (I 80) A := by rw [f.1 80 (by decide) (by omega)]; exact q
    unfold fl_m_needed_11
    simp only [pu_gN (pu_m70 hM), pu_r20 hM, Option.bind_some, pu_cell' hM (show (11 : Int32) = nI 11 from rfl) (show 11 < 149 by omega), q1.1.2.2.2.2, pu_ltI (show i < 2147483648 by omega) (show A.1 0 3 < 2147483648 by omega), show ¬ i < A.1 0 3 by omega, ↓reduceIte]
    rw [show i = A.1 0 3 by omega]
    exact ⟨I, rfl, f⟩
  | succ d ih =>
    intro i n I hi hn f h82
    obtain ⟨n, rfl⟩ : ∃ z, n = z + 1 := ⟨n - 1, by omega⟩
    have hil : i < A.1 0 3 := by omega
    have q1 : pu_Q (I 80) A := by rw [f.1 80 (by decide) (by omega)]; exact q
    unfold fl_m_needed_11
    simp only [pu_gN (pu_m70 hM), pu_r20 hM, Option.bind_some, pu_cell' hM (show (11 : Int32) = nI 11 from rfl) (show 11 < 149 by omega), q1.1.2.2.2.2, pu_ltI (show i < 2147483648 by omega) (show A.1 0 3 < 2147483648 by omega), hil, ↓reduceIte, pu_on (pu_m70 hM), pu_m_isUp hM q1 wf (show i < 2147483648 by omega), pu_b0]
    rw [← nI_succ]
    cases hu : A.2 0 i
    · simp only [↓reduceIte, Int32.or_zero]
      obtain ⟨I', a1, a2⟩ := ih (i + 1) n I (by omega) (by omega) f h82
      rw [pu_mk_s] at a1
      simp only [hu, Bool.false_and, Bool.false_eq_true, ↓reduceIte, Int32.or_zero] at a1
      exact ⟨I', a1, a2⟩
    · obtain ⟨I1, b1, b2, b3⟩ := pu_m_fallBy (J := J) (J0 := J0) hM q wf f h82 (fun z => decide (z = i))
      rw [← pu_mk_1 (show i < 8 by omega) (show 8 ≤ 32 by omega)] at b1
      simp only [Bool.true_eq_false, ↓reduceIte, b1, Option.bind_some, pu_on (pu_m70 hM)]
      obtain ⟨I', a1, a2⟩ := ih (i + 1) n I1 (by omega) (by omega) b2 b3
      rw [pu_mk_s] at a1
      simp only [hu, Bool.true_and] at a1
      refine ⟨I', ?_, a2⟩
      by_cases hz : pu_mk (pu_fw A (fun z => A.2 0 z && !decide (z = i))) 10 = 0
      · simp only [hz, decide_true, Bool.not_true, Bool.false_eq_true, ↓reduceIte, Int32.or_zero] at a1 ⊢
        exact a1
      · simp only [hz, decide_false, Bool.not_false, ↓reduceIte] at a1 ⊢
        exact a1
theorem pu_m_needed (hM : pu_M s R) (q : pu_Q (I 80) A) (wf : pu_wf A) : ∃ I' J', fb_m_needed 70 (s, I, J, R) = some (pu_a_needed A, (s, I', J', R)) ∧ pu_Zf I I' J J' := by
  have h5 := wf.2.2.1
  unfold fb_m_needed pu_a_needed
  simp only [pu_on (pu_m70 hM), pu_m_isStreet hM q, Option.bind_some, pu_b0, decide_eq_false_iff_not]
  by_cases h0 : A.1 0 0 = 0
  · simp only [h0, Nat.lt_irrefl, not_false_eq_true, ↓reduceIte]
    exact ⟨I, J, rfl, pu_Zf.rf⟩
  · simp only [show 0 < A.1 0 0 by omega, not_true, ↓reduceIte, h0]
    obtain ⟨I1, a1, a2, a3⟩ := pu_m_keeps (I := I) (J := J) hM
    obtain ⟨I2, b1, b2⟩ := pu_m_needed_l (J := J) (J0 := J) (I0 := I) hM q wf (A.1 0 3) 0 1048576 I1 (by omega) (by omega) (pu_Zf.kp a3) a2
    rw [show pu_mk (fun l => A.2 0 l && !decide (pu_mk (pu_fw A (fun z => A.2 0 z && !decide (z = l))) 10 = 0)) 0 = 0 from rfl, show nI 0 = 0 from rfl] at b1
    simp only [a1, Option.bind_some, b1]
    rw [pu_mk_more 8 h5 (fun k h1 _ => by rw [pu_noup wf (by omega)]; rfl)]
    exact ⟨I2, J, rfl, b2⟩
end PUe
