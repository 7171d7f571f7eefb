/-! ===== The reference: a year goes by ===== -/
/-- the words of a line -/
def pu_wn (A : pu_A) (l k : Nat) : Nat := if k = 0 then l else if k = 1 then A.1 3 l else if k = 2 then A.1 4 l else if k = 3 then A.1 5 l else if k = 4 then A.1 1 (A.1 3 l) else if k = 5 then A.1 1 (A.1 4 l) else if k = 6 then A.1 2 (A.1 3 l) else if k = 7 then A.1 2 (A.1 4 l) else if k = 8 then pu_ct (A.2 0) 8 else if k = 9 then pu_ct (A.2 1) 10 else if k = 10 then A.1 0 1 else A.1 0 2
def pu_wd (A : pu_A) (l k : Nat) : Int64 := (nI (pu_wn A l k)).toInt64
/-- whether a line is kept by a rule, or by none -/
def pu_kp (ro : Option pu_Ru) (A : pu_A) (l : Nat) : Bool := match ro with
  | none => true
  | some ru => decide (0 < pu_rho (pu_wd A l) ru)
def pu_go (ro : Option pu_Ru) (A : pu_A) : pu_A := pu_t2 A (fun l => A.2 0 l && pu_kp ro A l) (A.2 1)
def pu_year (ro : Option pu_Ru) (A : pu_A) : pu_A := pu_n (pu_gw 11 (pu_fade (pu_go ro A))) 0 2 (A.1 0 2 + 1)
theorem pu_go_wf {ro : Option pu_Ru} {A : pu_A} (wf : pu_wf A) : pu_wf (pu_go ro A) := pu_t2_wf wf (fun l hl => (Bool.and_eq_true _ _ ▸ hl : _ ∧ _).1) (fun l hl => hl)
theorem pu_go_we {ro : Option pu_Ru} {A : pu_A} (we : pu_we A) : pu_we (pu_go ro A) := fun l hl => we l (Bool.and_eq_true _ _ ▸ (hl : (A.2 0 l && pu_kp ro A l) = true) : _ ∧ _).1
theorem pu_n02_wf {A : pu_A} (wf : pu_wf A) (y : Nat) : pu_wf (pu_n A 0 2 y) := by
  obtain ⟨a, b, c, d, e, g, u, t⟩ := wf
  exact ⟨a, b, c, d, e, g, u, t⟩
theorem pu_year_wf {ro : Option pu_Ru} {A : pu_A} (wf : pu_wf A) : pu_wf (pu_year ro A) := pu_n02_wf (pu_gw_wf 11 (pu_fd_wf (pu_go_wf wf) _)) _
theorem pu_year_we {ro : Option pu_Ru} {A : pu_A} (we : pu_we A) : pu_we (pu_year ro A) := by
  have h : pu_we (pu_gw 11 (pu_fade (pu_go ro A))) := pu_gw_we 11 (pu_fd_we (pu_go_we we) _)
  exact h
/-- only years and pulls change among the numbers -/
theorem pu_year_r {ro : Option pu_Ru} {A : pu_A} (r k : Nat) (h5 : r ≠ 5) (h0 : r = 0 → k ≠ 2) : (pu_year ro A).1 r k = A.1 r k := by
  show tb_up2 (pu_gw 11 (pu_fade (pu_go ro A))).1 0 2 (A.1 0 2 + 1) r k = A.1 r k
  have e : (pu_gw 11 (pu_fade (pu_go ro A))).1 r k = A.1 r k := by
    rw [pu_gw_1]
    show (if r = 5 then _ else (pu_go ro A).1 r k) = A.1 r k
    rw [if_neg h5]
    rfl
  by_cases hr : r = 0
  · subst hr
    rw [pu_u2k _ _ _ _ (h0 rfl), e]
  · rw [pu_u2p _ _ _ _ hr, e]
theorem pu_year_y {ro : Option pu_Ru} {A : pu_A} : (pu_year ro A).1 0 2 = A.1 0 2 + 1 := by
  show tb_up2 (pu_gw 11 (pu_fade (pu_go ro A))).1 0 2 (A.1 0 2 + 1) 0 2 = _
  rw [pu_u2s]
/-- what the years of the reference change -/
def pu_Pf (I I' : Nat → Nat → Int32) (J J' : Nat → Nat → Int64) : Prop := (∀ q, q ≠ 70 → q ≠ 80 → I' q = I q) ∧ (∀ k, k ≠ 18 → I' 70 k = I 70 k) ∧ (∀ k, k < 10 ∨ 74 ≤ k → I' 80 k = I 80 k) ∧ (∀ q, q ≠ 78 → q ≠ 79 → J' q = J q)
theorem pu_Pf.rf {I : Nat → Nat → Int32} {J : Nat → Nat → Int64} : pu_Pf I I J J := ⟨fun _ _ _ => rfl, fun _ _ => rfl, fun _ _ => rfl, fun _ _ _ => rfl⟩
theorem pu_Pf.tr {I I' I2 : Nat → Nat → Int32} {J J' J2 : Nat → Nat → Int64} (a : pu_Pf I I' J J') (b : pu_Pf I' I2 J' J2) : pu_Pf I I2 J J2 := ⟨fun q h1 h2 => (b.1 q h1 h2).trans (a.1 q h1 h2), fun k hk => (b.2.1 k hk).trans (a.2.1 k hk), fun k hk => (b.2.2.1 k hk).trans (a.2.2.1 k hk), fun q h1 h2 => (b.2.2.2 q h1 h2).trans (a.2.2.2 q h1 h2)⟩
theorem pu_Pf.mf {I I' : Nat → Nat → Int32} {J : Nat → Nat → Int64} (a : pu_Mf I I') : pu_Pf I I' J J := ⟨fun q _ h2 => a.1 q h2, fun k _ => congrFun (a.1 70 (by decide)) k, a.2, fun _ _ _ => rfl⟩
theorem pu_Pf.sf {I I' : Nat → Nat → Int32} {J J' : Nat → Nat → Int64} (a : pu_Sf I I' J J') : pu_Pf I I' J J' := ⟨fun q h1 _ => a.1 q h1, a.2.1, fun k _ => congrFun (a.1 80 (by decide)) k, fun q h1 _ => a.2.2 q h1⟩
/-- the rule in force, as the reference keeps it -/
def pu_FM (I : Nat → Nat → Int32) (ro : Option pu_Ru) : Prop := match ro with
  | none => I 70 21 = -1
  | some ru => ∃ r, r ≤ 5 ∧ I 70 21 = nI r ∧ ru.length ≤ 12 ∧ I 75 r = nI ru.length ∧ pu_RM (I 72) (I 74) r 0 ru ∧ pu_ok ru
theorem pu_FM_eq {I I' : Nat → Nat → Int32} {J J' : Nat → Nat → Int64} {ro : Option pu_Ru} (f : pu_Pf I I' J J') (h : pu_FM I ro) : pu_FM I' ro := by
  cases ro with
  | none => exact (f.2.1 21 (by decide)).trans h
  | some ru =>
    obtain ⟨r, a, b, c, d, e, g⟩ := h
    refine ⟨r, a, (f.2.1 21 (by decide)).trans b, c, ?_, ?_, g⟩
    · rw [f.1 75 (by decide) (by decide)]; exact d
    · rw [f.1 72 (by decide) (by decide), f.1 74 (by decide) (by decide)]; exact e
section PUI
variable {s : List (Nat × Nat)} {R : Nat → Nat → Option Nat}
theorem pu_w0 {I : Nat → Nat → Int32} {J : Nat → Nat → Int64} {v : Int64} (hM : pu_M s R) : tb_tJ 79 0 v (s, I, J, R) = some (s, I, tb_up2 J 79 0 v, R) := pu_tJ (j := 0) (pu_m79 hM) (by decide) (by decide)
theorem pu_w1 {I : Nat → Nat → Int32} {J : Nat → Nat → Int64} {v : Int64} (hM : pu_M s R) : tb_tJ 79 1 v (s, I, J, R) = some (s, I, tb_up2 J 79 1 v, R) := pu_tJ (j := 1) (pu_m79 hM) (by decide) (by decide)
theorem pu_w2 {I : Nat → Nat → Int32} {J : Nat → Nat → Int64} {v : Int64} (hM : pu_M s R) : tb_tJ 79 2 v (s, I, J, R) = some (s, I, tb_up2 J 79 2 v, R) := pu_tJ (j := 2) (pu_m79 hM) (by decide) (by decide)
theorem pu_w3 {I : Nat → Nat → Int32} {J : Nat → Nat → Int64} {v : Int64} (hM : pu_M s R) : tb_tJ 79 3 v (s, I, J, R) = some (s, I, tb_up2 J 79 3 v, R) := pu_tJ (j := 3) (pu_m79 hM) (by decide) (by decide)
theorem pu_w4 {I : Nat → Nat → Int32} {J : Nat → Nat → Int64} {v : Int64} (hM : pu_M s R) : tb_tJ 79 4 v (s, I, J, R) = some (s, I, tb_up2 J 79 4 v, R) := pu_tJ (j := 4) (pu_m79 hM) (by decide) (by decide)
theorem pu_w5 {I : Nat → Nat → Int32} {J : Nat → Nat → Int64} {v : Int64} (hM : pu_M s R) : tb_tJ 79 5 v (s, I, J, R) = some (s, I, tb_up2 J 79 5 v, R) := pu_tJ (j := 5) (pu_m79 hM) (by decide) (by decide)
theorem pu_w6 {I : Nat → Nat → Int32} {J : Nat → Nat → Int64} {v : Int64} (hM : pu_M s R) : tb_tJ 79 6 v (s, I, J, R) = some (s, I, tb_up2 J 79 6 v, R) := pu_tJ (j := 6) (pu_m79 hM) (by decide) (by decide)
theorem pu_w7 {I : Nat → Nat → Int32} {J : Nat → Nat → Int64} {v : Int64} (hM : pu_M s R) : tb_tJ 79 7 v (s, I, J, R) = some (s, I, tb_up2 J 79 7 v, R) := pu_tJ (j := 7) (pu_m79 hM) (by decide) (by decide)
theorem pu_w8 {I : Nat → Nat → Int32} {J : Nat → Nat → Int64} {v : Int64} (hM : pu_M s R) : tb_tJ 79 8 v (s, I, J, R) = some (s, I, tb_up2 J 79 8 v, R) := pu_tJ (j := 8) (pu_m79 hM) (by decide) (by decide)
theorem pu_w9 {I : Nat → Nat → Int32} {J : Nat → Nat → Int64} {v : Int64} (hM : pu_M s R) : tb_tJ 79 9 v (s, I, J, R) = some (s, I, tb_up2 J 79 9 v, R) := pu_tJ (j := 9) (pu_m79 hM) (by decide) (by decide)
theorem pu_w10 {I : Nat → Nat → Int32} {J : Nat → Nat → Int64} {v : Int64} (hM : pu_M s R) : tb_tJ 79 10 v (s, I, J, R) = some (s, I, tb_up2 J 79 10 v, R) := pu_tJ (j := 10) (pu_m79 hM) (by decide) (by decide)
theorem pu_w11 {I : Nat → Nat → Int32} {J : Nat → Nat → Int64} {v : Int64} (hM : pu_M s R) : tb_tJ 79 11 v (s, I, J, R) = some (s, I, tb_up2 J 79 11 v, R) := pu_tJ (j := 11) (pu_m79 hM) (by decide) (by decide)
theorem pu_m_isKept {I : Nat → Nat → Int32} {J : Nat → Nat → Int64} {A : pu_A} (hM : pu_M s R) (q : pu_Q (I 80) A) (wf : pu_wf A) {ru : pu_Ru} (hF : pu_FM I (some ru)) {l : Nat} (hu : A.2 0 l = true) :
    ∃ I' J', fb_m_isKept 70 (nI l) (s, I, J, R) = some (pu_b (pu_kp (some ru) A l), (s, I', J', R)) ∧ pu_Pf I I' J J' ∧ I' 80 = I 80 := by
  have hl := wf.2.2.2.2.2.2.1 l hu
  obtain ⟨g1, g2, g3⟩ := wf.2.2.2.2.2.1 l hl
  have h5 := wf.1
  have h8 := wf.2.2.1
  obtain ⟨r, f1, f2, f3, f4, f5, f6⟩ := hF
  unfold fb_m_isKept
  simp only [pu_gN (pu_m70 hM), pu_r19 hM, pu_r20 hM, Option.bind_some, pu_on (pu_m70 hM), pu_m_oddOf hM q wf hl, pu_m_evenOf hM q wf hl, pu_m_pullOf hM q wf hl, hu, ↓reduceIte, pu_L12, pu_L22, pu_cell hM (show 12 + A.1 3 l < 149 by omega), pu_cell hM (show 12 + A.1 4 l < 149 by omega), pu_cell hM (show 22 + A.1 3 l < 149 by omega), pu_cell hM (show 22 + A.1 4 l < 149 by omega), (q.2.1 (A.1 3 l) (by omega)).1, (q.2.1 (A.1 4 l) (by omega)).1, (q.2.1 (A.1 3 l) (by omega)).2, (q.2.1 (A.1 4 l) (by omega)).2, pu_m_linesUp hM q wf, pu_m_standingOnes hM q wf, pu_m_bits8, pu_m_bits, pu_cell' hM (show (2 : Int32) = nI 2 from rfl) (show 2 < 149 by omega), pu_cell' hM (show (10 : Int32) = nI 10 from rfl) (show 10 < 149 by omega), q.1.2.2.1, q.1.2.2.2.1, pu_w0 hM, pu_w1 hM, pu_w2 hM, pu_w3 hM, pu_w4 hM, pu_w5 hM, pu_w6 hM, pu_w7 hM, pu_w8 hM, pu_w9 hM, pu_w10 hM, pu_w11 hM, pu_gI (pu_m70 hM), f2]
  generalize hJ : tb_up2 (tb_up2 (tb_up2 (tb_up2 (tb_up2 (tb_up2 (tb_up2 (tb_up2 (tb_up2 (tb_up2 (tb_up2 (tb_up2 J 79 0 (nI l).toInt64) 79 1 (nI (A.1 3 l)).toInt64) 79 2 (nI (A.1 4 l)).toInt64) 79 3 (nI (A.1 5 l)).toInt64) 79 4 (nI (A.1 1 (A.1 3 l))).toInt64) 79 5 (nI (A.1 1 (A.1 4 l))).toInt64) 79 6 (nI (A.1 2 (A.1 3 l))).toInt64) 79 7 (nI (A.1 2 (A.1 4 l))).toInt64) 79 8 (nI (pu_ct (A.2 0) 8)).toInt64) 79 9 (nI (pu_ct (A.2 1) 10)).toInt64) 79 10 (nI (A.1 0 1)).toInt64) 79 11 (nI (A.1 0 2)).toInt64 = J2
  have hw : ∀ k, k < 12 → J2 79 k = pu_wd A l k := by
    intro k hk
    rw [← hJ]
    have : k = 0 ∨ k = 1 ∨ k = 2 ∨ k = 3 ∨ k = 4 ∨ k = 5 ∨ k = 6 ∨ k = 7 ∨ k = 8 ∨ k = 9 ∨ k = 10 ∨ k = 11 := by omega
    rcases this with e | e | e | e | e | e | e | e | e | e | e | e <;> subst e <;> simp (disch := omega) only [pu_u2s, pu_u2k] <;> rfl
  have hj : ∀ z, z ≠ 79 → J2 z = J z := by
    intro z hz
    rw [← hJ]
    simp (disch := assumption) only [pu_u2p]
  obtain ⟨I', J', a1, a2⟩ := pu_m_summedBy (I := I) (J := J2) hM f1 f3 f4 f5 f6 hw
  refine ⟨I', J', ?_, ⟨fun z h1 _ => a2.1 z h1, a2.2.1, fun k _ => congrFun (a2.1 80 (by decide)) k, fun z h1 h2 => (a2.2.2 z h1).trans (hj z h2)⟩, a2.1 80 (by decide)⟩
  simp only [a1, Option.bind_some, lg_cmp_gt]
  show _ = some (pu_b (decide (0 < pu_rho (pu_wd A l) ru)), _)
  by_cases h : 0 < pu_rho (pu_wd A l) ru
  · simp only [h, ↓reduceIte, decide_true, pu_bt]
  · simp only [h, ↓reduceIte, decide_false, pu_bf]
theorem pu_m_letGo_l {A : pu_A} (hM : pu_M s R) (wf : pu_wf A) {ru : pu_Ru} : ∀ d i n I J, i + d = A.1 0 3 → d < n → pu_Q (I 80) A → pu_FM I (some ru) →
    ∃ I' J', fl_m_letGo_4 n 70 (pu_mk (fun l => A.2 0 l && !pu_kp (some ru) A l) i) (nI i) (s, I, J, R) = some (pu_mk (fun l => A.2 0 l && !pu_kp (some ru) A l) (A.1 0 3), (s, I', J', R)) ∧ pu_Pf I I' J J' ∧ I' 80 = I 80 := by
  intro d
  have h5 := wf.2.2.1
  induction d with
  | zero =>
    intro i n I J hi hn q hF
    obtain ⟨n, rfl⟩ : ∃ z, n = z + 1 := ⟨n - 1, by omega⟩
    unfold fl_m_letGo_4
    simp only [pu_gN (pu_m70 hM), pu_r20 hM, Option.bind_some, pu_cell' hM (show (11 : Int32) = nI 11 from rfl) (show 11 < 149 by omega), q.1.2.2.2.2, pu_ltI (show i < 2147483648 by omega) (show A.1 0 3 < 2147483648 by omega), show ¬ i < A.1 0 3 by omega, ↓reduceIte]
    rw [show i = A.1 0 3 by omega]
    exact ⟨I, J, rfl, pu_Pf.rf, rfl⟩
  | succ d ih =>
    intro i n I J hi hn q hF
    obtain ⟨n, rfl⟩ : ∃ z, n = z + 1 := ⟨n - 1, by omega⟩
    have hil : i < A.1 0 3 := by omega
    obtain ⟨r, f1, f2, f3⟩ := hF
    unfold fl_m_letGo_4
    simp only [pu_gN (pu_m70 hM), pu_r20 hM, Option.bind_some, pu_cell' hM (show (11 : Int32) = nI 11 from rfl) (show 11 < 149 by omega), q.1.2.2.2.2, pu_ltI (show i < 2147483648 by omega) (show A.1 0 3 < 2147483648 by omega), hil, ↓reduceIte, pu_gI (pu_m70 hM), f2, pu_lt0 (show r < 2147483648 by omega), pu_on (pu_m70 hM), pu_m_isUp hM q wf (show i < 2147483648 by omega), pu_b0]
    rw [← nI_succ]
    cases hu : A.2 0 i
    · simp only [↓reduceIte]
      have e : pu_mk (fun l => A.2 0 l && !pu_kp (some ru) A l) i ||| 0 = pu_mk (fun l => A.2 0 l && !pu_kp (some ru) A l) (i + 1) := by
        rw [pu_mk_s]
        simp only [hu, Bool.false_and, Bool.false_eq_true, ↓reduceIte]
      rw [e]
      exact ih (i + 1) n I J (by omega) (by omega) q ⟨r, f1, f2, f3⟩
    · obtain ⟨I1, J1, a1, a2, a3⟩ := pu_m_isKept (J := J) hM q wf ⟨r, f1, f2, f3⟩ hu
      simp only [Bool.true_eq_false, ↓reduceIte, a1, Option.bind_some, pu_on (pu_m70 hM), pu_b0]
      have q1 : pu_Q (I1 80) A := by rw [a3]; exact q
      obtain ⟨I', J', b1, b2, b3⟩ := ih (i + 1) n I1 J1 (by omega) (by omega) q1 (pu_FM_eq a2 ⟨r, f1, f2, f3⟩)
      refine ⟨I', J', ?_, a2.tr b2, b3.trans a3⟩
      rw [pu_mk_s] at b1
      simp only [hu, Bool.true_and] at b1
      cases hk : pu_kp (some ru) A i
      · simp only [hk, Bool.not_false, ↓reduceIte] at b1 ⊢
        exact b1
      · simp only [hk, Bool.not_true, Bool.false_eq_true, Bool.true_eq_false, ↓reduceIte] at b1 ⊢
        exact b1
theorem pu_m_letGo {I : Nat → Nat → Int32} {J : Nat → Nat → Int64} {A : pu_A} (hM : pu_M s R) (q : pu_Q (I 80) A) (wf : pu_wf A) {ro : Option pu_Ru} (hF : pu_FM I ro) :
    ∃ I' J', fb_m_letGo 70 (s, I, J, R) = some (pu_mk (fun l => A.2 0 l && !pu_kp ro A l) 8, (s, I', J', R)) ∧ pu_Pf I I' J J' ∧ I' 80 = I 80 := by
  have h5 := wf.2.2.1
  cases ro with
  | none =>
    have e : pu_mk (fun l => A.2 0 l && !pu_kp none A l) 8 = 0 := by
      rw [pu_mk0 (by omega)]
      intro k _
      show (A.2 0 k && !true) = false
      simp
    rw [e]
    refine ⟨I, J, ?_, pu_Pf.rf, rfl⟩
    have hF : I 70 21 = -1 := hF
    unfold fb_m_letGo
    rw [show (1048576 : Nat) = 1048575 + 1 from rfl]
    unfold fl_m_letGo_4
    simp only [pu_gN (pu_m70 hM), pu_r20 hM, Option.bind_some, pu_cell' hM (show (11 : Int32) = nI 11 from rfl) (show 11 < 149 by omega), q.1.2.2.2.2, pu_gI (pu_m70 hM), hF, show ((-1 : Int32) < 0) by decide, ↓reduceIte, ite_self]
  | some ru =>
    obtain ⟨I', J', a1, a2, a3⟩ := pu_m_letGo_l hM wf (A.1 0 3) 0 1048576 I J (by omega) (by omega) q hF
    refine ⟨I', J', ?_, a2, a3⟩
    rw [show pu_mk (fun l => A.2 0 l && !pu_kp (some ru) A l) 0 = 0 from rfl, show nI 0 = 0 from rfl] at a1
    unfold fb_m_letGo
    rw [a1, pu_mk_more 8 h5 (fun k h1 _ => by rw [pu_noup wf (by omega)]; rfl)]
    rfl
theorem pu_Q_y {I : Nat → Nat → Int32} {A : pu_A} (q : pu_Q (I 80) A) (wf : pu_wf A) (y : Nat) : pu_Q ((tb_up2 I 80 10 (nI y)) 80) (pu_n A 0 2 y) := by
  have h5 := wf.1
  have h8 := wf.2.2.1
  obtain ⟨⟨a0, a1, a2, a3, a4⟩, b, c, d⟩ := q
  refine ⟨⟨?_, ?_, ?_, ?_, ?_⟩, ?_, ?_, ?_⟩
  · simp (disch := omega) only [pu_u2k]; exact a0
  · simp (disch := omega) only [pu_u2k]; exact a1
  · simp (disch := omega) only [pu_u2k]; exact a2
  · rw [pu_u2s]
    show nI y = nI (tb_up2 A.1 0 2 y 0 2)
    rw [pu_u2s]
  · simp (disch := omega) only [pu_u2k]; exact a4
  · intro h hh
    simp (disch := omega) only [pu_u2k]; exact b h hh
  · intro h hh
    simp (disch := omega) only [pu_u2k]; exact c h hh
  · intro k hk
    simp (disch := omega) only [pu_u2k]; exact d k hk
theorem pu_m_passes {I : Nat → Nat → Int32} {J : Nat → Nat → Int64} {A : pu_A} (hM : pu_M s R) (q : pu_Q (I 80) A) (wf : pu_wf A) {ro : Option pu_Ru} (hF : pu_FM I ro) :
    ∃ I' J', fb_m_passes 70 (s, I, J, R) = some (pu_mk (pu_fallen A (pu_year ro A)) 10, (s, I', J', R)) ∧ pu_Q (I' 80) (pu_year ro A) ∧ pu_Pf I I' J J' := by
  obtain ⟨I1, J1, a1, a2, a3⟩ := pu_m_letGo (J := J) hM q wf hF
  have q1 : pu_Q (I1 80) A := by rw [a3]; exact q
  obtain ⟨I2, b1, b2, b3⟩ := pu_m_downsAll (J := J1) hM q1 wf (fun l => A.2 0 l && !pu_kp ro A l)
  have eg : pu_t2 A (fun l => A.2 0 l && !(A.2 0 l && !pu_kp ro A l)) (A.2 1) = pu_go ro A := by
    unfold pu_go
    have : (fun l => A.2 0 l && !(A.2 0 l && !pu_kp ro A l)) = (fun l => A.2 0 l && pu_kp ro A l) := by
      funext l
      cases A.2 0 l <;> cases pu_kp ro A l <;> rfl
    rw [this]
  rw [eg] at b2
  obtain ⟨I3, c1, c2, c3⟩ := pu_m_fade (J := J1) hM b2 (pu_go_wf wf)
  have wf3 : pu_wf (pu_fade (pu_go ro A)) := pu_fd_wf (pu_go_wf wf) _
  obtain ⟨I4, d1, d2, d3⟩ := pu_m_givesWay (J := J1) hM c2 wf3
  have wf4 := pu_gw_wf 11 wf3
  have ey : I4 80 10 = nI (A.1 0 2) := by
    have := d2.1.2.2.2.1
    rw [this, pu_gw_1]
    rfl
  have q5 := pu_Q_y d2 wf4 (A.1 0 2 + 1)
  refine ⟨_, _, ?_, q5, ((a2.tr (pu_Pf.mf b3)).tr ((pu_Pf.mf c3).tr (pu_Pf.mf d3))).tr (pu_Pf.mf (pu_Mf.u2 (k := 10) (by omega) (by omega)))⟩
  unfold fb_m_passes
  simp only [pu_on (pu_m70 hM), a1, Option.bind_some, b1, c1, d1, pu_gN (pu_m70 hM), pu_r20 hM, pu_cell' hM (show (10 : Int32) = nI 10 from rfl) (show 10 < 149 by omega), ey, pu_R1, pu_put' hM (show (10 : Int32) = nI 10 from rfl) (show 10 < 149 by omega)]
  rfl
end PUI
