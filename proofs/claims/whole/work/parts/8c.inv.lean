/-! ===== What holds between calls ===== -/
def pu_bd (A : pu_A) : Prop := (∀ k, A.1 1 k ≤ 60 ∧ A.1 2 k ≤ 60 ∧ A.1 5 k ≤ 60) ∧ A.1 0 2 ≤ 999
def pu_Go (A : pu_A) : Prop := pu_wf A ∧ pu_we A ∧ pu_bd A
/-- notes of the class at p, of the reference in the row f -/
def pu_Ng (I : Nat → Nat → Int32) (p : Nat) (f : Nat → Int32) (A : pu_A) (nn : Nat) : Prop := I p 0 = nI nn ∧ f 148 = nI nn ∧ nn ≤ 10 ∧ ∀ i, i < nn → ∃ n h t, n ≤ 60 ∧ h < 2 * A.1 0 0 ∧ t ≤ 1 ∧ (I (p + 1) i = nI n ∧ I (p + 2) i = nI h ∧ I (p + 3) i = nI t) ∧ f (118 + 3 * i) = nI n ∧ f (118 + 3 * i + 1) = nI h ∧ f (118 + 3 * i + 2) = nI t
theorem pu_Ng_NT {I : Nat → Nat → Int32} {A : pu_A} {nn : Nat} : pu_Ng I 33 (I 80) A nn ↔ pu_NT I A nn := Iff.rfl
/-- a Scene of the class at p tells what a row of the reference does: A now, T as it was told -/
def pu_Sc (I : Nat → Nat → Int32) (p : Nat) (f : Nat → Int32) (A T : pu_A) (nn : Nat) : Prop :=
  (pu_Go A ∧ pu_Go T ∧ A.1 0 0 = T.1 0 0 ∧ A.1 0 1 = T.1 0 1) ∧ (pu_V I (p + 1) A ∧ pu_V I (p + 8) T) ∧ (pu_Q f A ∧ pu_TM f T) ∧ pu_Ng I (p + 15) f A nn
/-- the shapes of a Scene at p -/
def pu_SR (s : List (Nat × Nat)) (R : Nat → Nat → Option Nat) (p : Nat) : Prop :=
  (s[p]? = some (15, 5) ∧ R p 0 = some (p + 1) ∧ R p 1 = some (p + 8) ∧ R p 2 = some (p + 15)) ∧ (pu_St s R (p + 1) ∧ pu_St s R (p + 8)) ∧
  (s[p + 15]? = some (12, 4) ∧ s[p + 16]? = some (1, 10) ∧ s[p + 17]? = some (1, 10) ∧ s[p + 18]? = some (1, 10)) ∧ (R (p + 15) 1 = some (p + 16) ∧ R (p + 15) 2 = some (p + 17) ∧ R (p + 15) 3 = some (p + 18))
def pu_IM1 (s : List (Nat × Nat)) (I : Nat → Nat → Int32) (R : Nat → Nat → Option Nat) (own : Nat → Nat) (rc k : Nat) : Prop :=
  (R 37 k = none ∧ I 91 k = 0) ∨ (∃ p A T nn, (R 37 k = some p ∧ I 91 k = 1 ∧ 92 ≤ p ∧ pu_SR s R p ∧ pu_Ow own p 19 (100 + k)) ∧ pu_Sc I p (fun i => I 88 (149 * k + i)) A T nn ∧ (I p 3 = I 89 k ∧ pu_ir rc (I p 3) = true) ∧ (I p 4 = I 90 k ∧ ¬ I p 4 < 0))
def pu_RU (s : List (Nat × Nat)) (I : Nat → Nat → Int32) (R : Nat → Nat → Option Nat) (own : Nat → Nat) (rs : List pu_Ru) : Prop :=
  (rs.length ≤ 6 ∧ I 1 4 = nI rs.length ∧ I 70 2 = nI rs.length) ∧ ∀ r ru, rs[r]? = some ru → ∃ c0, R 17 r = some c0 ∧ own c0 = 200 + r ∧ pu_FC s I (some c0) (some ru) ∧ ru.length ≤ 12 ∧ I 75 r = nI ru.length ∧ pu_RM (I 72) (I 74) r 0 ru
/-- what is kept of a past state -/
def pu_PP (A : pu_A) (B : pu_A) : Prop := pu_Go B ∧ B.1 0 0 = A.1 0 0 ∧ B.1 0 1 = A.1 0 1
/-- the room that is taken: what can still be made counts with it -/
def pu_RO (s : List (Nat × Nat)) (R : Nat → Nat → Option Nat) (rc : Nat) : Prop :=
  s.length + 7 * pu_ct (fun k => (R 39 k).isNone) 20 + 19 * pu_ct (fun k => (R 37 k).isNone) 4 + (6 - rc) ≤ 400 ∧ (s.map Prod.snd).sum + 70 * pu_ct (fun k => (R 39 k).isNone) 20 + 200 * pu_ct (fun k => (R 37 k).isNone) 4 + 400 * (6 - rc) ≤ 30000
def pu_In (s : List (Nat × Nat)) (I : Nat → Nat → Int32) (R : Nat → Nat → Option Nat) (own : Nat → Nat) (A T : pu_A) (nn : Nat) (L : List pu_A) (j tl : Nat) (rs : List pu_Ru) : Prop :=
  (pu_X s R ∧ pu_M s R ∧ pu_RO s R rs.length) ∧ pu_Sc I 18 (I 80) A T nn ∧ (pu_RG s I R own L j ∧ I 70 24 = nI L.length ∧ pu_UM (pu_PP A) (I 81) L) ∧ pu_TP I tl ∧ pu_RU s I R own rs ∧
  ((I 18 3 = I 70 21 ∧ pu_ir rs.length (I 18 3) = true) ∧ (I 18 4 = I 70 22 ∧ ¬ I 18 4 < 0)) ∧ (∀ k, k < 4 → pu_IM1 s I R own rs.length k)
/-- what questions leave as it is -/
def pu_Ek (I I' : Nat → Nat → Int32) : Prop := (∀ q, q ≠ 25 → q ≠ 40 → (q < 43 ∨ (71 ≤ q ∧ q < 82) ∨ 88 ≤ q) → I' q = I q) ∧ (∀ k, k ≠ 18 → I' 70 k = I 70 k)
theorem pu_Ek.rf {I : Nat → Nat → Int32} : pu_Ek I I := ⟨fun _ _ _ _ => rfl, fun _ _ => rfl⟩
theorem pu_Ek.tr {I I' I2 : Nat → Nat → Int32} (a : pu_Ek I I') (b : pu_Ek I' I2) : pu_Ek I I2 := ⟨fun q h1 h2 h3 => (b.1 q h1 h2 h3).trans (a.1 q h1 h2 h3), fun k h => (b.2 k h).trans (a.2 k h)⟩
theorem pu_Ek.cf {I I' : Nat → Nat → Int32} {J J' : Nat → Nat → Int64} (a : pu_Cf I I' J J') : pu_Ek I I' := ⟨fun q h1 h2 h3 => a.1 q h1 h2 (by omega), fun k _ => congrFun (a.1 70 (by decide) (by decide) (by omega)) k⟩
theorem pu_Ek.zf {I I' : Nat → Nat → Int32} {J J' : Nat → Nat → Int64} (a : pu_Zf I I' J J') : pu_Ek I I' := ⟨fun q h1 h2 h3 => a.1 q (by omega) (by omega), a.2.1⟩
theorem pu_Ng_eq {I I' : Nat → Nat → Int32} {p : Nat} {f f' : Nat → Int32} {A A' : pu_A} {nn : Nat} (e : ∀ i, i < 4 → I' (p + i) = I (p + i)) (ef : ∀ i, 118 ≤ i → i < 149 → f' i = f i) (hA : A'.1 0 0 = A.1 0 0) (h : pu_Ng I p f A nn) : pu_Ng I' p f' A' nn := by
  obtain ⟨h1, h2, h3, h4⟩ := h
  have e0 := e 0 (by omega)
  rw [Nat.add_zero] at e0
  refine ⟨by rw [e0]; exact h1, by rw [ef 148 (by omega) (by omega)]; exact h2, h3, fun i hi => ?_⟩
  obtain ⟨n, h, t, a1, a2, a3, a4, a5, a6, a7⟩ := h4 i hi
  refine ⟨n, h, t, a1, by rw [hA]; exact a2, a3, ?_, ?_, ?_, ?_⟩
  · rw [e 1 (by omega), e 2 (by omega), e 3 (by omega)]; exact a4
  · rw [ef _ (by omega) (by omega)]; exact a5
  · rw [ef _ (by omega) (by omega)]; exact a6
  · rw [ef _ (by omega) (by omega)]; exact a7
theorem pu_Sc_eq {I I' : Nat → Nat → Int32} {p : Nat} {f f' : Nat → Int32} {A T : pu_A} {nn : Nat} (e : ∀ i, i < 19 → i ≠ 0 → i ≠ 7 → i ≠ 14 → I' (p + i) = I (p + i)) (ef : f' = f) (h : pu_Sc I p f A T nn) : pu_Sc I' p f' A T nn := by
  obtain ⟨h1, ⟨h2, h3⟩, h4, h5⟩ := h
  subst ef
  refine ⟨h1, ⟨pu_V_eq (fun i hi => ?_) h2, pu_V_eq (fun i hi => ?_) h3⟩, h4, pu_Ng_eq (fun i hi => ?_) (fun _ _ _ => rfl) rfl h5⟩
  · have := e (1 + i) (by omega) (by omega) (by omega) (by omega); rw [← Nat.add_assoc] at this; exact this
  · have := e (8 + i) (by omega) (by omega) (by omega) (by omega); rw [← Nat.add_assoc] at this; exact this
  · have := e (15 + i) (by omega) (by omega) (by omega) (by omega); rw [← Nat.add_assoc] at this; exact this
theorem pu_RU_eq {s : List (Nat × Nat)} {I I' : Nat → Nat → Int32} {R : Nat → Nat → Option Nat} {own : Nat → Nat} {rs : List pu_Ru} (e : ∀ q, 92 ≤ q → I' q = I q) (e1 : I' 1 4 = I 1 4) (e2 : I' 70 2 = I 70 2) (e3 : I' 72 = I 72) (e4 : I' 74 = I 74) (e5 : I' 75 = I 75) (h : pu_RU s I R own rs) : pu_RU s I' R own rs := by
  obtain ⟨⟨h1, h2, h3⟩, h4⟩ := h
  refine ⟨⟨h1, by rw [e1]; exact h2, by rw [e2]; exact h3⟩, fun r ru hr => ?_⟩
  obtain ⟨c0, a1, a2, a3, a4, a5, a6⟩ := h4 r ru hr
  exact ⟨c0, a1, a2, pu_FC_eq e a3, a4, by rw [e5]; exact a5, by rw [e3, e4]; exact a6⟩
theorem pu_IM1_eq {s : List (Nat × Nat)} {I I' : Nat → Nat → Int32} {R : Nat → Nat → Option Nat} {own : Nat → Nat} {rc k : Nat} (e : ∀ q, 88 ≤ q → I' q = I q) (h : pu_IM1 s I R own rc k) : pu_IM1 s I' R own rc k := by
  rcases h with ⟨h1, h2⟩ | ⟨p, A, T, nn, ⟨a1, a2, a3, a4, a5⟩, b, ⟨c1, c2⟩, ⟨d1, d2⟩⟩
  · exact Or.inl ⟨h1, by rw [e 91 (by omega)]; exact h2⟩
  · refine Or.inr ⟨p, A, T, nn, ⟨a1, by rw [e 91 (by omega)]; exact a2, a3, a4, a5⟩, pu_Sc_eq (fun i _ _ _ _ => e _ (by omega)) (by rw [e 88 (by omega)]) b, ⟨?_, ?_⟩, ⟨?_, ?_⟩⟩
    · rw [e p (by omega), e 89 (by omega)]; exact c1
    · rw [e p (by omega)]; exact c2
    · rw [e p (by omega), e 90 (by omega)]; exact d1
    · rw [e p (by omega)]; exact d2
theorem pu_TP_eq {I I' : Nat → Nat → Int32} {tl : Nat} (e1 : I' 2 0 = I 2 0) (e2 : I' 70 1 = I 70 1) (e3 : I' 3 = I 3) (e4 : I' 71 = I 71) (h : pu_TP I tl) : pu_TP I' tl := by
  obtain ⟨h1, h2, h3, h4⟩ := h
  exact ⟨by rw [e1]; exact h1, by rw [e2]; exact h2, h3, by rw [e3, e4]; exact h4⟩
theorem pu_RG_eq {s : List (Nat × Nat)} {I I' : Nat → Nat → Int32} {R : Nat → Nat → Option Nat} {own : Nat → Nat} {L : List pu_A} {j : Nat} (e : ∀ q, 92 ≤ q → I' q = I q) (e1 : I' 38 = I 38) (h : pu_RG s I R own L j) : pu_RG s I' R own L j := h.kp (P := fun _ => True) (pu_Kp.lo e) (fun _ _ => trivial) (by rw [e1]) (by rw [e1]) rfl
theorem pu_In.ek {s : List (Nat × Nat)} {I I' : Nat → Nat → Int32} {R : Nat → Nat → Option Nat} {own : Nat → Nat} {A T : pu_A} {nn : Nat} {L : List pu_A} {j tl : Nat} {rs : List pu_Ru} (f : pu_Ek I I') (h : pu_In s I R own A T nn L j tl rs) : pu_In s I' R own A T nn L j tl rs := by
  obtain ⟨h1, h2, ⟨h3, h4, h5⟩, h6, h7, ⟨⟨h8, h9⟩, ⟨h10, h11⟩⟩, h12⟩ := h
  have e : ∀ q, 88 ≤ q → I' q = I q := fun q hq => f.1 q (by omega) (by omega) (by omega)
  have e18 : I' 18 = I 18 := f.1 18 (by omega) (by omega) (by omega)
  refine ⟨h1, pu_Sc_eq (fun i h1 h2 h3 h4 => f.1 _ (by omega) (by omega) (by omega)) (f.1 80 (by omega) (by omega) (by omega)) h2, ⟨pu_RG_eq (fun q hq => e q (by omega)) (f.1 38 (by omega) (by omega) (by omega)) h3, by rw [f.2 24 (by omega)]; exact h4, by rw [f.1 81 (by omega) (by omega) (by omega)]; exact h5⟩, pu_TP_eq (by rw [f.1 2 (by omega) (by omega) (by omega)]) (f.2 1 (by omega)) (f.1 3 (by omega) (by omega) (by omega)) (f.1 71 (by omega) (by omega) (by omega)) h6, pu_RU_eq (fun q hq => e q (by omega)) (by rw [f.1 1 (by omega) (by omega) (by omega)]) (f.2 2 (by omega)) (f.1 72 (by omega) (by omega) (by omega)) (f.1 74 (by omega) (by omega) (by omega)) (f.1 75 (by omega) (by omega) (by omega)) h7, ⟨⟨?_, ?_⟩, ⟨?_, ?_⟩⟩, fun k hk => pu_IM1_eq e (h12 k hk)⟩
  · rw [e18, f.2 21 (by omega)]; exact h8
  · rw [e18]; exact h9
  · rw [e18, f.2 22 (by omega)]; exact h10
  · rw [e18]; exact h11
/-- the rule in force, on both sides -/
theorem pu_In.ro {s : List (Nat × Nat)} {I : Nat → Nat → Int32} {R : Nat → Nat → Option Nat} {own : Nat → Nat} {A T : pu_A} {nn : Nat} {L : List pu_A} {j tl : Nat} {rs : List pu_Ru} (h : pu_In s I R own A T nn L j tl rs) : ∃ ro, pu_FX s I R ro ∧ pu_FM I ro := by
  obtain ⟨h1, h2, _, h6, ⟨⟨r1, _, _⟩, h7⟩, ⟨⟨h8, h9⟩, _⟩, h12⟩ := h
  unfold pu_ir at h9
  by_cases ha : I 18 3 = -1
  · exact ⟨none, ha, h8.symm.trans ha⟩
  · rw [decide_eq_false ha, Bool.false_or, Bool.and_eq_true, Bool.not_eq_true', decide_eq_false_iff_not, decide_eq_true_eq] at h9
    obtain ⟨r, hr, er⟩ := nI_of h9.1
    rw [er, pu_ltI (by omega) (by omega)] at h9
    obtain ⟨c0, a1, a2, a3, a4, a5, a6⟩ := h7 r rs[r] (List.getElem?_eq_getElem h9.2)
    exact ⟨some rs[r], ⟨r, c0, by omega, er, a1, a3⟩, ⟨r, by omega, by rw [← h8]; exact er, a4, a5, a6, a3.2.2.2.2⟩⟩
