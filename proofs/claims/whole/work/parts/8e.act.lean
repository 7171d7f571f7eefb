/-! ===== Acts: what else stays, when the past has taken a state ===== -/
theorem pu_RU.kp {P : Nat → Prop} {s s' : List (Nat × Nat)} {I I' : Nat → Nat → Int32} {R R' : Nat → Nat → Option Nat} {own own' : Nat → Nat} {rs : List pu_Ru} (h : pu_RU s I R own rs) (a : pu_Kp P s s' I I' R R' own own') (hP : ∀ r, r < 6 → P (200 + r)) (e0 : R' 17 = R 17) (e1 : I' 1 4 = I 1 4) (e2 : I' 70 2 = I 70 2) (e3 : I' 72 = I 72) (e4 : I' 74 = I 74) (e5 : I' 75 = I 75) : pu_RU s' I' R' own' rs := by
  obtain ⟨⟨h1, h2, h3⟩, h4⟩ := h
  refine ⟨⟨h1, by rw [e1]; exact h2, by rw [e2]; exact h3⟩, fun r ru hr => ?_⟩
  obtain ⟨c0, a1, a2, ⟨b1, b2, b3, b4, b5⟩, a4, a5, a6⟩ := h4 r ru hr
  have hl : r < rs.length := (List.getElem?_eq_some_iff.mp hr).1
  obtain ⟨k1, k2⟩ := a.2 c0 b1 (pu_slt b2)
  exact ⟨c0, by rw [e0]; exact a1, k1.trans a2, ⟨b1, a.1 _ _ b2, b3, by rw [(k2 (by rw [a2]; exact hP r (by omega))).1]; exact b4, b5⟩, a4, by rw [e5]; exact a5, by rw [e3, e4]; exact a6⟩
theorem pu_SR.kp {P : Nat → Prop} {s s' : List (Nat × Nat)} {I I' : Nat → Nat → Int32} {R R' : Nat → Nat → Option Nat} {own own' : Nat → Nat} {p x : Nat} (h : pu_SR s R p) (a : pu_Kp P s s' I I' R R' own own') (h92 : 92 ≤ p) (ho : pu_Ow own p 19 x) (hP : P x) : pu_SR s' R' p ∧ pu_Ow own' p 19 x ∧ (∀ i, i < 19 → I' (p + i) = I (p + i)) := by
  obtain ⟨⟨h1, h2, h3, h4⟩, ⟨h5, h6⟩, ⟨h7, h8, h9, h10⟩, ⟨h11, h12, h13⟩⟩ := h
  have hl : p + 18 < s.length := pu_slt h10
  have k : ∀ i, i < 19 → own' (p + i) = own (p + i) ∧ I' (p + i) = I (p + i) ∧ R' (p + i) = R (p + i) := fun i hi => by
    obtain ⟨k1, k2⟩ := a.2 (p + i) (by omega) (by omega)
    obtain ⟨k3, k4⟩ := k2 (by rw [ho i hi]; exact hP)
    exact ⟨k1, k3, k4⟩
  have r0 : R' p = R p := (k 0 (by omega)).2.2
  have o1 : pu_Ow own (p + 1) 7 x := fun i hi => by rw [Nat.add_assoc]; exact ho _ (by omega)
  have o8 : pu_Ow own (p + 8) 7 x := fun i hi => by rw [Nat.add_assoc]; exact ho _ (by omega)
  refine ⟨⟨⟨a.1 _ _ h1, by rw [r0]; exact h2, by rw [r0]; exact h3, by rw [r0]; exact h4⟩, ⟨(a.st (by omega) h5 o1 hP).1, (a.st (by omega) h6 o8 hP).1⟩, ⟨a.1 _ _ h7, a.1 _ _ h8, a.1 _ _ h9, a.1 _ _ h10⟩, ?_⟩, fun i hi => (k i hi).1.trans (ho i hi), fun i hi => (k i hi).2.1⟩
  rw [(k 15 (by omega)).2.2]
  exact ⟨h11, h12, h13⟩
theorem pu_TM_eq {f g : Nat → Int32} {T : pu_A} (wf : pu_wf T) (e : ∀ k, k < 10 ∨ (74 ≤ k ∧ k < 118) → g k = f k) (h : pu_TM f T) : pu_TM g T := by
  have h8 := wf.2.2.1
  obtain ⟨⟨t0, t1, t2, t3, ty⟩, tb, tl, tu⟩ := h
  refine ⟨⟨by rw [e 0 (by omega)]; exact t0, by rw [e 1 (by omega)]; exact t1, by rw [e 2 (by omega)]; exact t2, by rw [e 3 (by omega)]; exact t3, ty⟩, fun h hh => ?_, fun l hl => ?_, tu⟩
  · rw [e (74 + h) (by omega), e (84 + h) (by omega)]; exact tb h hh
  · rw [e (94 + 3 * l) (by omega), e (94 + 3 * l + 1) (by omega), e (94 + 3 * l + 2) (by omega)]; exact tl l hl
theorem pu_IM1.kp {P : Nat → Prop} {s s' : List (Nat × Nat)} {I I' : Nat → Nat → Int32} {R R' : Nat → Nat → Option Nat} {own own' : Nat → Nat} {rc k : Nat} (h : pu_IM1 s I R own rc k) (a : pu_Kp P s s' I I' R R' own own') (hP : P (100 + k)) (e0 : R' 37 k = R 37 k) (e1 : ∀ i, i < 149 → I' 88 (149 * k + i) = I 88 (149 * k + i)) (e2 : I' 89 k = I 89 k) (e3 : I' 90 k = I 90 k) (e4 : I' 91 k = I 91 k) : pu_IM1 s' I' R' own' rc k := by
  rcases h with ⟨h1, h2⟩ | ⟨p, A, T, nn, ⟨a1, a2, a3, a4, a5⟩, b, ⟨c1, c2⟩, ⟨d1, d2⟩⟩
  · exact Or.inl ⟨e0.trans h1, e4.trans h2⟩
  · obtain ⟨k1, k2, k3⟩ := a4.kp a a3 a5 hP
    have p0 : I' p = I p := k3 0 (by omega)
    obtain ⟨b1, ⟨b2, b3⟩, ⟨b4, b5⟩, b6⟩ := b
    have wfA : pu_wf A := b1.1.1
    have wfT : pu_wf T := b1.2.1.1
    refine Or.inr ⟨p, A, T, nn, ⟨e0.trans a1, e4.trans a2, a3, k1, k2⟩, ⟨b1, ⟨pu_V_eq (fun i hi => ?_) b2, pu_V_eq (fun i hi => ?_) b3⟩, ⟨?_, ?_⟩, pu_Ng_eq (fun i hi => ?_) (fun i _ hi => e1 i hi) rfl b6⟩, ⟨by rw [p0, e2]; exact c1, by rw [p0]; exact c2⟩, ⟨by rw [p0, e3]; exact d1, by rw [p0]; exact d2⟩⟩
    · rw [Nat.add_assoc]; exact k3 _ (by omega)
    · rw [Nat.add_assoc]; exact k3 _ (by omega)
    · refine pu_Q_of (by rw [e1 0 (by omega)]; exact b4.1.1) (by rw [e1 1 (by omega)]; exact b4.1.2.1) (by rw [e1 2 (by omega)]; exact b4.1.2.2.1) (pu_Qs_eq wfA (fun i h1 h2 => e1 i (by omega)) (pu_Q_s b4))
    · exact pu_TM_eq wfT (fun i hi => e1 i (by omega)) b5
    · rw [Nat.add_assoc]; exact k3 _ (by omega)
theorem pu_UM_mono {P Q : pu_A → Prop} (h : ∀ B, P B → Q B) {g : Nat → Int32} : ∀ L, pu_UM P g L → pu_UM Q g L
  | [], _ => trivial
  | _ :: L, ⟨⟨h1, h2, h3⟩, h4⟩ => ⟨⟨h1, h2, h _ h3⟩, pu_UM_mono h L h4⟩
theorem pu_PP_eq {A A' : pu_A} (e0 : A'.1 0 0 = A.1 0 0) (e1 : A'.1 0 1 = A.1 0 1) : ∀ B, pu_PP A B → pu_PP A' B := fun _ h => ⟨h.1, h.2.1.trans e0.symm, h.2.2.trans e1.symm⟩
section PUE1
variable {s s' : List (Nat × Nat)} {I I1 I2 : Nat → Nat → Int32} {R R' : Nat → Nat → Option Nat} {own own' : Nat → Nat} {A A' T : pu_A} {nn : Nat} {L L' : List pu_A} {j j' tl : Nat} {rs : List pu_Ru}
theorem pu_In.act (H : pu_In s I R own A T nn L j tl rs) {P : Nat → Prop} (hP : ∀ x, 100 ≤ x → P x) (kp : pu_Kp P s s' I I1 R R' own own') (G : pu_RG s' I1 R' own' L' j') (k1 : ∀ q, q < 92 → q ≠ 38 → q ≠ 40 → (q < 19 ∨ 26 ≤ q) → I1 q = I q) (k2 : ∀ q, q < 92 → q ≠ 39 → R' q = R q) (kro : pu_RO s' R' rs.length) (v : pu_V I1 19 A')
    (f2 : ∀ q, q ≠ 70 → q ≠ 80 → q ≠ 81 → I2 q = I1 q) (f3 : ∀ k, k ≠ 18 → k ≠ 24 → I2 70 k = I1 70 k) (f4 : ∀ k, k < 10 ∨ 74 ≤ k → I2 80 k = I1 80 k) (q : pu_Q (I2 80) A') (u1 : I2 70 24 = nI L'.length) (u2 : pu_UM (pu_PP A) (I2 81) L') (go : pu_Go A') (e0 : A'.1 0 0 = A.1 0 0) (e1 : A'.1 0 1 = A.1 0 1) : pu_In s' I2 R' own' A' T nn L' j' tl rs := by
  obtain ⟨⟨hX, hM, _⟩, ⟨⟨_, g2, g3, g4⟩, ⟨_, vt⟩, ⟨_, tm⟩, ng⟩, _, h6, h7, ⟨⟨h8, h9⟩, ⟨h10, h11⟩⟩, h12⟩ := H
  have kp2 : pu_Kp P s s' I I2 R R' own own' := ⟨kp.1, fun k h1 h2 => ⟨(kp.2 k h1 h2).1, fun h => by rw [f2 k (by omega) (by omega) (by omega)]; exact (kp.2 k h1 h2).2 h⟩⟩
  have w : ∀ q, q < 92 → q ≠ 38 → q ≠ 40 → (q < 19 ∨ 26 ≤ q) → q ≠ 70 → q ≠ 80 → q ≠ 81 → I2 q = I q := fun q h1 h2 h3 h4 h5 h6 h7 => (f2 q h5 h6 h7).trans (k1 q h1 h2 h3 h4)
  have w70 : ∀ k, k ≠ 18 → k ≠ 24 → I2 70 k = I 70 k := fun k h1 h2 => (f3 k h1 h2).trans (by rw [k1 70 (by omega) (by omega) (by omega) (by omega)])
  have w80 : ∀ k, k < 10 ∨ 74 ≤ k → I2 80 k = I 80 k := fun k h => (f4 k h).trans (by rw [k1 80 (by omega) (by omega) (by omega) (by omega)])
  have e18 : I2 18 = I 18 := w 18 (by omega) (by omega) (by omega) (by omega) (by omega) (by omega) (by omega)
  refine ⟨⟨hX.gr kp.1 (fun q h1 h2 _ _ => k2 q h1 h2), hM.gr kp.1 (k2 70 (by omega) (by omega)), kro⟩, ⟨⟨go, g2, e0.trans g3, e1.trans g4⟩, ⟨pu_V_eq (fun i hi => f2 _ (by omega) (by omega) (by omega)) v, pu_V_eq (fun i hi => w _ (by omega) (by omega) (by omega) (by omega) (by omega) (by omega) (by omega)) vt⟩, ⟨q, pu_TM_eq g2.1 (fun k hk => w80 k (by omega)) tm⟩, pu_Ng_eq (fun i hi => w _ (by omega) (by omega) (by omega) (by omega) (by omega) (by omega) (by omega)) (fun i h1 h2 => w80 i (by omega)) e0 ng⟩,
    ⟨pu_RG_eq (fun q hq => f2 q (by omega) (by omega) (by omega)) (f2 38 (by omega) (by omega) (by omega)) G, u1, pu_UM_mono (pu_PP_eq e0 e1) _ u2⟩,
    pu_TP_eq (by rw [w 2 (by omega) (by omega) (by omega) (by omega) (by omega) (by omega) (by omega)]) (w70 1 (by omega) (by omega)) (w 3 (by omega) (by omega) (by omega) (by omega) (by omega) (by omega) (by omega)) (w 71 (by omega) (by omega) (by omega) (by omega) (by omega) (by omega) (by omega)) h6,
    h7.kp kp2 (fun r _ => hP _ (by omega)) (k2 17 (by omega) (by omega)) (by rw [w 1 (by omega) (by omega) (by omega) (by omega) (by omega) (by omega) (by omega)]) (w70 2 (by omega) (by omega)) (w 72 (by omega) (by omega) (by omega) (by omega) (by omega) (by omega) (by omega)) (w 74 (by omega) (by omega) (by omega) (by omega) (by omega) (by omega) (by omega)) (w 75 (by omega) (by omega) (by omega) (by omega) (by omega) (by omega) (by omega)),
    ⟨⟨by rw [e18, w70 21 (by omega) (by omega)]; exact h8, by rw [e18]; exact h9⟩, ⟨by rw [e18, w70 22 (by omega) (by omega)]; exact h10, by rw [e18]; exact h11⟩⟩,
    fun k hk => (h12 k hk).kp kp2 (hP _ (by omega)) (by rw [k2 37 (by omega) (by omega)]) (fun i _ => by rw [w 88 (by omega) (by omega) (by omega) (by omega) (by omega) (by omega) (by omega)]) (by rw [w 89 (by omega) (by omega) (by omega) (by omega) (by omega) (by omega) (by omega)]) (by rw [w 90 (by omega) (by omega) (by omega) (by omega) (by omega) (by omega) (by omega)]) (by rw [w 91 (by omega) (by omega) (by omega) (by omega) (by omega) (by omega) (by omega)])⟩
/-- the rule in force, also where the past has taken a Street -/
theorem pu_In.ro2 (H : pu_In s I R own A T nn L j tl rs) : ∃ ro, pu_FX s I R ro ∧ pu_FM I ro ∧ (∀ (P : Nat → Prop) s' I' R' own', (∀ x, 100 ≤ x → P x) → pu_Kp P s s' I I' R R' own own' → R' 17 = R 17 → I' 18 3 = I 18 3 → pu_FX s' I' R' ro) := by
  obtain ⟨h1, h2, _, h6, ⟨⟨r1, _, _⟩, h7⟩, ⟨⟨h8, h9⟩, _⟩, h12⟩ := H
  unfold pu_ir at h9
  by_cases ha : I 18 3 = -1
  · exact ⟨none, ha, h8.symm.trans ha, fun P s' I' R' own' _ _ _ e => e.trans ha⟩
  · rw [decide_eq_false ha, Bool.false_or, Bool.and_eq_true, Bool.not_eq_true', decide_eq_false_iff_not, decide_eq_true_eq] at h9
    obtain ⟨r, hr, er⟩ := nI_of h9.1
    rw [er, pu_ltI (by omega) (by omega)] at h9
    obtain ⟨c0, a1, a2, a3, a4, a5, a6⟩ := h7 r rs[r] (List.getElem?_eq_getElem h9.2)
    refine ⟨some rs[r], ⟨r, c0, by omega, er, a1, a3⟩, ⟨r, by omega, by rw [← h8]; exact er, a4, a5, a6, a3.2.2.2.2⟩, fun P s' I' R' own' hP kp e17 e18 => ⟨r, c0, by omega, e18.trans er, by rw [e17]; exact a1, ?_⟩⟩
    obtain ⟨b1, b2, b3, b4, b5⟩ := a3
    obtain ⟨k1, k2⟩ := kp.2 c0 b1 (pu_slt b2)
    exact ⟨b1, kp.1 _ _ b2, b3, by rw [(k2 (hP _ (by omega))).1]; exact b4, b5⟩
end PUE1
/-- a Street more in the ring -/
theorem pu_ct_dec {f g : Nat → Bool} {j : Nat} : ∀ n, j < n → (∀ k, k ≠ j → g k = f k) → f j = true → g j = false → pu_ct g n + 1 = pu_ct f n := by
  intro n
  induction n with
  | zero => intro h; omega
  | succ n ih =>
    intro hj he h1 h2
    show pu_ct g n + (if g n = true then 1 else 0) + 1 = pu_ct f n + (if f n = true then 1 else 0)
    by_cases e : j = n
    · subst e
      rw [h1, h2, pu_ct_cong j (fun k hk => he k (by omega))]
      rfl
    · rw [he n (fun h => e h.symm), ← ih (by omega) he h1 h2]
      omega
theorem pu_RO.keep {s s' : List (Nat × Nat)} {R R' : Nat → Nat → Option Nat} {rc j : Nat} (h : pu_RO s R rc) (hj : j < 20) (e37 : R' 37 = R 37) (e39 : ∀ k, k ≠ j → R' 39 k = R 39 k) (hs : (s' = s ∧ R' 39 j = R 39 j) ∨ (s' = s ++ pu_StS ∧ R 39 j = none ∧ R' 39 j ≠ none)) : pu_RO s' R' rc := by
  unfold pu_RO at h ⊢
  rw [e37]
  rcases hs with ⟨h1, h2⟩ | ⟨h1, h2, h3⟩
  · have : R' 39 = R 39 := by
      funext k
      by_cases hk : k = j
      · rw [hk]; exact h2
      · exact e39 k hk
    rw [this, h1]; exact h
  · have hc := pu_ct_dec (f := fun k => (R 39 k).isNone) (g := fun k => (R' 39 k).isNone) 20 hj (fun k hk => by rw [e39 k hk]) (by rw [h2]; rfl) (by
      cases e : R' 39 j with
      | none => exact absurd e h3
      | some p => rfl)
    rw [← hc] at h
    have hl : s'.length = s.length + 7 := by rw [h1]; exact List.length_append
    have hm : (s'.map Prod.snd).sum = (s.map Prod.snd).sum + 66 := by rw [h1, List.map_append, List.sum_append]; rfl
    rw [hl, hm]
    omega
