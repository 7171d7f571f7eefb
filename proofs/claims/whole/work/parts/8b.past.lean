/-! ===== The class's past: a ring of Streets ===== -/
/-- owners of places: 1 + k the k-th of the ring, 100 + k an image, 200 + r a rule -/
def pu_Ow (own : Nat → Nat) (p n x : Nat) : Prop := ∀ i, i < n → own (p + i) = x
/-- what stays of things made at run time: those whose owner is of P -/
def pu_Kp (P : Nat → Prop) (s s' : List (Nat × Nat)) (I I' : Nat → Nat → Int32) (R R' : Nat → Nat → Option Nat) (own own' : Nat → Nat) : Prop :=
  (∀ (k : Nat) (q : Nat × Nat), s[k]? = some q → s'[k]? = some q) ∧ (∀ k, 92 ≤ k → k < s.length → own' k = own k ∧ (P (own k) → I' k = I k ∧ R' k = R k))
theorem pu_slt {s : List (Nat × Nat)} {k : Nat} {q : Nat × Nat} (h : s[k]? = some q) : k < s.length := by
  rcases Nat.lt_or_ge k s.length with h1 | h1
  · exact h1
  · rw [List.getElem?_eq_none h1] at h; cases h
theorem pu_Kp.rf {P : Nat → Prop} {s : List (Nat × Nat)} {I : Nat → Nat → Int32} {R : Nat → Nat → Option Nat} {own : Nat → Nat} : pu_Kp P s s I I R R own own := ⟨fun _ _ h => h, fun _ _ _ => ⟨rfl, fun _ => ⟨rfl, rfl⟩⟩⟩
theorem pu_Kp.len {P : Nat → Prop} {s s' : List (Nat × Nat)} {I I' : Nat → Nat → Int32} {R R' : Nat → Nat → Option Nat} {own own' : Nat → Nat} (a : pu_Kp P s s' I I' R R' own own') : s.length ≤ s'.length := by
  rcases Nat.lt_or_ge s'.length s.length with h | h
  · exfalso
    have h1 : s[s'.length]? = some s[s'.length] := List.getElem?_eq_getElem h
    have h2 := a.1 _ _ h1
    rw [List.getElem?_eq_none (Nat.le_refl _)] at h2
    cases h2
  · exact h
theorem pu_Kp.tr {P : Nat → Prop} {s s' s2 : List (Nat × Nat)} {I I' I2 : Nat → Nat → Int32} {R R' R2 : Nat → Nat → Option Nat} {own own' own2 : Nat → Nat} (a : pu_Kp P s s' I I' R R' own own') (b : pu_Kp P s' s2 I' I2 R' R2 own' own2) : pu_Kp P s s2 I I2 R R2 own own2 := by
  refine ⟨fun k q h => b.1 k q (a.1 k q h), fun k h1 h2 => ?_⟩
  obtain ⟨a1, a2⟩ := a.2 k h1 h2
  obtain ⟨b1, b2⟩ := b.2 k h1 (Nat.lt_of_lt_of_le h2 a.len)
  refine ⟨b1.trans a1, fun h => ?_⟩
  obtain ⟨c1, c2⟩ := a2 h
  obtain ⟨d1, d2⟩ := b2 (by rw [a1]; exact h)
  exact ⟨d1.trans c1, d2.trans c2⟩
/-- only places below 92 were written -/
theorem pu_Kp.lo {P : Nat → Prop} {s : List (Nat × Nat)} {I I' : Nat → Nat → Int32} {R : Nat → Nat → Option Nat} {own : Nat → Nat} (h : ∀ q, 92 ≤ q → I' q = I q) : pu_Kp P s s I I' R R own own := ⟨fun _ _ h => h, fun k h1 _ => ⟨rfl, fun _ => ⟨h k h1, rfl⟩⟩⟩
theorem pu_Kp.mono {P Q : Nat → Prop} {s s' : List (Nat × Nat)} {I I' : Nat → Nat → Int32} {R R' : Nat → Nat → Option Nat} {own own' : Nat → Nat} (hq : ∀ x, Q x → P x) (a : pu_Kp P s s' I I' R R' own own') : pu_Kp Q s s' I I' R R' own own' := ⟨a.1, fun k h1 h2 => ⟨(a.2 k h1 h2).1, fun h => (a.2 k h1 h2).2 (hq _ h)⟩⟩
/-- a Street at p stays -/
theorem pu_Kp.st {P : Nat → Prop} {s s' : List (Nat × Nat)} {I I' : Nat → Nat → Int32} {R R' : Nat → Nat → Option Nat} {own own' : Nat → Nat} (a : pu_Kp P s s' I I' R R' own own') {p x : Nat} (hp : 92 ≤ p) (h : pu_St s R p) (ho : pu_Ow own p 7 x) (hP : P x) : pu_St s' R' p ∧ pu_Ow own' p 7 x ∧ (∀ A, pu_V I p A → pu_V I' p A) := by
  have hl : ∀ i, i < 7 → p + i < s.length := by
    intro i hi
    have := pu_slt h.2.1.2.2.2.2.2
    omega
  have hr : R' p = R p := by
    have := (a.2 p hp (by have := hl 0 (by omega); omega)).2 (by have := ho 0 (by omega); rw [Nat.add_zero] at this; rw [this]; exact hP)
    exact this.2
  refine ⟨⟨a.1 _ _ h.1, ⟨a.1 _ _ h.2.1.1, a.1 _ _ h.2.1.2.1, a.1 _ _ h.2.1.2.2.1, a.1 _ _ h.2.1.2.2.2.1, a.1 _ _ h.2.1.2.2.2.2.1, a.1 _ _ h.2.1.2.2.2.2.2⟩, by rw [hr]; exact h.2.2⟩, fun i hi => ?_, fun A v => ?_⟩
  · rw [(a.2 (p + i) (by omega) (hl i hi)).1]; exact ho i hi
  · refine pu_V_eq (fun i hi => ?_) v
    exact ((a.2 (p + i) (by omega) (hl i (by omega))).2 (by rw [ho i (by omega)]; exact hP)).1
def pu_RG (s : List (Nat × Nat)) (I : Nat → Nat → Int32) (R : Nat → Nat → Option Nat) (own : Nat → Nat) (L : List pu_A) (j : Nat) : Prop :=
  (I 38 0 = nI L.length ∧ I 38 1 = nI j ∧ j < 20 ∧ L.length ≤ 20) ∧
  (∀ k p, k < 20 → R 39 k = some p → pu_St s R p ∧ 92 ≤ p ∧ pu_Ow own p 7 (1 + k)) ∧
  (∀ i B, L[i]? = some B → ∃ p, R 39 ((j + 19 - i) % 20) = some p ∧ pu_V I p B)
/-- the ring stays where its Streets do -/
theorem pu_RG.kp {P : Nat → Prop} {s s' : List (Nat × Nat)} {I I' : Nat → Nat → Int32} {R R' : Nat → Nat → Option Nat} {own own' : Nat → Nat} {L : List pu_A} {j : Nat} (G : pu_RG s I R own L j) (a : pu_Kp P s s' I I' R R' own own') (hP : ∀ k, k < 20 → P (1 + k)) (h38 : I' 38 0 = I 38 0) (h38' : I' 38 1 = I 38 1) (h39 : R' 39 = R 39) : pu_RG s' I' R' own' L j := by
  obtain ⟨⟨g1, g2, g3, g4⟩, G2, G3⟩ := G
  refine ⟨⟨h38.trans g1, h38'.trans g2, g3, g4⟩, fun k p hk hp => ?_, fun i B hB => ?_⟩
  · rw [h39] at hp
    obtain ⟨b1, b2, b3⟩ := G2 k p hk hp
    obtain ⟨c1, c2, _⟩ := a.st b2 b1 b3 (hP k hk)
    exact ⟨c1, b2, c2⟩
  · obtain ⟨p, hp, v⟩ := G3 i B hB
    obtain ⟨b1, b2, b3⟩ := G2 _ p (Nat.mod_lt _ (by decide)) hp
    exact ⟨p, by rw [h39]; exact hp, (a.st b2 b1 b3 (hP _ (Nat.mod_lt _ (by decide)))).2.2 B v⟩
theorem pu_md20 : ∀ j, j < 40 → nI j - nI j / 20 * 20 = nI (j % 20) := by decide +kernel
theorem pu_lQ6 {s : List (Nat × Nat)} {I : Nat → Nat → Int32} {J : Nat → Nat → Int64} {R : Nat → Nat → Option Nat} {p n j : Nat} (h : s[p]? = some (6, n)) (hj : j < n) (hn : n ≤ 100000) : tb_lQ p (nI j) (s, I, J, R) = some (R p j) := by
  unfold tb_lQ
  simp only [h, pu_in hj hn, nI_clamp (show j < 2 ^ 31 by omega)]
  rfl
theorem pu_al6 {s : List (Nat × Nat)} {I : Nat → Nat → Int32} {J : Nat → Nat → Int64} {R : Nat → Nat → Option Nat} {p n : Nat} (h : s[p]? = some (6, n)) : tb_al p (s, I, J, R) = some (nI n) := by
  unfold tb_al
  simp only [h]
  rfl
theorem pu_tR6 {s : List (Nat × Nat)} {I : Nat → Nat → Int32} {J : Nat → Nat → Int64} {R : Nat → Nat → Option Nat} {p n j v m : Nat} (h : s[p]? = some (6, n)) (hj : j < n) (hn : n ≤ 100000) (hv : s[v]? = some (17, m)) : tb_tR tb_P.2.2.1 p (nI j) v (s, I, J, R) = some (s, I, J, tb_up2 R p j (some v)) := by
  have hk : tb_kd (s, I, J, R) v = some 17 := by show (s[v]?).map Prod.fst = some 17; rw [hv]; rfl
  have hc : tb_P.2.2.1 6 = 17 := by unfold tb_P; rfl
  unfold tb_tR
  simp only [h, hk, hc, pu_in hj hn, nI_clamp (show j < 2 ^ 31 by omega)]
  rfl
section PUC1
variable {s : List (Nat × Nat)} {I : Nat → Nat → Int32} {J : Nat → Nat → Int64} {R : Nat → Nat → Option Nat} {own : Nat → Nat} {A : pu_A}
theorem pu_take_len (A : pu_A) (L : List pu_A) (hL : L.length ≤ 20) : ((A :: L).take 20).length = if L.length = 20 then 20 else L.length + 1 := by
  rw [List.length_take, List.length_cons]
  split <;> omega
/-- a state is laid at the ring's place, which has its Street -/
theorem pu_p_keep24 (hX : pu_X s R) (v : pu_V I 19 A) (wf : pu_wf A) {L : List pu_A} {j p : Nat} (G : pu_RG s I R own L j) (hp : R 39 j = some p) :
    ∃ I', fj_p_keep_j24 38 19 (s, I, J, R) = some (s, I', J, R) ∧ pu_RG s I' R own ((A :: L).take 20) ((j + 1) % 20) ∧ pu_Kp (fun x => x ≠ 1 + j) s s I I' R R own own ∧ (∀ q, q < 92 → q ≠ 38 → I' q = I q) := by
  obtain ⟨⟨g1, g2, g3, g4⟩, G2, G3⟩ := G
  obtain ⟨b1, b2, b3⟩ := G2 j p g3 hp
  obtain ⟨I1, a1, a2, a3⟩ := pu_s_copyFrom (J := J) b1 (pu_st19 hX) (Or.inr (by omega)) v wf
  have k38 : I1 38 = I 38 := a3 38 (by omega)
  have ej : nI j + 1 - (nI j + 1) / 20 * 20 = nI ((j + 1) % 20) := by rw [pu_R1]; exact pu_md20 (j + 1) (by omega)
  have em : fb_ma_min 20 (nI L.length + 1) (s, tb_up2 I1 38 1 (nI ((j + 1) % 20)), J, R) = some (nI ((A :: L).take 20).length, (s, tb_up2 I1 38 1 (nI ((j + 1) % 20)), J, R)) := by
    rw [pu_take_len A L g4, pu_R1]
    unfold fb_ma_min
    rw [show (20 : Int32) = nI 20 from rfl]
    simp only [pu_leI (show 20 < 2147483648 by omega) (show L.length + 1 < 2147483648 by omega)]
    by_cases h : L.length = 20
    · rw [if_pos h, if_pos (by omega)]
    · rw [if_neg h]
      by_cases h2 : 20 ≤ L.length + 1
      · rw [if_pos h2, show L.length + 1 = 20 by omega]
      · rw [if_neg h2]
  have e0 : tb_up2 I1 38 1 (nI ((j + 1) % 20)) 38 0 = nI L.length := by rw [pu_u2k _ _ _ _ (by decide), k38]; exact g1
  refine ⟨tb_up2 (tb_up2 I1 38 1 (nI ((j + 1) % 20))) 38 0 (nI ((A :: L).take 20).length), ?_, ⟨⟨pu_u2s _ _ _ _, ?_, Nat.mod_lt _ (by decide), by rw [List.length_take]; omega⟩, fun k p' hk hp' => G2 k p' hk hp', fun i B hB => ?_⟩, ⟨fun _ _ h => h, fun k h1 h2 => ⟨rfl, fun h => ⟨?_, rfl⟩⟩⟩, fun q hq hq2 => ?_⟩
  · unfold fj_p_keep_j24
    simp only [pu_gN (pu_c38 hX), pu_f38_2 hX, Option.bind_some, pu_gI (pu_c38 hX), g2, pu_lQ6 (pu_c39 hX) (show j < 20 from g3) (show 20 ≤ 100000 by omega), hp, pu_on b1.1, a1, k38, ej, pu_pI (pu_c38 hX), e0, em]
  · rw [pu_u2k _ _ _ _ (by decide), pu_u2s]
  · have hlen : i < 20 := by
      have := (List.getElem?_eq_some_iff.mp hB).1
      rw [List.length_take] at this
      omega
    rw [List.getElem?_take_of_lt hlen] at hB
    cases i with
    | zero =>
      cases hB
      refine ⟨p, ?_, ?_⟩
      · rw [show ((j + 1) % 20 + 19 - 0) % 20 = j by omega]; exact hp
      · exact pu_V_eq (fun i hi => by rw [pu_u2p _ _ _ _ (by omega), pu_u2p _ _ _ _ (by omega)]) a2
    | succ i =>
      rw [List.getElem?_cons_succ] at hB
      obtain ⟨p', hp', v'⟩ := G3 i B hB
      have hne : (j + 19 - i) % 20 ≠ j := by omega
      obtain ⟨c1, c2, c3⟩ := G2 _ p' (Nat.mod_lt _ (by decide)) hp'
      refine ⟨p', ?_, ?_⟩
      · rw [show ((j + 1) % 20 + 19 - (i + 1)) % 20 = (j + 19 - i) % 20 by omega]; exact hp'
      · refine pu_V_eq (fun z hz => ?_) v'
        rw [pu_u2p _ _ _ _ (by omega), pu_u2p _ _ _ _ (by omega)]
        refine a3 _ ?_
        rcases Nat.lt_or_ge (p' + z) p with h | h
        · exact Or.inl h
        · rcases Nat.lt_or_ge (p' + z) (p + 7) with h2 | h2
          · exfalso
            have o1 := c3 z (by omega)
            have o2 := b3 (p' + z - p) (by omega)
            rw [show p + (p' + z - p) = p' + z by omega, o1] at o2
            omega
          · exact Or.inr h2
  · rw [pu_u2p _ _ _ _ (by omega), pu_u2p _ _ _ _ (by omega)]
    refine a3 _ ?_
    rcases Nat.lt_or_ge k p with h3 | h3
    · exact Or.inl h3
    · rcases Nat.lt_or_ge k (p + 7) with h4 | h4
      · exfalso
        have o2 := b3 (k - p) (by omega)
        rw [show p + (k - p) = k by omega] at o2
        exact h o2
      · exact Or.inr h4
  · rw [pu_u2p _ _ _ _ hq2, pu_u2p _ _ _ _ hq2]
    exact a3 q (Or.inl (by omega))
end PUC1
/-- a new thing's places get its owner -/
def pu_ow (own : Nat → Nat) (n x : Nat) : Nat → Nat := fun z => if n ≤ z then x else own z
theorem pu_X.gr {s s' : List (Nat × Nat)} {R R' : Nat → Nat → Option Nat} (h : pu_X s R) (hs : ∀ (k : Nat) (q : Nat × Nat), s[k]? = some q → s'[k]? = some q) (hR : ∀ q, q < 92 → q ≠ 39 → q ≠ 37 → q ≠ 17 → R' q = R q) : pu_X s' R' := by
  refine ⟨fun k hk => ?_, fun q hq => ?_⟩
  · have h1 := h.1 k hk
    have h2 : pu_XS[k]? = some pu_XS[k] := List.getElem?_eq_getElem hk
    rw [h2] at h1 ⊢
    exact hs _ _ h1
  · have : q.1.1 < 92 ∧ q.1.1 ≠ 39 ∧ q.1.1 ≠ 37 ∧ q.1.1 ≠ 17 := (by decide : ∀ q ∈ pu_XR, q.1.1 < 92 ∧ q.1.1 ≠ 39 ∧ q.1.1 ≠ 37 ∧ q.1.1 ≠ 17) q hq
    rw [hR _ this.1 this.2.1 this.2.2.1 this.2.2.2]
    exact h.2 q hq
theorem pu_M.gr {s s' : List (Nat × Nat)} {R R' : Nat → Nat → Option Nat} (h : pu_M s R) (hs : ∀ (k : Nat) (q : Nat × Nat), s[k]? = some q → s'[k]? = some q) (hR : R' 70 = R 70) : pu_M s' R' := by
  refine ⟨fun k hk => ?_, fun k hk hk2 => ?_⟩
  · have h1 := h.1 k hk
    rw [List.getElem?_eq_getElem (show k < [(22, 36), (0, 400), (1, 2400), (1, 7), (1, 288), (1, 6), (1, 118), (1, 400), (2, 64), (2, 12), (1, 149), (1, 1280), (1, 64), (1, 5), (1, 5), (1, 8), (3, 7), (1, 7), (1, 596), (1, 4), (1, 4), (3, 4)].length from hk)] at h1 ⊢
    exact hs _ _ h1
  · rw [hR]; exact h.2 k hk hk2
theorem pu_M.len {s : List (Nat × Nat)} {R : Nat → Nat → Option Nat} (h : pu_M s R) : 92 ≤ s.length := pu_slt (pu_m91 h)
section PUC2
variable {s : List (Nat × Nat)} {I : Nat → Nat → Int32} {J : Nat → Nat → Int64} {R : Nat → Nat → Option Nat} {own : Nat → Nat} {A : pu_A}
theorem pu_p_keep (hX : pu_X s R) (h92 : 92 ≤ s.length) (v : pu_V I 19 A) (wf : pu_wf A) {L : List pu_A} {j : Nat} (G : pu_RG s I R own L j) :
    ∃ s' I' J' R' own', fb_p_keep 38 19 (s, I, J, R) = some (s', I', J', R') ∧ pu_RG s' I' R' own' ((A :: L).take 20) ((j + 1) % 20) ∧ pu_Kp (fun x => x ≠ 1 + j) s s' I I' R R' own own' ∧ (∀ q, q < 92 → q ≠ 38 → I' q = I q) ∧ (∀ q, q < 92 → J' q = J q) ∧ (∀ q, q < 92 → q ≠ 39 → R' q = R q) ∧ (∀ k, k ≠ j → R' 39 k = R 39 k) ∧
      ((s' = s ∧ R' 39 j = R 39 j) ∨ (s' = s ++ pu_StS ∧ R 39 j = none ∧ R' 39 j ≠ none)) := by
  have g2 := G.1.2.1
  have g3 := G.1.2.2.1
  unfold fb_p_keep
  simp only [pu_gI (pu_c38 hX), g2, Option.bind_some, pu_lt0 (show j < 2147483648 by omega), ↓reduceIte, pu_gN (pu_c38 hX), pu_f38_2 hX, pu_al6 (pu_c39 hX), pu_ltI (show j < 2147483648 by omega) (show 20 < 2147483648 by omega), g3, pu_lQ6 (pu_c39 hX) g3 (show 20 ≤ 100000 by omega)]
  cases hp : R 39 j with
  | some p =>
    obtain ⟨I', a1, a2, a3, a4⟩ := pu_p_keep24 (J := J) hX v wf G hp
    exact ⟨s, I', J, R, own, a1, a2, a3, a4, fun _ _ => rfl, fun _ _ _ => rfl, fun _ _ => rfl, Or.inl ⟨rfl, hp⟩⟩
  | none =>
    obtain ⟨I1, J1, R1, c1, c2, c3, c4⟩ := pu_newSt (s := s) (I := I) (J := J) (R := R)
    have hs : ∀ (k : Nat) (q : Nat × Nat), s[k]? = some q → (s ++ pu_StS)[k]? = some q := fun k q h => by rw [List.getElem?_append_left (pu_slt h)]; exact h
    have r39 : R1 39 = R 39 := (c3 39 (by omega)).2.2
    have hX1 : pu_X (s ++ pu_StS) (tb_up2 R1 39 j (some s.length)) := hX.gr hs (fun q hq h1 _ _ => by rw [pu_u2p _ _ _ _ h1]; exact (c3 q (by omega)).2.2)
    have hX0 : pu_X (s ++ pu_StS) R1 := hX.gr hs (fun q hq _ _ _ => (c3 q (by omega)).2.2)
    have v1 : pu_V I1 19 A := pu_V_eq (fun i hi => (c3 _ (by omega)).1) v
    have e38 : ∀ k, I1 38 k = I 38 k := fun k => by rw [(c3 38 (by omega)).1]
    have kp1 : pu_Kp (fun x => x ≠ 1 + j) s (s ++ pu_StS) I I1 R (tb_up2 R1 39 j (some s.length)) own (pu_ow own s.length (1 + j)) := ⟨hs, fun k h1 h2 => ⟨by unfold pu_ow; rw [if_neg (by omega)], fun _ => ⟨(c3 k h2).1, by rw [pu_u2p _ _ _ _ (by omega)]; exact (c3 k h2).2.2⟩⟩⟩
    have st2 : pu_St (s ++ pu_StS) (tb_up2 R1 39 j (some s.length)) s.length := ⟨c2.1, c2.2.1, by rw [pu_u2p _ _ _ _ (by omega)]; exact c2.2.2⟩
    have hlen : (s ++ pu_StS).length = s.length + 7 := List.length_append
    have G1 : pu_RG (s ++ pu_StS) I1 (tb_up2 R1 39 j (some s.length)) (pu_ow own s.length (1 + j)) L j := by
      obtain ⟨⟨g1, _, _, g4⟩, G2, G3⟩ := G
      refine ⟨⟨by rw [e38]; exact g1, by rw [e38]; exact g2, g3, g4⟩, fun k p hk hp2 => ?_, fun i B hB => ?_⟩
      · rw [pu_u2i] at hp2
        by_cases hkj : k = j
        · rw [if_pos hkj] at hp2
          cases hp2
          refine ⟨st2, h92, fun i hi => ?_⟩
          unfold pu_ow
          rw [if_pos (by omega), hkj]
        · rw [if_neg hkj, r39] at hp2
          obtain ⟨d1, d2, d3⟩ := G2 k p hk hp2
          obtain ⟨f1, f2, _⟩ := kp1.st d2 d1 d3 (by omega)
          exact ⟨f1, d2, f2⟩
      · obtain ⟨p, hp2, v2⟩ := G3 i B hB
        have hne : (j + 19 - i) % 20 ≠ j := fun h => by rw [h, hp] at hp2; cases hp2
        obtain ⟨d1, d2, d3⟩ := G2 _ p (Nat.mod_lt _ (by decide)) hp2
        exact ⟨p, by rw [pu_u2k _ _ _ _ hne, r39]; exact hp2, (kp1.st d2 d1 d3 (by omega)).2.2 B v2⟩
    obtain ⟨I2, a1, a2, a3, a4⟩ := pu_p_keep24 (J := J1) hX1 v1 wf G1 (pu_u2s _ _ _ _)
    refine ⟨s ++ pu_StS, I2, J1, tb_up2 R1 39 j (some s.length), pu_ow own s.length (1 + j), ?_, a2, kp1.tr a3, fun q hq h1 => by rw [a4 q hq h1]; exact (c3 q (by omega)).1, fun q hq => (c3 q (by omega)).2.1, fun q hq h1 => by rw [pu_u2p _ _ _ _ h1]; exact (c3 q (by omega)).2.2, fun k hk => by rw [pu_u2k _ _ _ _ hk, r39], Or.inr ⟨rfl, rfl, by rw [pu_u2s]; exact fun h => by cases h⟩⟩
    simp only [c1, Option.bind_some, pu_tR6 (pu_c39 hX0) g3 (show 20 ≤ 100000 by omega) c2.1]
    exact a1
theorem pu_x_undo0 {j : Nat} (hX : pu_X s R) (G : pu_RG s I R own [] j) : fb_x_undo 1 (s, I, J, R) = some (-1, (s, I, J, R)) := by
  have g1 : I 38 0 = 0 := G.1.1
  unfold fb_x_undo
  simp only [pu_gN (pu_c1 hX), pu_f1_7 hX, Option.bind_some, pu_gI (pu_c38 hX), g1, ↓reduceIte]
theorem pu_x_undo (hX : pu_X s R) {B : pu_A} {L : List pu_A} {j : Nat} (G : pu_RG s I R own (B :: L) j) (wf : pu_wf B) : ∃ I', fb_x_undo 1 (s, I, J, R) = some (nI L.length, (s, I', J, R)) ∧ pu_V I' 19 B ∧ pu_RG s I' R own L ((j + 19) % 20) ∧ (∀ q, q ≠ 38 → (q < 19 ∨ 26 ≤ q) → I' q = I q) := by
  obtain ⟨⟨g1, g2, g3, g4⟩, G2, G3⟩ := G
  rw [List.length_cons] at g1 g4
  obtain ⟨p, hp, v⟩ := G3 0 B rfl
  rw [Nat.sub_zero] at hp
  obtain ⟨b1, b2, b3⟩ := G2 _ p (Nat.mod_lt _ (by decide)) hp
  have hm : (j + 19) % 20 < 20 := Nat.mod_lt _ (by decide)
  have ej : nI j + 20 - 1 - (nI j + 20 - 1) / 20 * 20 = nI ((j + 19) % 20) := by
    rw [pu_R20, show j + 20 = (j + 19) + 1 by omega, nI_pred]
    exact pu_md20 (j + 19) (by omega)
  have hne : ¬ nI (L.length + 1) = 0 := nI_ne0 (by omega) (by omega)
  have e0 : tb_up2 I 38 1 (nI ((j + 19) % 20)) 38 0 = nI (L.length + 1) := by rw [pu_u2k _ _ _ _ (by decide)]; exact g1
  have em : fb_ma_max 0 (nI (L.length + 1) - 1) (s, tb_up2 I 38 1 (nI ((j + 19) % 20)), J, R) = some (nI L.length, (s, tb_up2 I 38 1 (nI ((j + 19) % 20)), J, R)) := by
    rw [nI_pred]
    unfold fb_ma_max
    by_cases h : L.length = 0
    · rw [h, if_neg (by decide)]; rfl
    · rw [if_pos (by rw [show (0 : Int32) = nI 0 from rfl, pu_ltI (by omega) (by omega)]; omega)]
  have v1 : pu_V (tb_up2 (tb_up2 I 38 1 (nI ((j + 19) % 20))) 38 0 (nI L.length)) p B := pu_V_eq (fun i hi => by rw [pu_u2p _ _ _ _ (by omega), pu_u2p _ _ _ _ (by omega)]) v
  obtain ⟨I1, a1, a2, a3⟩ := pu_s_copyFrom (J := J) (pu_st19 hX) b1 (Or.inl (by omega)) v1 wf
  have e1 : tb_up2 (tb_up2 I 38 1 (nI ((j + 19) % 20))) 38 0 (nI L.length) 38 1 = nI ((j + 19) % 20) := by rw [pu_u2k _ _ _ _ (by decide), pu_u2s]
  have k0 : I1 38 0 = nI L.length := by rw [a3 38 (by omega), pu_u2s]
  have k1 : I1 38 1 = nI ((j + 19) % 20) := by rw [a3 38 (by omega)]; exact e1
  have hi : ∀ q, 92 ≤ q → I1 q = I q := fun q hq => by rw [a3 q (by omega), pu_u2p _ _ _ _ (by omega), pu_u2p _ _ _ _ (by omega)]
  refine ⟨I1, ?_, a2, ⟨⟨k0, k1, hm, by omega⟩, G2, fun i B' hB => ?_⟩, fun q h1 h2 => ?_⟩
  · unfold fb_x_undo
    simp only [pu_gN (pu_c1 hX), pu_f1_7 hX, pu_f1_5 hX, Option.bind_some, pu_gI (pu_c38 hX), g1, hne, ↓reduceIte, pu_gN (pu_c18 hX), pu_f18_0 hX, pu_on (pu_c38 hX), fb_p_giveBack, g2, ej, pu_pI (pu_c38 hX), e0, em, e1, pu_lt0 (show (j + 19) % 20 < 2147483648 by omega), pu_gN (pu_c38 hX), pu_f38_2 hX, pu_al6 (pu_c39 hX), pu_ltI (show (j + 19) % 20 < 2147483648 by omega) (show 20 < 2147483648 by omega), hm, pu_lQ6 (pu_c39 hX) hm (show 20 ≤ 100000 by omega), hp, pu_on (pu_c19 hX), a1, k0]
  · obtain ⟨p', hp', v'⟩ := G3 (i + 1) B' (by rw [List.getElem?_cons_succ]; exact hB)
    obtain ⟨c1, c2, c3⟩ := G2 _ p' (Nat.mod_lt _ (by decide)) hp'
    have hlen : i < L.length := (List.getElem?_eq_some_iff.mp hB).1
    exact ⟨p', by rw [show ((j + 19) % 20 + 19 - i) % 20 = (j + 19 - (i + 1)) % 20 by omega]; exact hp', pu_V_eq (fun z _ => hi _ (by omega)) v'⟩
  · rw [a3 q (by omega), pu_u2p _ _ _ _ h1, pu_u2p _ _ _ _ h1]
end PUC2
