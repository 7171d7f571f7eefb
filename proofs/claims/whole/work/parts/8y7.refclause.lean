/-! ===== The reference reads clauses of a street ===== -/
/-- what it has read: c clauses, F so far -/
def pu_Rdd (I : Nat → Nat → Int32) (c : Nat) (F : pu_A) : Prop :=
  (I 76 0 = (if c = 0 then 0 else 1) ∧ I 76 1 = nI (F.1 0 0) ∧ I 76 2 = nI (F.1 0 1) ∧ I 76 3 = nI (F.1 0 3)) ∧ (∀ h, h < 10 → I 76 (74 + h) = nI (F.1 1 h) ∧ I 76 (84 + h) = nI (F.1 2 h)) ∧ (∀ l, l < F.1 0 3 → I 76 (94 + 3 * l) = nI (F.1 3 l) ∧ I 76 (94 + 3 * l + 1) = nI (F.1 4 l) ∧ I 76 (94 + 3 * l + 2) = nI (F.1 5 l))
def pu_Uf (I I' : Nat → Nat → Int32) : Prop := (∀ q, q ≠ 70 → q ≠ 76 → I' q = I q) ∧ (∀ k, k ≠ 8 → k ≠ 9 → k ≠ 10 → k ≠ 14 → I' 70 k = I 70 k)
theorem pu_Uf.rf {I : Nat → Nat → Int32} : pu_Uf I I := ⟨fun _ _ _ => rfl, fun _ _ _ _ _ => rfl⟩
theorem pu_Uf.tr {I I' I2 : Nat → Nat → Int32} (a : pu_Uf I I') (b : pu_Uf I' I2) : pu_Uf I I2 := ⟨fun q h1 h2 => (b.1 q h1 h2).trans (a.1 q h1 h2), fun k h1 h2 h3 h4 => (b.2 k h1 h2 h3 h4).trans (a.2 k h1 h2 h3 h4)⟩
theorem pu_Uf.of {I I' : Nat → Nat → Int32} (a : pu_Of I I') : pu_Uf I I' := ⟨fun q h1 _ => a.1 q h1, fun k h1 h2 h3 _ => a.2 k h1 h2 h3⟩
theorem pu_Uf.nf {I I' : Nat → Nat → Int32} (a : pu_Nf I I') : pu_Uf I I' := pu_Uf.of (pu_Of.nf a)
theorem pu_Rdd_eq {I I' : Nat → Nat → Int32} {c : Nat} {F : pu_A} (e : I' 76 = I 76) (h : pu_Rdd I c F) : pu_Rdd I' c F := by unfold pu_Rdd at h ⊢; rw [e]; exact h
theorem pu_hd {b : Nat → Nat} {tl p : Nat} (hp : p ≤ tl) (h32 : p < tl → b p ≠ 32) : ∃ t r, pu_tt b tl p = t :: r ∧ t.2.1 = p ∧ (20 ≤ t.1 → p < tl ∧ r = pu_tt b tl (pu_le b tl p)) := by
  by_cases hlt : p < tl
  · obtain ⟨t, ht, e⟩ := pu_tt_s b hlt (h32 hlt)
    refine ⟨t, _, e, ?_⟩
    unfold pu_t1 at ht ⊢
    rw [if_neg (h32 hlt)] at ht ⊢
    split at ht
    · rename_i hd
      rw [if_pos hd]
      cases ht
      refine ⟨rfl, fun h => ?_⟩
      have h : 20 ≤ (if 5 < pu_de b tl p - p then 3 else 2) := h
      split at h <;> omega
    · rename_i hd
      rw [if_neg hd]
      split at ht
      · rename_i hl
        rw [if_pos hl]
        cases ht
        exact ⟨rfl, fun _ => ⟨hlt, rfl⟩⟩
      · rename_i hl
        rw [if_neg hl]
        have := pu_sg_le (b p)
        split at ht
        · rename_i h4
          rw [if_pos h4]
          cases ht
          refine ⟨rfl, fun h => ?_⟩
          have h : 20 ≤ (if pu_sg (b p) = 12 then 13 else 15) := h
          split at h <;> omega
        · rename_i h4
          rw [if_neg h4]
          cases ht
          refine ⟨rfl, fun h => ?_⟩
          have h : 20 ≤ pu_sg (b p) := h
          omega
  · rw [pu_tt_e b (by omega)]
    exact ⟨_, _, rfl, by show tl = p; omega, fun h => by have h : 20 ≤ 0 := h; omega⟩
theorem pu_hh2_1 (F : pu_A) (a l o h : Nat) : (pu_hh2 F a l o).1 1 h = if h = a then l else F.1 1 h := by
  show tb_up2 (tb_up2 F.1 1 a l) 2 a o 1 h = _
  rw [pu_u2p _ _ _ _ (show (1 : Nat) ≠ 2 by decide), pu_u2i]
theorem pu_hh2_2 (F : pu_A) (a l o h : Nat) : (pu_hh2 F a l o).1 2 h = if h = a then o else F.1 2 h := by
  show tb_up2 (tb_up2 F.1 1 a l) 2 a o 2 h = _
  rw [pu_u2i, pu_u2p _ _ _ _ (show (2 : Nat) ≠ 1 by decide)]
section PUR7
variable {s : List (Nat × Nat)} {R : Nat → Nat → Option Nat} {b : Nat → Nat} {tl : Nat}
theorem pu_m_cell {I : Nat → Nat → Int32} {J : Nat → Nat → Int64} (hM : pu_M s R) {r : List (Nat × Nat × Nat)} (h : pu_RS I b tl r) {cl lo hi : Nat} {ac a2 : Int32} (hac : ac = nI cl) (hcl : cl < 118) (hlo : lo < 1000) (hhi : hi < 1000000) (hh0 : 0 < hi) (ha : a2 = nI (hi - 1)) :
    ∃ I', fb_m_cellHere 70 ac (nI lo) a2 (s, I, J, R) = some (pu_b (decide ((pu_rn lo hi r 0).2.2 = 0)), (s, I', J, R)) ∧ pu_Uf I I' ∧ I' 70 14 = I 70 14 ∧ (∀ k, k ≠ cl → I' 76 k = I 76 k) ∧ ((pu_rn lo hi r 0).2.2 = 0 → pu_RS I' b tl (pu_rn lo hi r 0).2.1 ∧ I' 76 cl = nI (pu_rn lo hi r 0).1) ∧ ((pu_rn lo hi r 0).2.2 ≠ 0 → I' 70 9 = nI (pu_rn lo hi r 0).2.2) := by
  obtain ⟨I1, a1, a3, a4, a5⟩ := pu_m_number (J := J) hM h hlo hhi hh0 ha
  unfold fb_m_cellHere
  simp only [pu_on (pu_m70 hM), a1, Option.bind_some, pu_b0, decide_eq_false_iff_not]
  by_cases hf : (pu_rn lo hi r 0).2.2 = 0
  · obtain ⟨b1, b2⟩ := a4 hf
    refine ⟨tb_up2 I1 76 cl (nI (pu_rn lo hi r 0).1), ?_, ⟨fun q h1 h2 => by rw [pu_u2p _ _ _ _ h2, a3.1 q h1], fun k h1 h2 h3 _ => by rw [pu_u2p _ _ _ _ (by decide), a3.2 k h1 h2 h3]⟩, by rw [pu_u2p _ _ _ _ (by decide), a3.2 14 (by decide) (by decide) (by decide)], fun k hk => by rw [pu_u2k _ _ _ _ hk, a3.1 76 (by decide)], fun _ => ⟨?_, pu_u2s _ _ _ _⟩, fun hx => absurd hf hx⟩
    · simp only [hf, not_true, ↓reduceIte, pu_gN (pu_m70 hM), pu_r7 hM, Option.bind_some, pu_gI (pu_m70 hM), b2, hac, pu_tI (pu_m76 hM) hcl (show 118 ≤ 100000 by omega), decide_true, pu_bt]
    · obtain ⟨c1, c2, q, c3, c4, c5⟩ := b1
      exact ⟨⟨by rw [pu_u2p _ _ _ _ (by decide)]; exact c1.1, c1.2.1, fun k hk => by rw [pu_u2p _ _ _ _ (by decide)]; exact c1.2.2 k hk⟩, by rw [pu_u2p _ _ _ _ (by decide)]; exact c2, q, c3, by rw [pu_u2p _ _ _ _ (by decide)]; exact c4, c5⟩
  · refine ⟨I1, ?_, pu_Uf.of a3, a3.2 14 (by decide) (by decide) (by decide), fun k _ => by rw [a3.1 76 (by decide)], fun hx => absurd hx hf, a5⟩
    simp only [hf, not_false_eq_true, ↓reduceIte, decide_false, pu_bf]
/-- on past the word that stands here -/
theorem pu_m_pass {I : Nat → Nat → Int32} {J : Nat → Nat → Int64} (hM : pu_M s R) (hb : pu_MB I b tl) (h9 : I 70 9 = 0) {p : Nat} (hp : p ≤ tl) (e : I 70 8 = nI p) : ∃ I', fb_m_passWord 70 (s, I, J, R) = some (s, I', J, R) ∧ pu_Nf I I' ∧ pu_RS I' b tl (pu_tt b tl (pu_le b tl p)) := by
  obtain ⟨I', a1, a2, a3⟩ := pu_m_passWord (J := J) hM hb hp e
  have hle : pu_le b tl p ≤ tl := by have := pu_ff_le (fun k => !pu_isl (b k)) (tl - p) p; unfold pu_le; omega
  exact ⟨I', a1, a3, hb.nf a3, by rw [a3.2 9 (by decide)]; exact h9, _, hle, a2, rfl⟩
/-- what comes of a part of a clause: F', rest, fault -/
def pu_Cl (I I' : Nat → Nat → Int32) (b : Nat → Nat) (tl c : Nat) (x : pu_A × List (Nat × Nat × Nat) × Nat) : Prop := pu_Uf I I' ∧ I' 70 14 = I 70 14 ∧ (x.2.2 = 0 → pu_RS I' b tl x.2.1 ∧ pu_Rdd I' (c + 1) x.1) ∧ (x.2.2 ≠ 0 → I' 70 9 = nI x.2.2)
theorem pu_m_house_ {I : Nat → Nat → Int32} {J : Nat → Nat → Int64} (hM : pu_M s R) {p c : Nat} {F : pu_A} (hb : pu_MB I b tl) (h9 : I 70 9 = 0) (hp : p ≤ tl) (e : I 70 8 = nI p) (hr : pu_Rdd I c F) (hc : c ≠ 0) (fv : pu_Fv F) (hsz : 0 < F.1 0 0) :
    ∃ I', fb_m_isHouseHere 70 (s, I, J, R) = some (pu_b (decide ((let x := pu_rn 0 (2 * F.1 0 0) (pu_tt b tl (pu_le b tl p)) 0; let y := pu_rn 0 61 x.2.1 x.2.2; pu_rn 0 31 y.2.1 y.2.2).2.2 = 0)), (s, I', J, R)) ∧ pu_Cl I I' b tl c (let x := pu_rn 0 (2 * F.1 0 0) (pu_tt b tl (pu_le b tl p)) 0; let y := pu_rn 0 61 x.2.1 x.2.2; let z := pu_rn 0 31 y.2.1 y.2.2; (if z.2.2 = 0 then pu_hh2 F x.1 y.1 z.1 else F, z.2)) := by
  have h5 := fv.1.1
  obtain ⟨I1, a1, a2, a3⟩ := pu_m_pass (J := J) hM hb h9 hp e
  generalize hrr : pu_tt b tl (pu_le b tl p) = r at *
  have e76 : I1 76 = I 76 := a2.1 76 (by decide)
  have hi1 : (2 : Int32) * nI (F.1 0 0) - 1 = nI (2 * F.1 0 0 - 1) := by rw [pu_M2]; rw [show 2 * F.1 0 0 = (2 * F.1 0 0 - 1) + 1 by omega, nI_pred]; congr 1
  obtain ⟨I2, b1, b2, b3, b4⟩ := pu_m_number (J := J) (lo := 0) (hi := 2 * F.1 0 0) hM a3 (by omega) (by omega) (by omega) rfl
  dsimp only
  -- faults are kept
  have keep : ∀ lo hi f, f ≠ 0 → (pu_rn lo hi [] f).2.2 = f := fun lo hi f hf => by
    show pu_ft [] f 0 = f
    unfold pu_ft
    rw [if_neg hf]
  have nil : ∀ lo hi r f, (pu_rn lo hi r f).2.2 ≠ 0 → f = 0 → (pu_rn lo hi r f).2.1 = [] := fun lo hi r f hf h0 => by
    unfold pu_rn at hf ⊢
    cases r with
    | nil => rfl
    | cons t r =>
      dsimp only at hf ⊢
      split at hf
      · exact absurd h0 hf
      · rename_i hx; rw [if_neg hx]
  unfold fb_m_isHouseHere
  rw [show nI 0 = 0 from rfl] at b1
  simp only [pu_on (pu_m70 hM), a1, Option.bind_some, pu_gN (pu_m70 hM), pu_r7 hM, pu_lI (pu_m76 hM) (show 1 < 118 by omega) (show 118 ≤ 100000 by omega), show tb_lI [1, 9] 76 1 (s, I1, J, R) = some (I1 76 1) from pu_lI (j := 1) (pu_m76 hM) (by omega) (by omega), e76, hr.1.2.1, hi1, b1, pu_b0, decide_eq_false_iff_not]
  by_cases f1 : (pu_rn 0 (2 * F.1 0 0) r 0).2.2 = 0
  · obtain ⟨c1, c2⟩ := b3 f1
    have hat : (pu_rn 0 (2 * F.1 0 0) r 0).1 < 2 * F.1 0 0 := pu_rn_lt (by omega)
    have hI2 : I2 76 = I 76 := by rw [b2.1 76 (by decide)]; exact e76
    obtain ⟨I3, d1, d2, d3, d4, d5, d6⟩ := pu_m_cell (J := J) (lo := 0) (hi := 61) (a2 := 60) hM c1 (pu_L74 (pu_rn 0 (2 * F.1 0 0) r 0).1) (show 74 + (pu_rn 0 (2 * F.1 0 0) r 0).1 < 118 by omega) (by omega) (by omega) (by omega) rfl
    rw [show nI 0 = 0 from rfl] at d1
    simp only [f1, not_true, ↓reduceIte, pu_gI (pu_m70 hM), c2, Option.bind_some, d1, pu_b0, decide_eq_false_iff_not]
    by_cases f2 : (pu_rn 0 61 (pu_rn 0 (2 * F.1 0 0) r 0).2.1 0).2.2 = 0
    · obtain ⟨g1, g2⟩ := d5 f2
      obtain ⟨I4, k1, k2, k3, k4, k5, k6⟩ := pu_m_cell (J := J) (lo := 0) (hi := 31) (a2 := 30) hM g1 (pu_L84 (pu_rn 0 (2 * F.1 0 0) r 0).1) (show 84 + (pu_rn 0 (2 * F.1 0 0) r 0).1 < 118 by omega) (by omega) (by omega) (by omega) rfl
      rw [show nI 0 = 0 from rfl] at k1
      simp only [f2, not_true, ↓reduceIte, k1, Option.bind_some, pu_b0, decide_eq_false_iff_not]
      refine ⟨I4, ?_, ((pu_Uf.nf a2).tr (pu_Uf.of b2)).tr (d2.tr k2), by rw [k3, d3, b2.2 14 (by decide) (by decide) (by decide), a2.2 14 (by decide)], fun hz => ?_, fun hz => k6 hz⟩
      · by_cases f3 : (pu_rn 0 31 (pu_rn 0 61 (pu_rn 0 (2 * F.1 0 0) r 0).2.1 0).2.1 0).2.2 = 0
        · simp only [f3, not_true, ↓reduceIte, decide_true, pu_bt, pu_on (pu_m70 hM), Option.bind_some, show ¬ ((1 : Int32) = 0) by decide]
        · simp only [f3, not_false_eq_true, ↓reduceIte, decide_false, pu_bf, pu_on (pu_m70 hM), Option.bind_some]
      · have hz : (pu_rn 0 31 (pu_rn 0 61 (pu_rn 0 (2 * F.1 0 0) r 0).2.1 0).2.1 0).2.2 = 0 := hz
        obtain ⟨m1, m2⟩ := k5 hz
        refine ⟨m1, ?_⟩
        dsimp only
        rw [if_pos hz]
        obtain ⟨⟨r0, r1, r2, r3⟩, rb, rl⟩ := hr
        have w : ∀ k, k ≠ 84 + (pu_rn 0 (2 * F.1 0 0) r 0).1 → k ≠ 74 + (pu_rn 0 (2 * F.1 0 0) r 0).1 → I4 76 k = I 76 k := fun k h1 h2 => by rw [k4 k h1, d4 k h2, hI2]
        have w74 : I4 76 (74 + (pu_rn 0 (2 * F.1 0 0) r 0).1) = nI (pu_rn 0 61 (pu_rn 0 (2 * F.1 0 0) r 0).2.1 0).1 := by rw [k4 _ (by omega)]; exact g2
        generalize (pu_rn 0 (2 * F.1 0 0) r 0).1 = at1 at *
        have e0 : ∀ l o k, (pu_hh2 F at1 l o).1 0 k = F.1 0 k := fun l o k => by show tb_up2 (tb_up2 F.1 1 at1 l) 2 at1 o 0 k = _; rw [pu_u2p _ _ _ _ (by decide), pu_u2p _ _ _ _ (by decide)]
        refine ⟨⟨by rw [w 0 (by omega) (by omega), if_neg (by omega)]; rw [if_neg hc] at r0; exact r0, by rw [e0, w 1 (by omega) (by omega)]; exact r1, by rw [e0, w 2 (by omega) (by omega)]; exact r2, by rw [e0, w 3 (by omega) (by omega)]; exact r3⟩, fun h hh => ?_, fun k hk => ?_⟩
        · rw [pu_hh2_1, pu_hh2_2]
          by_cases hha : h = at1
          · subst hha
            rw [if_pos rfl, if_pos rfl]
            exact ⟨w74, m2⟩
          · rw [if_neg hha, if_neg hha, w (74 + h) (by omega) (by omega), w (84 + h) (by omega) (by omega)]
            exact rb h hh
        · rw [e0] at hk
          have h8 := fv.1.2.2.1
          have er : ∀ l o i, i ≠ 1 → i ≠ 2 → (pu_hh2 F at1 l o).1 i k = F.1 i k := fun l o i h1 h2 => by show tb_up2 (tb_up2 F.1 1 at1 l) 2 at1 o i k = _; rw [pu_u2p _ _ _ _ h2, pu_u2p _ _ _ _ h1]
          rw [er _ _ 3 (by decide) (by decide), er _ _ 4 (by decide) (by decide), er _ _ 5 (by decide) (by decide), w (94 + 3 * k) (by omega) (by omega), w (94 + 3 * k + 1) (by omega) (by omega), w (94 + 3 * k + 2) (by omega) (by omega)]
          exact rl k hk
    · have ez := keep 0 31 _ f2
      rw [nil 0 61 _ 0 f2 rfl]
      rw [ez]
      refine ⟨I3, ?_, ((pu_Uf.nf a2).tr (pu_Uf.of b2)).tr d2, by rw [d3, b2.2 14 (by decide) (by decide) (by decide), a2.2 14 (by decide)], fun hz => ?_, fun _ => ?_⟩
      · simp only [f2, not_false_eq_true, ↓reduceIte, decide_false, pu_bf]
      · dsimp only at hz; rw [ez] at hz; exact absurd hz f2
      · dsimp only; rw [ez]; exact d6 f2
  · have ey := keep 0 61 _ f1
    have en := nil 0 (2 * F.1 0 0) _ 0 f1 rfl
    have ez := keep 0 31 _ f1
    simp only [en, ey, show ∀ f, (pu_rn 0 61 [] f).2.1 = [] from fun _ => rfl, ez]
    refine ⟨I2, ?_, (pu_Uf.nf a2).tr (pu_Uf.of b2), by rw [b2.2 14 (by decide) (by decide) (by decide), a2.2 14 (by decide)], fun hz => absurd (ez.symm.trans hz) f1, fun _ => (b4 f1).trans (by show _ = nI (pu_rn 0 31 [] _).2.2; rw [ez])⟩
    simp only [f1, not_false_eq_true, ↓reduceIte, decide_false, pu_bf]
end PUR7
