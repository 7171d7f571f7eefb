/-! ===== The reference reads all of a street's text ===== -/
theorem pu_nm1 {n : Nat} (h : n < 2147483648) : ¬ nI n = (-1 : Int32) := fun e => by
  have := pu_lt0 h
  rw [e] at this
  exact this (by decide)
theorem pu_wk_ge (b : Nat → Nat) (p e : Nat) : ∀ k, pu_wk b p e k = 1 ∨ 20 ≤ pu_wk b p e k := by
  intro k
  induction k with
  | zero => exact Or.inl rfl
  | succ k ih =>
    show (if pu_isw b p e k then 20 + k else pu_wk b p e k) = 1 ∨ 20 ≤ (if pu_isw b p e k then 20 + k else pu_wk b p e k)
    by_cases h : pu_isw b p e k = true
    · rw [if_pos h]; omega
    · rw [if_neg h]; exact ih
theorem pu_sg4 (c : Nat) : (pu_sg c = 4 ↔ c = 59) ∧ pu_sg c ≠ 0 := by
  unfold pu_sg
  repeat (split; · (constructor <;> omega))
  constructor <;> omega
/-- a semicolon stands here -/
theorem pu_hk4 {b : Nat → Nat} {tl p : Nat} (hp : p < tl) (h32 : b p ≠ 32) : (pu_hk (pu_tt b tl p) = 4 ↔ b p = 59) ∧ pu_hk (pu_tt b tl p) ≠ 0 ∧ (b p = 59 → pu_tt b tl p = (4, p, 0) :: pu_tt b tl (p + 1)) := by
  obtain ⟨t, ht, e⟩ := pu_tt_s b hp h32
  have hk : pu_hk (pu_tt b tl p) = t.1 := by rw [e]; rfl
  have h59 : b p = 59 → (pu_t1 b tl p) = (some (4, p, 0), p + 1) := by
    intro h
    unfold pu_t1
    rw [if_neg h32, if_neg (by rw [h]; decide), if_neg (by rw [h]; decide), if_neg (fun x => by have := x.2; rw [h] at this; revert this; decide), h]
    rfl
  refine ⟨⟨fun h4 => ?_, fun h => ?_⟩, ?_, fun h => ?_⟩
  · rw [hk] at h4
    unfold pu_t1 at ht
    rw [if_neg h32] at ht
    split at ht
    · cases ht
      have h4 : (if 5 < pu_de b tl p - p then 3 else 2) = 4 := h4
      split at h4 <;> omega
    · split at ht
      · cases ht
        have h4 : pu_wk b p (pu_le b tl p) 19 = 4 := h4
        have := pu_wk_ge b p (pu_le b tl p) 19
        omega
      · split at ht
        · cases ht
          have h4 : (if pu_sg (b p) = 12 then 13 else 15) = 4 := h4
          split at h4 <;> omega
        · cases ht
          exact (pu_sg4 (b p)).1.mp h4
  · rw [hk]
    rw [h59 h] at ht
    cases ht; rfl
  · rw [hk]
    intro h0
    unfold pu_t1 at ht
    rw [if_neg h32] at ht
    split at ht
    · cases ht
      have h0 : (if 5 < pu_de b tl p - p then 3 else 2) = 0 := h0
      split at h0 <;> omega
    · split at ht
      · cases ht
        have h0 : pu_wk b p (pu_le b tl p) 19 = 0 := h0
        have := pu_wk_ge b p (pu_le b tl p) 19
        omega
      · split at ht
        · cases ht
          have h0 : (if pu_sg (b p) = 12 then 13 else 15) = 0 := h0
          split at h0 <;> omega
        · cases ht
          exact (pu_sg4 (b p)).2 h0
  · rw [e]
    rw [h59 h] at ht ⊢
    cases ht; rfl
/-- reading on, by what holds of the rest -/
theorem pu_rs_rn {l r : List (Nat × Nat × Nat)} {f : Nat} (he : pu_En l) (hs : pu_Rs r f) (hd : ∃ i, l.drop i = r) (lo hi : Nat) : pu_Rs (pu_rn lo hi r f).2.1 (pu_rn lo hi r f).2.2 ∧ ∃ i, l.drop i = (pu_rn lo hi r f).2.1 := by
  have nl : ∃ i, l.drop i = [] := ⟨l.length, List.drop_length⟩
  unfold pu_rn
  cases r with
  | nil =>
    rcases hs with ⟨_, x⟩ | ⟨x, _⟩
    · exact absurd rfl x
    · dsimp only
      unfold pu_ft
      rw [if_neg x]
      exact ⟨Or.inr ⟨x, rfl⟩, nl⟩
  | cons t r =>
    have h0 : f = 0 := by
      rcases hs with ⟨x, _⟩ | ⟨_, x⟩
      · exact x
      · cases x
    dsimp only
    split
    · rename_i hc
      obtain ⟨i, hi⟩ := hd
      refine ⟨Or.inl ⟨h0, he t r ⟨i, hi⟩ (by omega)⟩, i + 1, ?_⟩
      rw [← List.drop_drop, hi]; rfl
    · refine ⟨Or.inr ⟨?_, rfl⟩, nl⟩
      unfold pu_ft
      rw [if_pos h0]
      dsimp only
      omega
theorem pu_hs2_00 (F : pu_A) (v1 v2 : Nat) : (pu_hs2 F v1 v2).1 0 0 = v1 := by show tb_up2 (tb_up2 F.1 0 0 v1) 0 1 v2 0 0 = v1; rw [pu_u2k _ _ _ _ (by decide), pu_u2s]
theorem pu_hh2_00 (F : pu_A) (a l o : Nat) : (pu_hh2 F a l o).1 0 0 = F.1 0 0 := by show tb_up2 (tb_up2 F.1 1 a l) 2 a o 0 0 = _; rw [pu_u2p _ _ _ _ (by decide), pu_u2p _ _ _ _ (by decide)]
theorem pu_rs_cla {l r : List (Nat × Nat × Nat)} (he : pu_En l) (hs : pu_Rs r 0) (hd : ∃ i, l.drop i = r) {c : Nat} {F : pu_A} (fv : pu_Fv F) (hc0 : c = 0 → F.1 0 3 = 0) (hsz : c ≠ 0 → 0 < F.1 0 0) : pu_Rs (pu_cla c F r 0).2.1 (pu_cla c F r 0).2.2 ∧ ((pu_cla c F r 0).2.2 = 0 → pu_Fv (pu_cla c F r 0).1 ∧ 0 < (pu_cla c F r 0).1.1 0 0) := by
  cases r with
  | nil =>
    rcases hs with ⟨_, x⟩ | ⟨x, _⟩
    · exact absurd rfl x
    · exact absurd rfl x
  | cons t r =>
    have ftn : ∀ why, pu_ft (t :: r) 0 why ≠ 0 := fun why => by unfold pu_ft; rw [if_pos rfl]; dsimp only; omega
    unfold pu_cla
    dsimp only
    by_cases hw : t.1 = 32 ∨ t.1 = 33 ∨ t.1 = 20
    · rw [if_neg (by simp only [hw, not_true, not_false_eq_true])]
      obtain ⟨i, hi⟩ := hd
      have rs1 : pu_Rs r 0 := Or.inl ⟨rfl, he t r ⟨i, hi⟩ (by omega)⟩
      have d1 : ∃ i, l.drop i = r := ⟨i + 1, by rw [← List.drop_drop, hi]; rfl⟩
      by_cases hx : ¬ (t.1 = 32 ↔ c = 0) ∨ (t.1 = 20 ∧ 8 ≤ F.1 0 3) ∨ 40 ≤ c
      · rw [if_pos hx]
        exact ⟨Or.inr ⟨ftn 4, rfl⟩, fun h => absurd h (ftn 4)⟩
      · rw [if_neg hx]
        have hx1 : (t.1 = 32 ↔ c = 0) := Classical.byContradiction fun h => hx (Or.inl h)
        by_cases t32 : t.1 = 32
        · rw [if_pos t32]
          obtain ⟨a1, a2⟩ := pu_rs_rn he rs1 d1 1 6
          obtain ⟨b1, b2⟩ := pu_rs_rn he a1 a2 0 10
          refine ⟨b1, fun hz => ?_⟩
          obtain ⟨z1, z2, z3⟩ := pu_rn_f a1 hz
          obtain ⟨_, y2, y3⟩ := pu_rn_f rs1 z1
          refine ⟨pu_hs2_fv fv (hc0 (hx1.mp t32)) y3 z3, ?_⟩
          rw [pu_hs2_00]
          omega
        · have cn : c ≠ 0 := fun h => t32 (hx1.mpr h)
          rw [if_neg t32]
          by_cases t33 : t.1 = 33
          · rw [if_pos t33]
            obtain ⟨a1, a2⟩ := pu_rs_rn he rs1 d1 0 (2 * F.1 0 0)
            obtain ⟨b1, b2⟩ := pu_rs_rn he a1 a2 0 61
            obtain ⟨c1, c2⟩ := pu_rs_rn he b1 b2 0 31
            refine ⟨c1, fun hz => ?_⟩
            obtain ⟨z1, z2, z3⟩ := pu_rn_f b1 hz
            obtain ⟨y1, y2, y3⟩ := pu_rn_f a1 z1
            dsimp only
            rw [if_pos hz]
            refine ⟨pu_hh2_fv fv (by omega) (by omega), ?_⟩
            rw [pu_hh2_00]
            exact hsz cn
          · rw [if_neg t33]
            have t20 : t.1 = 20 := by omega
            have h8 : F.1 0 3 < 8 := Nat.lt_of_not_le fun h => hx (Or.inr (Or.inl ⟨t20, h⟩))
            obtain ⟨a1, a2⟩ := pu_rs_rn he rs1 d1 0 (F.1 0 0)
            obtain ⟨b1, b2⟩ := pu_rs_rn he a1 a2 (F.1 0 0) (2 * F.1 0 0)
            obtain ⟨c1, c2⟩ := pu_rs_rn he b1 b2 1 41
            refine ⟨c1, fun hz => ?_⟩
            obtain ⟨z1, z2, z3⟩ := pu_rn_f b1 hz
            obtain ⟨y1, y2, y3⟩ := pu_rn_f a1 z1
            obtain ⟨_, x2, x3⟩ := pu_rn_f rs1 y1
            dsimp only
            rw [if_pos hz]
            exact ⟨pu_put_fv fv h8 x3 y2 y3 (by omega), hsz cn⟩
    · rw [if_pos hw]
      exact ⟨Or.inr ⟨ftn 0, rfl⟩, fun h => absurd h (ftn 0)⟩
theorem pu_tt_ne (b : Nat → Nat) (tl p : Nat) : pu_tt b tl p ≠ [] := by unfold pu_tt; exact fun hx => by have := List.append_eq_nil_iff.mp hx; cases this.2
/-- where c clauses have been read -/
def pu_Ms (I : Nat → Nat → Int32) (b : Nat → Nat) (tl c : Nat) (x : pu_A × List (Nat × Nat × Nat) × Nat) : Prop := (x.2.2 = 0 → pu_RS I b tl x.2.1 ∧ pu_Rdd I c x.1 ∧ I 70 14 = nI c ∧ pu_Fv x.1 ∧ 0 < x.1.1 0 0 ∧ I 70 11 = 6) ∧ (x.2.2 ≠ 0 → I 70 9 = nI x.2.2 ∧ x.2.1 = [])
def pu_gx (d c : Nat) (x : pu_A × List (Nat × Nat × Nat) × Nat) : pu_A × List (Nat × Nat × Nat) × Nat := if pu_hk x.2.1 = 4 then pu_rd d c x.1 x.2.1.tail x.2.2 else x
theorem pu_gx_rd (d c : Nat) (F : pu_A) (r : List (Nat × Nat × Nat)) (f : Nat) : pu_rd (d + 1) c F r f = pu_gx d (c + 1) (pu_cla c F r f) := rfl
section PURA
variable {s : List (Nat × Nat)} {R : Nat → Nat → Option Nat} {b : Nat → Nat} {tl : Nat}
theorem pu_m_cl {I : Nat → Nat → Int32} {J : Nat → Nat → Int64} (hM : pu_M s R) {r : List (Nat × Nat × Nat)} {c : Nat} {F : pu_A} (h : pu_RS I b tl r) (h11 : I 70 11 = 6) (h14 : I 70 14 = nI c) (hc : c ≤ 40) (hr : pu_Rdd I c F) (fv : pu_Fv F) (hc0 : c = 0 → F.1 0 3 = 0) (hsz : c ≠ 0 → 0 < F.1 0 0) :
    ∃ I', fb_m_clauseHere 70 (s, I, J, R) = some (pu_b (decide ((pu_cla c F r 0).2.2 = 0)), (s, I', J, R)) ∧ pu_Uf I I' ∧ pu_Ms I' b tl (c + 1) (pu_cla c F r 0) := by
  obtain ⟨I', a1, a2, a3, a4⟩ := pu_m_clause (J := J) hM h h11 h14 hc hr fv hc0 hsz
  obtain ⟨_, _, q, hq, e8, rfl⟩ := h
  obtain ⟨r1, r2⟩ := pu_rs_cla (pu_tt_en b tl q) (Or.inl ⟨rfl, pu_tt_ne b tl q⟩) ⟨0, rfl⟩ fv hc0 hsz
  refine ⟨I', a1, a2, fun hz => ⟨(a3 hz).1, (a3 hz).2.1, (a3 hz).2.2, (r2 hz).1, (r2 hz).2, by rw [a2.2 11 (by decide) (by decide) (by decide) (by decide)]; exact h11⟩, fun hz => ⟨a4 hz, ?_⟩⟩
  rcases r1 with ⟨x, _⟩ | ⟨_, x⟩
  · exact absurd x hz
  · exact x
theorem pu_m_readsAll_l (hM : pu_M s R) : ∀ d c n (I : Nat → Nat → Int32) (J : Nat → Nat → Int64) x, c + d = 41 → 0 < c → d < n → (d = 0 → x.2.1 = []) → pu_Ms I b tl c x →
    ∃ I' c', fl_m_readsAll_21 n 70 (pu_b (decide (x.2.2 = 0))) (s, I, J, R) = some (70, pu_b (decide ((pu_gx d c x).2.2 = 0)), (s, I', J, R)) ∧ pu_Uf I I' ∧ 0 < c' ∧ pu_Ms I' b tl c' (pu_gx d c x) := by
  intro d
  induction d with
  | zero =>
    intro c n I J x hc c0 hn h0 h
    obtain ⟨n, rfl⟩ : ∃ z, n = z + 1 := ⟨n - 1, by omega⟩
    have hx := h0 rfl
    have hz : x.2.2 ≠ 0 := fun hz => by
      obtain ⟨_, _, q, _, _, e⟩ := (h.1 hz).1
      rw [hx] at e
      exact pu_tt_ne b tl q e.symm
    have e : pu_gx 0 c x = x := by unfold pu_gx; rw [if_neg (by rw [hx]; decide)]
    rw [e, decide_eq_false hz]
    refine ⟨I, c, ?_, pu_Uf.rf, c0, h⟩
    rw [fl_m_readsAll_21.eq_2, if_pos (by decide)]
  | succ d ih =>
    intro c n I J x hc c0 hn h0 h
    obtain ⟨n, rfl⟩ : ∃ z, n = z + 1 := ⟨n - 1, by omega⟩
    by_cases hz : x.2.2 = 0
    · obtain ⟨⟨hb, h9, q, hq, e8, er⟩, rd, h14, fv, sz, h11⟩ := h.1 hz
      obtain ⟨I1, a1, a2, a3⟩ := pu_m_see (J := J) hM hb hq e8
      have hs := pu_sp_le b hq
      have h32 : pu_sp b tl q < tl → b (pu_sp b tl q) ≠ 32 := fun hx => pu_sp_ne hq hx
      rw [pu_tt_sp b hq] at er
      generalize pu_sp b tl q = p at *
      have h400 := hb.2.1
      have v59 : ((if p < tl then nI (b p) else (-1 : Int32)) = 59) = (pu_hk x.2.1 = 4) := by
        rw [er]
        by_cases hp : p < tl
        · rw [if_pos hp, show (59 : Int32) = nI 59 from rfl, pu_eqI (by have := (hb.2.2 p hp).1; omega) (by omega)]
          exact propext (pu_hk4 hp (h32 hp)).1.symm
        · rw [if_neg hp, pu_tt_e b (by omega)]
          exact propext ⟨fun h => absurd h (by decide), fun h => absurd h (by show ¬ 0 = 4; decide)⟩
      rw [fl_m_readsAll_21.eq_2, decide_eq_true hz, if_neg (by decide)]
      simp only [pu_on (pu_m70 hM), a1, Option.bind_some, v59]
      by_cases h4 : pu_hk x.2.1 = 4
      · have hp : p < tl := Nat.lt_of_not_le fun hx => by
          rw [er, pu_tt_e b hx] at h4
          revert h4
          show ¬ 0 = 4
          decide
        have b59 : b p = 59 := (pu_hk4 hp (h32 hp)).1.mp (by rw [← er]; exact h4)
        have et := (pu_hk4 hp (h32 hp)).2.2 b59
        rw [if_pos h4]
        have n3 : pu_Nf I (tb_up2 I1 70 8 (nI (p + 1))) := ⟨fun q h1 => by rw [pu_u2p _ _ _ _ h1, a3.1 q h1], fun k h1 => by rw [pu_u2k _ _ _ _ h1, a3.2 k h1]⟩
        have rs2 : pu_RS (tb_up2 I1 70 8 (nI (p + 1))) b tl (pu_tt b tl (p + 1)) := ⟨hb.nf n3, by rw [n3.2 9 (by decide)]; exact h9, p + 1, hp, pu_u2s _ _ _ _, rfl⟩
        obtain ⟨I3, c1, c2, c3⟩ := pu_m_cl (J := J) (c := c) (F := x.1) hM rs2 (by rw [n3.2 11 (by decide)]; exact h11) (by rw [n3.2 14 (by decide)]; exact h14) (by omega) (pu_Rdd_eq (n3.1 76 (by decide)) rd) fv (by omega) (fun _ => sz)
        have eg : pu_gx (d + 1) c x = pu_gx d (c + 1) (pu_cla c x.1 (pu_tt b tl (p + 1)) 0) := by
          have : pu_gx (d + 1) c x = pu_rd (d + 1) c x.1 x.2.1.tail x.2.2 := by unfold pu_gx; rw [if_pos h4]
          rw [this, pu_gx_rd, hz, er, et]
          rfl
        rw [eg]
        obtain ⟨I4, c', g1, g2, g3, g4⟩ := ih (c + 1) n I3 J (pu_cla c x.1 (pu_tt b tl (p + 1)) 0) (by omega) (by omega) (by omega) (fun hd => by have := pu_cla_40 x.1 (pu_tt b tl (p + 1)) 0; rw [show (40 : Nat) = c by omega] at this; exact this) c3
        refine ⟨I4, c', ?_, ((pu_Uf.nf n3).tr c2).tr g2, g3, g4⟩
        simp only [pu_gI (pu_m70 hM), a2, Option.bind_some, pu_R1, pu_pI (pu_m70 hM), pu_on (pu_m70 hM), c1, g1]
      · rw [if_neg h4]
        have e : pu_gx (d + 1) c x = x := by unfold pu_gx; rw [if_neg h4]
        rw [e]
        refine ⟨I1, c, ?_, pu_Uf.nf a3, c0, fun _ => ⟨⟨hb.nf a3, by rw [a3.2 9 (by decide)]; exact h9, p, hs.1, a2, er⟩, pu_Rdd_eq (a3.1 76 (by decide)) rd, by rw [a3.2 14 (by decide)]; exact h14, fv, sz, by rw [a3.2 11 (by decide)]; exact h11⟩, fun hx => absurd hz hx⟩
        rw [decide_eq_true hz]
    · obtain ⟨k1, k2⟩ := h.2 hz
      have e : pu_gx (d + 1) c x = x := by unfold pu_gx; rw [if_neg (by rw [k2]; decide)]
      rw [e, decide_eq_false hz]
      refine ⟨I, c, ?_, pu_Uf.rf, c0, h⟩
      rw [fl_m_readsAll_21.eq_2, if_pos (by decide)]
end PURA
