/-! ===== Runs of the small machine, goal first ===== -/
theorem tb_ex_mono {P : tb_Pg} : ∀ (n : Nat) (d y : Nat) (st : tb_S) (r : Option Value × tb_Hp), tb_ex P n d y st = some r → ∀ n' d', n ≤ n' → d ≤ d' → tb_ex P n' d' y st = some r := by
  intro n
  induction n with
  | zero => intro d y st r h; cases h
  | succ n ih =>
    intro d y st r h n' d' hn hd
    obtain ⟨n', rfl⟩ : ∃ z, n' = z + 1 := ⟨n' - 1, by omega⟩
    unfold tb_ex at h ⊢
    split at h
    · cases h
    · rename_i q hq
      try rw [hq]
      try dsimp only
      split at h
      · cases h
      · rename_i s' hs
        try rw [hs]
        exact ih d y s' r h n' d' (by omega) hd
      · rename_i y' as s' hs
        try rw [hs]
        try dsimp only
        split at h
        · cases h
        · rename_i d1
          obtain ⟨d', rfl⟩ : ∃ z, d' = z + 1 := ⟨d' - 1, by omega⟩
          try dsimp only
          split at h
          · rename_i hlen
            rw [if_pos hlen]
            split at h
            · cases h
            · rename_i v w' hw
              rw [ih d1 y' _ _ hw n' d' (by omega) (by omega)]
              exact ih (d1 + 1) y _ r h n' (d' + 1) (by omega) (by omega)
          · cases h
      · rename_i v w' hs
        try rw [hs]
        exact h
def tb_Ev (P : tb_Pg) (d y : Nat) (st : tb_S) (r : Option Value × tb_Hp) : Prop := ∃ n, tb_ex P n d y st = some r
theorem tb_Ev.up {P : tb_Pg} {d d' y : Nat} {st : tb_S} {r : Option Value × tb_Hp} (h : tb_Ev P d y st r) (hd : d ≤ d') : tb_Ev P d' y st r := by
  obtain ⟨n, h⟩ := h
  exact ⟨n, tb_ex_mono n d y st r h n d' (Nat.le_refl _) hd⟩
section TBV
variable {P : tb_Pg} {d y : Nat} {r : Option Value × tb_Hp} {q : tb_I} {i : Nat} {L : tb_L} {S : List Value} {w : tb_Hp}
theorem tb_E1 {st' : tb_S} (hq : (P.1 y)[i]? = some q) (hs : tb_step P.2.2.1 P.2.2.2 (P.2.1 y) q.2.1 q.2.2.2.1 q.2.2.2.2.1 i L S w = some (.inl st')) (h : tb_Ev P d y st' r) : tb_Ev P d y (i, L, S, w) r := by
  obtain ⟨n, h⟩ := h
  refine ⟨n + 1, ?_⟩
  unfold tb_ex
  dsimp only
  rw [hq]
  dsimp only
  rw [hs]
  exact h
theorem tb_Er {v : Option Value} {w' : tb_Hp} (hq : (P.1 y)[i]? = some q) (hs : tb_step P.2.2.1 P.2.2.2 (P.2.1 y) q.2.1 q.2.2.2.1 q.2.2.2.2.1 i L S w = some (.inr (.inr (v, w')))) : tb_Ev P d y (i, L, S, w) (v, w') := by
  refine ⟨1, ?_⟩
  unfold tb_ex
  dsimp only
  rw [hq]
  dsimp only
  rw [hs]
theorem tb_Ec {y' : Nat} {as : List Value} {s' : tb_S} {v : Option Value} {w' : tb_Hp} (hq : (P.1 y)[i]? = some q) (hs : tb_step P.2.2.1 P.2.2.2 (P.2.1 y) q.2.1 q.2.2.2.1 q.2.2.2.2.1 i L S w = some (.inr (.inl (y', as, s')))) (hl : (as.map fun v => v.category).sum ≤ P.2.1 y') (hc : tb_Ev P d y' (0, tb_ent as, [], s'.2.2.2) (v, w')) (h : tb_Ev P (d + 1) y (s'.1, s'.2.1, v.toList ++ s'.2.2.1, w') r) : tb_Ev P (d + 1) y (i, L, S, w) r := by
  obtain ⟨n1, h1⟩ := hc
  obtain ⟨n2, h2⟩ := h
  refine ⟨max n1 n2 + 1, ?_⟩
  unfold tb_ex
  dsimp only
  rw [hq]
  dsimp only
  rw [hs]
  dsimp only
  rw [if_pos hl, tb_ex_mono n1 d y' _ _ h1 (max n1 n2) d (Nat.le_max_left _ _) (Nat.le_refl _)]
  exact tb_ex_mono n2 (d + 1) y _ _ h2 (max n1 n2) (d + 1) (Nat.le_max_right _ _) (Nat.le_refl _)
/-- k plain steps -/
def tb_sts (P : tb_Pg) (y : Nat) : Nat → tb_S → Option tb_S
  | 0, s => some s
  | k + 1, s => match (P.1 y)[s.1]? with
    | none => none
    | some q => match tb_step P.2.2.1 P.2.2.2 (P.2.1 y) q.2.1 q.2.2.2.1 q.2.2.2.2.1 s.1 s.2.1 s.2.2.1 s.2.2.2 with
      | some (.inl s') => tb_sts P y k s'
      | _ => none
theorem tb_Es {k : Nat} {st' : tb_S} : ∀ {st : tb_S}, tb_sts P y k st = some st' → tb_Ev P d y st' r → tb_Ev P d y st r := by
  induction k with
  | zero => intro st h hv; cases h; exact hv
  | succ k ih =>
    intro st h hv
    obtain ⟨i, L, S, w⟩ := st
    unfold tb_sts at h
    split at h
    · cases h
    · rename_i q hq
      split at h
      · rename_i s' hs
        exact tb_E1 hq hs (ih h hv)
      · cases h
end TBV
/-! the pieces that methods are told in -/
def tb_gI (c k p : Nat) (w : tb_Hp) : Option Int32 := if tb_kd w p == some c then some (w.2.1 p k) else none
def tb_gJ (c k p : Nat) (w : tb_Hp) : Option Int64 := if tb_kd w p == some c then some (w.2.2.1 p k) else none
def tb_gN (c k p : Nat) (w : tb_Hp) : Option Nat := if tb_kd w p == some c then w.2.2.2 p k else none
def tb_pI (c k p : Nat) (v : Int32) (w : tb_Hp) : Option tb_Hp := if tb_kd w p == some c then some (tb_setI w p k v) else none
def tb_pJ (c k p : Nat) (v : Int64) (w : tb_Hp) : Option tb_Hp := if tb_kd w p == some c then some (tb_setJ w p k v) else none
def tb_pR (c k p : Nat) (v : Nat) (w : tb_Hp) : Option tb_Hp := if tb_kd w p == some c then some (tb_setR w p k (some v)) else none
def tb_lI (cs : List Nat) (p : Nat) (j : Int32) (w : tb_Hp) : Option Int32 := match w.1[p]? with
  | some (c, n) => if (cs.contains c && tb_in j n) && (c != 9 || p == 0) then some (w.2.1 p j.toNatClampNeg) else none
  | none => none
def tb_lJ (p : Nat) (j : Int32) (w : tb_Hp) : Option Int64 := match w.1[p]? with
  | some (c, n) => if ([2].contains c && tb_in j n) && (c != 9 || p == 0) then some (w.2.2.1 p j.toNatClampNeg) else none
  | none => none
def tb_lQ (p : Nat) (j : Int32) (w : tb_Hp) : Option (Option Nat) := match w.1[p]? with
  | some (c, n) => if ([4, 5, 6].contains c && tb_in j n) && (c != 9 || p == 0) then some (w.2.2.2 p j.toNatClampNeg) else none
  | none => none
def tb_tI (p : Nat) (j v : Int32) (w : tb_Hp) : Option tb_Hp := match w.1[p]? with
  | some (c, n) => if tb_in j n then (if c = 1 then some (tb_setI w p j.toNatClampNeg v) else none) else none
  | none => none
def tb_tB (p : Nat) (j v : Int32) (w : tb_Hp) : Option tb_Hp := match w.1[p]? with
  | some (c, n) => if tb_in j n then (if c = 0 then some (tb_setI w p j.toNatClampNeg v.toInt8.toInt32) else if c = 3 then some (tb_setI w p j.toNatClampNeg (v &&& 1)) else none) else none
  | none => none
def tb_tJ (p : Nat) (j : Int32) (v : Int64) (w : tb_Hp) : Option tb_Hp := match w.1[p]? with
  | some (c, n) => if tb_in j n then (if c = 2 then some (tb_setJ w p j.toNatClampNeg v) else none) else none
  | none => none
def tb_tR (cmp : Nat → Nat) (p : Nat) (j : Int32) (v : Nat) (w : tb_Hp) : Option tb_Hp := match w.1[p]? with
  | some (c, n) => if (decide (4 ≤ c) && decide (c < 7)) && tb_in j n && (tb_kd w v == some (cmp c)) then some (tb_setR w p j.toNatClampNeg (some v)) else none
  | none => none
def tb_al (p : Nat) (w : tb_Hp) : Option Int32 := match w.1[p]? with
  | some (c, n) => if (decide (c < 7) || c == 9) && (c != 9 || p == 0) then some (Int32.ofNat n) else none
  | none => none
def tb_na (c : Nat) (n : Int32) (w : tb_Hp) : Option tb_Hp := if !(decide (n < 0)) && decide (n.toNatClampNeg ≤ 100000) then some (tb_new w c n.toNatClampNeg) else none
def tb_cy (n dp : Int32) (pd : Nat) (sp : Int32) (p : Nat) (w : tb_Hp) : Option tb_Hp := match w.1[p]?, w.1[pd]? with
  | some (1, n0), some (1, n1) => if ((!(decide (sp < 0)) && !(decide (dp < 0))) && !(decide (n < 0))) && ((decide (sp.toNatClampNeg + n.toNatClampNeg ≤ n0) && decide (dp.toNatClampNeg + n.toNatClampNeg ≤ n1))) then some (tb_setA w pd (va_cpy (w.2.1 p) (w.2.1 pd) sp.toNatClampNeg dp.toNatClampNeg n.toNatClampNeg)) else none
  | _, _ => none
section TBW
variable {P : tb_Pg} {d y : Nat} {r : Option Value × tb_Hp} {i pc len x : Nat} {res ps : List Nat} {val : Value} {L : tb_L} {S : List Value} {w w' : tb_Hp}
theorem tb_e_gI {c k p : Nat} {v : Int32} (hq : (P.1 y)[i]? = some (pc, .getfield x, len, [c, k, 0], val, ps)) (hv : tb_gI c k p w = some v) (h : tb_Ev P d y (i + 1, L, .int v :: S, w) r) : tb_Ev P d y (i, L, .ref p :: S, w) r := by
  unfold tb_gI at hv
  split at hv
  · rename_i hk
    cases hv
    exact tb_E1 hq (by simp only [tb_step, tb_gtf, if_pos hk]; rfl) h
  · cases hv
theorem tb_e_gJ {c k p : Nat} {v : Int64} (hq : (P.1 y)[i]? = some (pc, .getfield x, len, [c, k, 1], val, ps)) (hv : tb_gJ c k p w = some v) (h : tb_Ev P d y (i + 1, L, .long v :: S, w) r) : tb_Ev P d y (i, L, .ref p :: S, w) r := by
  unfold tb_gJ at hv
  split at hv
  · rename_i hk
    cases hv
    exact tb_E1 hq (by simp only [tb_step, tb_gtf, if_pos hk]; rfl) h
  · cases hv
theorem tb_e_gN {c k p v : Nat} (hq : (P.1 y)[i]? = some (pc, .getfield x, len, [c, k, 2], val, ps)) (hv : tb_gN c k p w = some v) (h : tb_Ev P d y (i + 1, L, .ref v :: S, w) r) : tb_Ev P d y (i, L, .ref p :: S, w) r := by
  unfold tb_gN at hv
  split at hv
  · rename_i hk
    exact tb_E1 hq (by simp only [tb_step, tb_gtf, if_pos hk, tb_val, hv, va_rf]) h
  · cases hv
theorem tb_e_pI {c k p : Nat} {v : Int32} (hq : (P.1 y)[i]? = some (pc, .putfield x, len, [c, k, 0], val, ps)) (hv : tb_pI c k p v w = some w') (h : tb_Ev P d y (i + 1, L, S, w') r) : tb_Ev P d y (i, L, .int v :: .ref p :: S, w) r := by
  unfold tb_pI at hv
  split at hv
  · rename_i hk
    cases hv
    exact tb_E1 hq (by simp only [tb_step, tb_ptf, if_pos hk]) h
  · cases hv
theorem tb_e_pJ {c k p : Nat} {v : Int64} (hq : (P.1 y)[i]? = some (pc, .putfield x, len, [c, k, 1], val, ps)) (hv : tb_pJ c k p v w = some w') (h : tb_Ev P d y (i + 1, L, S, w') r) : tb_Ev P d y (i, L, .long v :: .ref p :: S, w) r := by
  unfold tb_pJ at hv
  split at hv
  · rename_i hk
    cases hv
    exact tb_E1 hq (by simp only [tb_step, tb_ptf, if_pos hk]) h
  · cases hv
theorem tb_e_pR {c k p v : Nat} (hq : (P.1 y)[i]? = some (pc, .putfield x, len, [c, k, 2], val, ps)) (hv : tb_pR c k p v w = some w') (h : tb_Ev P d y (i + 1, L, S, w') r) : tb_Ev P d y (i, L, .ref v :: .ref p :: S, w) r := by
  unfold tb_pR at hv
  split at hv
  · rename_i hk
    cases hv
    exact tb_E1 hq (by simp only [tb_step, tb_ptf, if_pos hk]) h
  · cases hv
theorem tb_e_lI {cs : List Nat} {p : Nat} {j v : Int32} {ins : Instr} (hq : (P.1 y)[i]? = some (pc, ins, len, res, val, ps)) (hins : (ins = .iaload ∧ cs = [1, 9]) ∨ (ins = .baload ∧ cs = [0, 3])) (hv : tb_lI cs p j w = some v) (h : tb_Ev P d y (i + 1, L, .int v :: S, w) r) : tb_Ev P d y (i, L, .int j :: .ref p :: S, w) r := by
  unfold tb_lI at hv
  split at hv
  · rename_i c n hs
    split at hv
    · rename_i hg
      cases hv
      rcases hins with ⟨rfl, rfl⟩ | ⟨rfl, rfl⟩
      · exact tb_E1 hq (by simp only [tb_step, tb_alo, hs, if_pos hg]; rfl) h
      · exact tb_E1 hq (by simp only [tb_step, tb_alo, hs, if_pos hg]; rfl) h
    · cases hv
  · cases hv
theorem tb_e_lJ {p : Nat} {j : Int32} {v : Int64} (hq : (P.1 y)[i]? = some (pc, .laload, len, res, val, ps)) (hv : tb_lJ p j w = some v) (h : tb_Ev P d y (i + 1, L, .long v :: S, w) r) : tb_Ev P d y (i, L, .int j :: .ref p :: S, w) r := by
  unfold tb_lJ at hv
  split at hv
  · rename_i c n hs
    split at hv
    · rename_i hg
      cases hv
      exact tb_E1 hq (by simp only [tb_step, tb_alo, hs, if_pos hg]; rfl) h
    · cases hv
  · cases hv
theorem tb_e_lQ {p : Nat} {j : Int32} {v : Option Nat} (hq : (P.1 y)[i]? = some (pc, .aaload, len, res, val, ps)) (hv : tb_lQ p j w = some v) (h : tb_Ev P d y (i + 1, L, va_rf v :: S, w) r) : tb_Ev P d y (i, L, .int j :: .ref p :: S, w) r := by
  unfold tb_lQ at hv
  split at hv
  · rename_i c n hs
    split at hv
    · rename_i hg
      cases hv
      exact tb_E1 hq (by simp only [tb_step, tb_alo, hs, if_pos hg]; rfl) h
    · cases hv
  · cases hv
theorem tb_e_tI {p : Nat} {j v : Int32} (hq : (P.1 y)[i]? = some (pc, .iastore, len, res, val, ps)) (hv : tb_tI p j v w = some w') (h : tb_Ev P d y (i + 1, L, S, w') r) : tb_Ev P d y (i, L, .int v :: .int j :: .ref p :: S, w) r := by
  unfold tb_tI at hv
  split at hv
  · rename_i c n hs
    split at hv
    · rename_i hg
      split at hv
      · rename_i hc
        subst hc
        cases hv
        exact tb_E1 hq (by simp only [tb_step, tb_ast, hs, if_pos hg]) h
      · cases hv
    · cases hv
  · cases hv
theorem tb_e_tB {p : Nat} {j v : Int32} (hq : (P.1 y)[i]? = some (pc, .bastore, len, res, val, ps)) (hv : tb_tB p j v w = some w') (h : tb_Ev P d y (i + 1, L, S, w') r) : tb_Ev P d y (i, L, .int v :: .int j :: .ref p :: S, w) r := by
  unfold tb_tB at hv
  split at hv
  · rename_i c n hs
    split at hv
    · rename_i hg
      split at hv
      · rename_i hc
        subst hc
        cases hv
        exact tb_E1 hq (by simp only [tb_step, tb_ast, hs, if_pos hg]) h
      · split at hv
        · rename_i hc
          subst hc
          cases hv
          exact tb_E1 hq (by simp only [tb_step, tb_ast, hs, if_pos hg]) h
        · cases hv
    · cases hv
  · cases hv
theorem tb_e_tJ {p : Nat} {j : Int32} {v : Int64} (hq : (P.1 y)[i]? = some (pc, .lastore, len, res, val, ps)) (hv : tb_tJ p j v w = some w') (h : tb_Ev P d y (i + 1, L, S, w') r) : tb_Ev P d y (i, L, .long v :: .int j :: .ref p :: S, w) r := by
  unfold tb_tJ at hv
  split at hv
  · rename_i c n hs
    split at hv
    · rename_i hg
      split at hv
      · rename_i hc
        subst hc
        cases hv
        exact tb_E1 hq (by simp only [tb_step, tb_ast, hs, if_pos hg]) h
      · cases hv
    · cases hv
  · cases hv
theorem tb_e_tR {p v : Nat} {j : Int32} (hq : (P.1 y)[i]? = some (pc, .aastore, len, res, val, ps)) (hv : tb_tR P.2.2.1 p j v w = some w') (h : tb_Ev P d y (i + 1, L, S, w') r) : tb_Ev P d y (i, L, .ref v :: .int j :: .ref p :: S, w) r := by
  unfold tb_tR at hv
  split at hv
  · rename_i c n hs
    split at hv
    · rename_i hg
      cases hv
      exact tb_E1 hq (by simp only [tb_step, tb_aas, hs, if_pos hg]) h
    · cases hv
  · cases hv
theorem tb_e_al {p : Nat} {v : Int32} (hq : (P.1 y)[i]? = some (pc, .arraylength, len, res, val, ps)) (hv : tb_al p w = some v) (h : tb_Ev P d y (i + 1, L, .int v :: S, w) r) : tb_Ev P d y (i, L, .ref p :: S, w) r := by
  unfold tb_al at hv
  split at hv
  · rename_i c n hs
    split at hv
    · rename_i hg
      cases hv
      exact tb_E1 hq (by simp only [tb_step, tb_aln, hs, if_pos hg]) h
    · cases hv
  · cases hv
theorem tb_e_na {c : Nat} {n : Int32} {ins : Instr} (hq : (P.1 y)[i]? = some (pc, ins, len, [c], val, ps)) (hins : (∃ t, ins = .newarray t) ∨ ∃ t, ins = .anewarray t) (hv : tb_na c n w = some w') (h : tb_Ev P d y (i + 1, L, .ref w.1.length :: S, w') r) : tb_Ev P d y (i, L, .int n :: S, w) r := by
  unfold tb_na at hv
  split at hv
  · rename_i hg
    cases hv
    rcases hins with ⟨t, rfl⟩ | ⟨t, rfl⟩
    · exact tb_E1 hq (by simp only [tb_step, tb_nwa, if_pos hg]) h
    · exact tb_E1 hq (by simp only [tb_step, tb_nwa, if_pos hg]) h
  · cases hv
theorem tb_e_cy {n dp sp : Int32} {pd p : Nat} (hq : (P.1 y)[i]? = some (pc, .invokestatic x, len, [903], val, ps)) (hf : tb_few S = true) (hv : tb_cy n dp pd sp p w = some w') (h : tb_Ev P d y (i + 1, L, S, w') r) : tb_Ev P d y (i, L, .int n :: .int dp :: .ref pd :: .int sp :: .ref p :: S, w) r := by
  unfold tb_cy at hv
  split at hv
  · rename_i n0 n1 hs0 hs1
    split at hv
    · rename_i hg
      cases hv
      simp only [Bool.and_eq_true] at hg
      exact tb_E1 hq (by simp only [tb_step, if_true, tb_cpy, hs0, hs1, hg, hf, Bool.and_self]) h
    · cases hv
  · cases hv
end TBW
