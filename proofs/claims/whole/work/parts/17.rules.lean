/-! ===== Branches, divisions, calls, ends of the small machine ===== -/
section TBX
variable {P : tb_Pg} {d y : Nat} {r : Option Value × tb_Hp} {i pc len x : Nat} {res ps : List Nat} {val : Value} {L : tb_L} {S : List Value} {w w' : tb_Hp}
theorem tb_b_ieq {u : Int32} {t : Nat} {off : Int} (hq : (P.1 y)[i]? = some (pc, .ifCond .eq off, len, [t], val, ps)) (h1 : u = 0 → tb_Ev P d y (t, L, S, w) r) (h2 : ¬ (u = 0) → tb_Ev P d y (i + 1, L, S, w) r) : tb_Ev P d y (i, L, .int u :: S, w) r := by
  by_cases hc : u = 0
  · exact tb_E1 hq (by simp only [tb_step, tb_jmp, show tb_cnd .eq u 0 = true from decide_eq_true hc, cond_true, cond_false]) (h1 hc)
  · exact tb_E1 hq (by simp only [tb_step, tb_jmp, show tb_cnd .eq u 0 = false from decide_eq_false hc, cond_true, cond_false]) (h2 hc)
theorem tb_b_ceq {u v : Int32} {t : Nat} {off : Int} (hq : (P.1 y)[i]? = some (pc, .if_icmp .eq off, len, [t], val, ps)) (h1 : u = v → tb_Ev P d y (t, L, S, w) r) (h2 : ¬ (u = v) → tb_Ev P d y (i + 1, L, S, w) r) : tb_Ev P d y (i, L, .int v :: .int u :: S, w) r := by
  by_cases hc : u = v
  · exact tb_E1 hq (by simp only [tb_step, tb_jmp, show tb_cnd .eq u v = true from decide_eq_true hc, cond_true, cond_false]) (h1 hc)
  · exact tb_E1 hq (by simp only [tb_step, tb_jmp, show tb_cnd .eq u v = false from decide_eq_false hc, cond_true, cond_false]) (h2 hc)
theorem tb_b_ine {u : Int32} {t : Nat} {off : Int} (hq : (P.1 y)[i]? = some (pc, .ifCond .ne off, len, [t], val, ps)) (h1 : u = 0 → tb_Ev P d y (i + 1, L, S, w) r) (h2 : ¬ (u = 0) → tb_Ev P d y (t, L, S, w) r) : tb_Ev P d y (i, L, .int u :: S, w) r := by
  by_cases hc : u = 0
  · exact tb_E1 hq (by simp only [tb_step, tb_jmp, show tb_cnd .ne u 0 = false from decide_eq_false (fun hz => hz hc), cond_true, cond_false]) (h1 hc)
  · exact tb_E1 hq (by simp only [tb_step, tb_jmp, show tb_cnd .ne u 0 = true from decide_eq_true hc, cond_true, cond_false]) (h2 hc)
theorem tb_b_cne {u v : Int32} {t : Nat} {off : Int} (hq : (P.1 y)[i]? = some (pc, .if_icmp .ne off, len, [t], val, ps)) (h1 : u = v → tb_Ev P d y (i + 1, L, S, w) r) (h2 : ¬ (u = v) → tb_Ev P d y (t, L, S, w) r) : tb_Ev P d y (i, L, .int v :: .int u :: S, w) r := by
  by_cases hc : u = v
  · exact tb_E1 hq (by simp only [tb_step, tb_jmp, show tb_cnd .ne u v = false from decide_eq_false (fun hz => hz hc), cond_true, cond_false]) (h1 hc)
  · exact tb_E1 hq (by simp only [tb_step, tb_jmp, show tb_cnd .ne u v = true from decide_eq_true hc, cond_true, cond_false]) (h2 hc)
theorem tb_b_ilt {u : Int32} {t : Nat} {off : Int} (hq : (P.1 y)[i]? = some (pc, .ifCond .lt off, len, [t], val, ps)) (h1 : u < 0 → tb_Ev P d y (t, L, S, w) r) (h2 : ¬ (u < 0) → tb_Ev P d y (i + 1, L, S, w) r) : tb_Ev P d y (i, L, .int u :: S, w) r := by
  by_cases hc : u < 0
  · exact tb_E1 hq (by simp only [tb_step, tb_jmp, show tb_cnd .lt u 0 = true from decide_eq_true hc, cond_true, cond_false]) (h1 hc)
  · exact tb_E1 hq (by simp only [tb_step, tb_jmp, show tb_cnd .lt u 0 = false from decide_eq_false hc, cond_true, cond_false]) (h2 hc)
theorem tb_b_clt {u v : Int32} {t : Nat} {off : Int} (hq : (P.1 y)[i]? = some (pc, .if_icmp .lt off, len, [t], val, ps)) (h1 : u < v → tb_Ev P d y (t, L, S, w) r) (h2 : ¬ (u < v) → tb_Ev P d y (i + 1, L, S, w) r) : tb_Ev P d y (i, L, .int v :: .int u :: S, w) r := by
  by_cases hc : u < v
  · exact tb_E1 hq (by simp only [tb_step, tb_jmp, show tb_cnd .lt u v = true from decide_eq_true hc, cond_true, cond_false]) (h1 hc)
  · exact tb_E1 hq (by simp only [tb_step, tb_jmp, show tb_cnd .lt u v = false from decide_eq_false hc, cond_true, cond_false]) (h2 hc)
theorem tb_b_ige {u : Int32} {t : Nat} {off : Int} (hq : (P.1 y)[i]? = some (pc, .ifCond .ge off, len, [t], val, ps)) (h1 : u < 0 → tb_Ev P d y (i + 1, L, S, w) r) (h2 : ¬ (u < 0) → tb_Ev P d y (t, L, S, w) r) : tb_Ev P d y (i, L, .int u :: S, w) r := by
  by_cases hc : u < 0
  · exact tb_E1 hq (by simp only [tb_step, tb_jmp, show tb_cnd .ge u 0 = false from decide_eq_false (Int32.not_le.mpr hc), cond_true, cond_false]) (h1 hc)
  · exact tb_E1 hq (by simp only [tb_step, tb_jmp, show tb_cnd .ge u 0 = true from decide_eq_true (Int32.not_lt.mp hc), cond_true, cond_false]) (h2 hc)
theorem tb_b_cge {u v : Int32} {t : Nat} {off : Int} (hq : (P.1 y)[i]? = some (pc, .if_icmp .ge off, len, [t], val, ps)) (h1 : u < v → tb_Ev P d y (i + 1, L, S, w) r) (h2 : ¬ (u < v) → tb_Ev P d y (t, L, S, w) r) : tb_Ev P d y (i, L, .int v :: .int u :: S, w) r := by
  by_cases hc : u < v
  · exact tb_E1 hq (by simp only [tb_step, tb_jmp, show tb_cnd .ge u v = false from decide_eq_false (Int32.not_le.mpr hc), cond_true, cond_false]) (h1 hc)
  · exact tb_E1 hq (by simp only [tb_step, tb_jmp, show tb_cnd .ge u v = true from decide_eq_true (Int32.not_lt.mp hc), cond_true, cond_false]) (h2 hc)
theorem tb_b_igt {u : Int32} {t : Nat} {off : Int} (hq : (P.1 y)[i]? = some (pc, .ifCond .gt off, len, [t], val, ps)) (h1 : u ≤ 0 → tb_Ev P d y (i + 1, L, S, w) r) (h2 : ¬ (u ≤ 0) → tb_Ev P d y (t, L, S, w) r) : tb_Ev P d y (i, L, .int u :: S, w) r := by
  by_cases hc : u ≤ 0
  · exact tb_E1 hq (by simp only [tb_step, tb_jmp, show tb_cnd .gt u 0 = false from decide_eq_false (Int32.not_lt.mpr hc), cond_true, cond_false]) (h1 hc)
  · exact tb_E1 hq (by simp only [tb_step, tb_jmp, show tb_cnd .gt u 0 = true from decide_eq_true (Int32.not_le.mp hc), cond_true, cond_false]) (h2 hc)
theorem tb_b_cgt {u v : Int32} {t : Nat} {off : Int} (hq : (P.1 y)[i]? = some (pc, .if_icmp .gt off, len, [t], val, ps)) (h1 : u ≤ v → tb_Ev P d y (i + 1, L, S, w) r) (h2 : ¬ (u ≤ v) → tb_Ev P d y (t, L, S, w) r) : tb_Ev P d y (i, L, .int v :: .int u :: S, w) r := by
  by_cases hc : u ≤ v
  · exact tb_E1 hq (by simp only [tb_step, tb_jmp, show tb_cnd .gt u v = false from decide_eq_false (Int32.not_lt.mpr hc), cond_true, cond_false]) (h1 hc)
  · exact tb_E1 hq (by simp only [tb_step, tb_jmp, show tb_cnd .gt u v = true from decide_eq_true (Int32.not_le.mp hc), cond_true, cond_false]) (h2 hc)
theorem tb_b_ile {u : Int32} {t : Nat} {off : Int} (hq : (P.1 y)[i]? = some (pc, .ifCond .le off, len, [t], val, ps)) (h1 : 0 < u → tb_Ev P d y (i + 1, L, S, w) r) (h2 : ¬ (0 < u) → tb_Ev P d y (t, L, S, w) r) : tb_Ev P d y (i, L, .int u :: S, w) r := by
  by_cases hc : 0 < u
  · exact tb_E1 hq (by simp only [tb_step, tb_jmp, show tb_cnd .le u 0 = false from decide_eq_false (Int32.not_le.mpr hc), cond_true, cond_false]) (h1 hc)
  · exact tb_E1 hq (by simp only [tb_step, tb_jmp, show tb_cnd .le u 0 = true from decide_eq_true (Int32.not_lt.mp hc), cond_true, cond_false]) (h2 hc)
theorem tb_b_cle {u v : Int32} {t : Nat} {off : Int} (hq : (P.1 y)[i]? = some (pc, .if_icmp .le off, len, [t], val, ps)) (h1 : v < u → tb_Ev P d y (i + 1, L, S, w) r) (h2 : ¬ (v < u) → tb_Ev P d y (t, L, S, w) r) : tb_Ev P d y (i, L, .int v :: .int u :: S, w) r := by
  by_cases hc : v < u
  · exact tb_E1 hq (by simp only [tb_step, tb_jmp, show tb_cnd .le u v = false from decide_eq_false (Int32.not_le.mpr hc), cond_true, cond_false]) (h1 hc)
  · exact tb_E1 hq (by simp only [tb_step, tb_jmp, show tb_cnd .le u v = true from decide_eq_true (Int32.not_lt.mp hc), cond_true, cond_false]) (h2 hc)
theorem tb_b_null {v : Option Nat} {t : Nat} {off : Int} (hq : (P.1 y)[i]? = some (pc, .ifnull off, len, [t], val, ps)) (h1 : v = none → tb_Ev P d y (t, L, S, w) r) (h2 : ∀ u, v = some u → tb_Ev P d y (i + 1, L, S, w) r) : tb_Ev P d y (i, L, va_rf v :: S, w) r := by
  cases v with
  | none => exact tb_E1 hq rfl (h1 rfl)
  | some u => exact tb_E1 hq rfl (h2 u rfl)
theorem tb_b_nonnull {v : Option Nat} {t : Nat} {off : Int} (hq : (P.1 y)[i]? = some (pc, .ifnonnull off, len, [t], val, ps)) (h1 : v = none → tb_Ev P d y (i + 1, L, S, w) r) (h2 : ∀ u, v = some u → tb_Ev P d y (t, L, S, w) r) : tb_Ev P d y (i, L, va_rf v :: S, w) r := by
  cases v with
  | none => exact tb_E1 hq rfl (h1 rfl)
  | some u => exact tb_E1 hq rfl (h2 u rfl)
theorem tb_q_aload {v : Option Nat} {k : Nat} {ins : Instr} (hq : (P.1 y)[i]? = some (pc, ins, len, res, val, ps)) (hins : ins = .aload k ∨ ∃ f : Fin 4, ins = .aload_n f ∧ f.val = k) (hl : tb_ld L k = some (va_rf v)) (h : tb_Ev P d y (i + 1, L, va_rf v :: S, w) r) : tb_Ev P d y (i, L, S, w) r := by
  refine tb_E1 hq ?_ h
  rcases hins with rfl | ⟨f, rfl, rfl⟩
  · simp only [tb_step, tb_lod, hl]
    cases v <;> rfl
  · simp only [tb_step, tb_lod, hl]
    cases v <;> rfl
theorem tb_q_astore {v : Option Nat} {k : Nat} {L' : tb_L} {ins : Instr} (hq : (P.1 y)[i]? = some (pc, ins, len, res, val, ps)) (hins : ins = .astore k ∨ ∃ f : Fin 4, ins = .astore_n f ∧ f.val = k) (hk : k < P.2.1 y) (hl : tb_s1 L k (va_rf v) = L') (h : tb_Ev P d y (i + 1, L', S, w) r) : tb_Ev P d y (i, L, va_rf v :: S, w) r := by
  subst hl
  refine tb_E1 hq ?_ h
  rcases hins with rfl | ⟨f, rfl, rfl⟩
  · cases v <;> simp only [tb_step, tb_sto, va_rf, if_pos hk]
  · cases v <;> simp only [tb_step, tb_sto, va_rf, if_pos hk]
theorem tb_q_istore {v : Int32} {k : Nat} {L' : tb_L} {ins : Instr} (hq : (P.1 y)[i]? = some (pc, ins, len, res, val, ps)) (hins : ins = .istore k ∨ ∃ f : Fin 4, ins = .istore_n f ∧ f.val = k) (hk : k < P.2.1 y) (hl : tb_s1 L k (.int v) = L') (h : tb_Ev P d y (i + 1, L', S, w) r) : tb_Ev P d y (i, L, .int v :: S, w) r := by
  subst hl
  refine tb_E1 hq ?_ h
  rcases hins with rfl | ⟨f, rfl, rfl⟩
  · simp only [tb_step, tb_sto, if_pos hk]
  · simp only [tb_step, tb_sto, if_pos hk]
theorem tb_q_iinc {u v : Int32} {k : Nat} {z : Int} {L' : tb_L} (hq : (P.1 y)[i]? = some (pc, .iinc k z, len, res, .int v, ps)) (hk : k < P.2.1 y) (hu : tb_ld L k = some (.int u)) (hl : tb_s1 L k (.int (u + v)) = L') (h : tb_Ev P d y (i + 1, L', S, w) r) : tb_Ev P d y (i, L, S, w) r := by
  subst hl
  exact tb_E1 hq (by simp only [tb_step, hu, if_pos hk]) h
theorem tb_cR (a : Nat) : (Value.ref a).category = 1 := rfl
theorem tb_cI (x : Int32) : (Value.int x).category = 1 := rfl
theorem tb_cJ (x : Int64) : (Value.long x).category = 2 := rfl
theorem tb_cT (a : Nat) : (Value.retAddr a).category = 1 := rfl
theorem tb_catq (v : Option Nat) : (va_rf v).category = 1 := by cases v <;> rfl
theorem tb_e_idiv {u v : Int32} (hq : (P.1 y)[i]? = some (pc, .idiv, len, res, val, ps)) (hz : ¬ v = 0) (h : tb_Ev P d y (i + 1, L, .int (u / v) :: S, w) r) : tb_Ev P d y (i, L, .int v :: .int u :: S, w) r := tb_E1 hq (by simp only [tb_step, tb_dbn, if_neg hz]) h
theorem tb_e_irem {u v : Int32} (hq : (P.1 y)[i]? = some (pc, .irem, len, res, val, ps)) (hz : ¬ v = 0) (h : tb_Ev P d y (i + 1, L, .int (u - u / v * v) :: S, w) r) : tb_Ev P d y (i, L, .int v :: .int u :: S, w) r := tb_E1 hq (by simp only [tb_step, tb_dbn, if_neg hz]) h
theorem tb_e_ldiv {u v : Int64} (hq : (P.1 y)[i]? = some (pc, .ldiv, len, res, val, ps)) (hz : ¬ v = 0) (h : tb_Ev P d y (i + 1, L, .long (u / v) :: S, w) r) : tb_Ev P d y (i, L, .long v :: .long u :: S, w) r := tb_E1 hq (by simp only [tb_step, tb_ldb, if_neg hz]) h
theorem tb_e_lrem {u v : Int64} (hq : (P.1 y)[i]? = some (pc, .lrem, len, res, val, ps)) (hz : ¬ v = 0) (h : tb_Ev P d y (i + 1, L, .long (u - u / v * v) :: S, w) r) : tb_Ev P d y (i, L, .long v :: .long u :: S, w) r := tb_E1 hq (by simp only [tb_step, tb_ldb, if_neg hz]) h
/-- a receiver of that kind -/
def tb_on {α : Type} (c p : Nat) (w : tb_Hp) (t : Option α) : Option α := if tb_kd w p == some c then t else none
theorem tb_on_some {α : Type} {c p : Nat} {w : tb_Hp} {t : Option α} {v : α} (h : tb_on c p w t = some v) : (tb_kd w p == some c) = true ∧ t = some v := by
  unfold tb_on at h
  split at h
  · rename_i hk
    exact ⟨hk, h⟩
  · cases h
theorem tb_e_cv {y' n c p : Nat} {as S2 : List Value} {v : Option Value} {ins : Instr} (hq : (P.1 y)[i]? = some (pc, ins, len, [y', n, c], val, ps)) (hins : (∃ x, ins = .invokevirtual x) ∨ ∃ x, ins = .invokespecial x) (hd : S.drop n = .ref p :: S2) (ht : (S.take n).reverse = as) (hn : n ≤ S.length) (hf : tb_few S2 = true) (hl : ((Value.ref p :: as).map fun v => v.category).sum ≤ P.2.1 y') (hk : (tb_kd w p == some c) = true) (hc : tb_Ev P d y' (0, tb_ent (.ref p :: as), [], w) (v, w')) (h : tb_Ev P (d + 1) y (i + 1, L, v.toList ++ S2, w') r) : tb_Ev P (d + 1) y (i, L, S, w) r := by
  have hs : tb_ivk [y', n, c] i L S w = some (.inr (.inl (y', .ref p :: as, (i + 1, L, S2, w)))) := by
    simp only [tb_ivk, hd, hf, hk, ht, hn, decide_true, Bool.and_self, if_true]
  rcases hins with ⟨x, rfl⟩ | ⟨x, rfl⟩
  · exact tb_Ec hq (by simp only [tb_step]; rw [if_neg (by simp), if_neg (by simp)]; exact hs) hl hc h
  · exact tb_Ec hq (by simp only [tb_step]; rw [if_neg (by simp)]; exact hs) hl hc h
theorem tb_e_cs {y' n : Nat} {as S2 : List Value} {v : Option Value} (hq : (P.1 y)[i]? = some (pc, .invokestatic x, len, [y', n], val, ps)) (hd : S.drop n = S2) (ht : (S.take n).reverse = as) (hn : n ≤ S.length) (hf : tb_few S2 = true) (hl : (as.map fun v => v.category).sum ≤ P.2.1 y') (hc : tb_Ev P d y' (0, tb_ent as, [], w) (v, w')) (h : tb_Ev P (d + 1) y (i + 1, L, v.toList ++ S2, w') r) : tb_Ev P (d + 1) y (i, L, S, w) r := by
  have hs : tb_ivs [y', n] i L S w = some (.inr (.inl (y', as, (i + 1, L, S2, w)))) := by
    simp only [tb_ivs, hd, hf, ht, hn, decide_true, Bool.and_self, if_true]
  exact tb_Ec hq (by simp only [tb_step]; rw [if_neg (by simp)]; exact hs) hl hc h
theorem tb_e_ob {p : Nat} (hq : (P.1 y)[i]? = some (pc, .invokespecial x, len, [900], val, ps)) (hf : tb_few S = true) (h : tb_Ev P d y (i + 1, L, S, w) r) : tb_Ev P d y (i, L, .ref p :: S, w) r := tb_E1 hq (by simp only [tb_step, if_true, tb_obi, hf]) h
/-- a boolean answer is 0 or 1 -/
def tb_z (x : Int32) (w : tb_Hp) : Option (Int32 × tb_Hp) := if x = 0 ∨ x = 1 then some (x, w) else none
theorem tb_r_z {u v : Int32} (hq : (P.1 y)[i]? = some (pc, .ireturn, len, [1], val, ps)) (h : tb_z u w = some (v, w')) : tb_Ev P d y (i, L, [.int u], w) (some (.int v), w') := by
  unfold tb_z at h
  split at h
  · rename_i hz
    cases h
    exact tb_Er hq (by simp only [tb_step, tb_ret, if_pos hz])
  · cases h
theorem tb_r_q {v : Option Nat} (hq : (P.1 y)[i]? = some (pc, .areturn, len, res, val, ps)) : tb_Ev P d y (i, L, [va_rf v], w) (some (va_rf v), w) := by
  cases v with
  | none => exact tb_Er hq rfl
  | some u => exact tb_Er hq rfl
/-- a text's length and signs -/
def tb_tl (tx : Nat → List Int32) (k : Nat) : Option Int32 := if !(tx k).isEmpty then some (Int32.ofNat (tx k).length) else none
def tb_tc (tx : Nat → List Int32) (k : Nat) (j : Int32) : Option Int32 := if tb_in j (tx k).length then some ((tx k).getD j.toNatClampNeg 0) else none
theorem tb_e_tl {k : Nat} {v : Int32} (hq : (P.1 y)[i]? = some (pc, .invokevirtual x, len, [901], val, ps)) (hf : tb_few S = true) (hv : tb_tl P.2.2.2 k = some v) (h : tb_Ev P d y (i + 1, L, .int v :: S, w) r) : tb_Ev P d y (i, L, .retAddr k :: S, w) r := by
  unfold tb_tl at hv
  split at hv
  · rename_i hg
    cases hv
    exact tb_E1 hq (by simp only [tb_step, if_true, tb_txl, hg, hf, Bool.and_self]) h
  · cases hv
theorem tb_e_tc {k : Nat} {j v : Int32} (hq : (P.1 y)[i]? = some (pc, .invokevirtual x, len, [902], val, ps)) (hf : tb_few S = true) (hv : tb_tc P.2.2.2 k j = some v) (h : tb_Ev P d y (i + 1, L, .int v :: S, w) r) : tb_Ev P d y (i, L, .int j :: .retAddr k :: S, w) r := by
  unfold tb_tc at hv
  split at hv
  · rename_i hg
    cases hv
    exact tb_E1 hq (by simp only [tb_step]; rw [if_neg (by simp)]; simp only [if_true, tb_txc, hg, hf, Bool.and_self]) h
  · cases hv
/-- a switch, one case after the other -/
theorem tb_w_lks {dv : Int} {prs : Array (Int × Int)} {u : Int32} {t : Nat} {ts : List Nat} (hq : (P.1 y)[i]? = some (pc, .lookupswitch dv prs, len, t :: ts, val, ps)) (h : tb_Ev P d y (tb_lks prs.toList ts t u.toInt, L, S, w) r) : tb_Ev P d y (i, L, .int u :: S, w) r := tb_E1 hq rfl h
theorem tb_w_one {u k : Int32} {m o : Int} {pr : List (Int × Int)} {t t0 : Nat} {ts : List Nat} (hm : k.toInt = m) (h1 : u = k → tb_Ev P d y (t, L, S, w) r) (h2 : ¬ u = k → tb_Ev P d y (tb_lks pr ts t0 u.toInt, L, S, w) r) : tb_Ev P d y (tb_lks ((m, o) :: pr) (t :: ts) t0 u.toInt, L, S, w) r := by
  unfold tb_lks
  by_cases hc : u = k
  · subst hc
    rw [if_pos hm.symm]
    exact h1 rfl
  · rw [if_neg (fun e => hc (Int32.toInt_inj.mp (e.symm.trans hm.symm)))]
    exact h2 hc
theorem tb_w_end {u : Int} {t0 : Nat} (h : tb_Ev P d y (t0, L, S, w) r) : tb_Ev P d y (tb_lks [] [] t0 u, L, S, w) r := h
/-- a table as pairs -/
def tb_prs : Int → Nat → List (Int × Int)
  | _, 0 => []
  | lo, n + 1 => (lo, 0) :: tb_prs (lo + 1) n
theorem tb_lks_out {dv : Nat} {u : Int} : ∀ (ts : List Nat) (lo : Int), u < lo ∨ lo + (ts.length : Int) ≤ u → tb_lks (tb_prs lo ts.length) ts dv u = dv := by
  intro ts
  induction ts with
  | nil => intro lo _; rfl
  | cons t ts ih =>
    intro lo h
    simp only [List.length_cons] at h ⊢
    unfold tb_prs tb_lks
    rw [if_neg (by omega)]
    exact ih (lo + 1) (by omega)
theorem tb_lks_in {dv : Nat} {u : Int} : ∀ (ts : List Nat) (lo : Int), ¬ u < lo → u < lo + (ts.length : Int) → tb_lks (tb_prs lo ts.length) ts dv u = ts.getD (u - lo).toNat dv := by
  intro ts
  induction ts with
  | nil => intro lo h1 h2; simp at h2; omega
  | cons t ts ih =>
    intro lo h1 h2
    simp only [List.length_cons] at h2 ⊢
    unfold tb_prs tb_lks
    by_cases hc : lo = u
    · subst hc
      rw [if_pos rfl]
      simp
    · rw [if_neg hc, ih (lo + 1) (by omega) (by omega)]
      obtain ⟨k, hk⟩ : ∃ k : Nat, (u - lo).toNat = k + 1 := ⟨(u - lo).toNat - 1, by omega⟩
      rw [hk, show (u - (lo + 1)).toNat = k by omega]
      rfl
theorem tb_w_tab {dv lo hi : Int} {offs : Array Int} {u : Int32} {t : Nat} {ts : List Nat} (hq : (P.1 y)[i]? = some (pc, .tableswitch dv lo hi offs, len, t :: ts, val, ps)) (hn : hi - lo + 1 = (ts.length : Int)) (h : tb_Ev P d y (tb_lks (tb_prs lo ts.length) ts t u.toInt, L, S, w) r) : tb_Ev P d y (i, L, .int u :: S, w) r := by
  refine tb_E1 (st' := (tb_tsw lo hi ts t u.toInt, L, S, w)) hq rfl ?_
  have e : tb_tsw lo hi ts t u.toInt = tb_lks (tb_prs lo ts.length) ts t u.toInt := by
    unfold tb_tsw
    by_cases hz : u.toInt < lo ∨ hi < u.toInt
    · rw [if_pos hz, tb_lks_out ts lo (by omega)]
    · rw [if_neg hz, tb_lks_in ts lo (by omega) (by omega)]
  rw [e]
  exact h
end TBX
