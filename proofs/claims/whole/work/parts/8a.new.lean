/-! ===== What is made at run time: a Street; shapes grow ===== -/
section PUB1
variable {s : List (Nat × Nat)} {I : Nat → Nat → Int32} {J : Nat → Nat → Int64} {R : Nat → Nat → Option Nat}
theorem pu_pR {c k p n v : Nat} (h : s[p]? = some (c, n)) : tb_pR c k p v (s, I, J, R) = some (s, I, J, tb_up2 R p k (some v)) := by simp [tb_pR, tb_kd, h, tb_setR]
theorem pu_na {c n : Nat} (hn : n ≤ 100000) (w : tb_Hp) : tb_na c (nI n) w = some (tb_new w c n) := by
  unfold tb_na
  rw [nI_clamp (by omega), decide_eq_false (nI_pos (by omega)), decide_eq_true hn]
  rfl
/-- a field that is a new row -/
theorem pu_row {α : Type} {c0 n0 c k p n : Nat} (h : s[p]? = some (c0, n0)) (hn : n ≤ 100000) (F : tb_Hp → Option α) : ((tb_na c (nI n) (s, I, J, R)).bind fun w1 => (tb_pR c0 k p s.length w1).bind F) = F (s ++ [(c, n)], tb_up1 I s.length (fun _ => 0), tb_up1 J s.length (fun _ => 0), tb_up2 (tb_up1 R s.length (fun _ => none)) p k (some s.length)) := by
  have hp : p < s.length := by
    rcases Nat.lt_or_ge p s.length with h1 | h1
    · exact h1
    · rw [List.getElem?_eq_none h1] at h; cases h
  have h2 : (s ++ [(c, n)])[p]? = some (c0, n0) := by rw [List.getElem?_append_left hp]; exact h
  rw [pu_na hn]
  show (tb_pR c0 k p s.length (s ++ [(c, n)], tb_up1 I s.length (fun _ => 0), tb_up1 J s.length (fun _ => 0), tb_up1 R s.length (fun _ => none))).bind F = _
  rw [pu_pR h2]
  rfl
end PUB1
/-- what stays below n -/
def pu_Bw (n : Nat) (I I' : Nat → Nat → Int32) (J J' : Nat → Nat → Int64) (R R' : Nat → Nat → Option Nat) : Prop := ∀ q, q < n → I' q = I q ∧ J' q = J q ∧ R' q = R q
theorem pu_Bw.rf {n : Nat} {I : Nat → Nat → Int32} {J : Nat → Nat → Int64} {R : Nat → Nat → Option Nat} : pu_Bw n I I J J R R := fun _ _ => ⟨rfl, rfl, rfl⟩
theorem pu_Bw.tr {n : Nat} {I I' I2 : Nat → Nat → Int32} {J J' J2 : Nat → Nat → Int64} {R R' R2 : Nat → Nat → Option Nat} (a : pu_Bw n I I' J J' R R') (b : pu_Bw n I' I2 J' J2 R' R2) : pu_Bw n I I2 J J2 R R2 := fun q hq => ⟨(b q hq).1.trans (a q hq).1, (b q hq).2.1.trans (a q hq).2.1, (b q hq).2.2.trans (a q hq).2.2⟩
theorem pu_Bw.le {n m : Nat} {I I' : Nat → Nat → Int32} {J J' : Nat → Nat → Int64} {R R' : Nat → Nat → Option Nat} (h : m ≤ n) (a : pu_Bw n I I' J J' R R') : pu_Bw m I I' J J' R R' := fun q hq => a q (by omega)
/-- the shapes of a Street in a row -/
def pu_StS : List (Nat × Nat) := [(17, 12), (1, 10), (1, 10), (1, 8), (1, 8), (1, 8), (1, 10)]
section PUB2
variable {s : List (Nat × Nat)} {I : Nat → Nat → Int32} {J : Nat → Nat → Int64} {R : Nat → Nat → Option Nat}
theorem pu_newSt : ∃ I' J' R', tb_on 17 s.length (tb_new (s, I, J, R) 17 12) (fb_s_init s.length (tb_new (s, I, J, R) 17 12)) = some (s ++ pu_StS, I', J', R') ∧ pu_St (s ++ pu_StS) R' s.length ∧ pu_Bw s.length I I' J J' R R' ∧ (∀ i, i < 7 → I' (s.length + i) = fun _ => 0) := by
  have h0 : (s ++ [(17, 12)])[s.length]? = some (17, 12) := by rw [List.getElem?_append_right (Nat.le_refl _), Nat.sub_self]; rfl
  have l1 : ∀ (x : List (Nat × Nat)), (s ++ [(17, 12)] ++ x)[s.length]? = some (17, 12) := fun x => by
    rw [List.getElem?_append_left (by rw [List.length_append]; show s.length < s.length + 1; omega)]; exact h0
  have e : fb_s_init s.length (tb_new (s, I, J, R) 17 12) = some (s ++ pu_StS, tb_up1 (tb_up1 (tb_up1 (tb_up1 (tb_up1 (tb_up1 (tb_up1 I s.length (fun _ => 0)) (s.length + 1) (fun _ => 0)) (s.length + 2) (fun _ => 0)) (s.length + 3) (fun _ => 0)) (s.length + 4) (fun _ => 0)) (s.length + 5) (fun _ => 0)) (s.length + 6) (fun _ => 0), tb_up1 (tb_up1 (tb_up1 (tb_up1 (tb_up1 (tb_up1 (tb_up1 J s.length (fun _ => 0)) (s.length + 1) (fun _ => 0)) (s.length + 2) (fun _ => 0)) (s.length + 3) (fun _ => 0)) (s.length + 4) (fun _ => 0)) (s.length + 5) (fun _ => 0)) (s.length + 6) (fun _ => 0),
      tb_up2 (tb_up1 (tb_up2 (tb_up1 (tb_up2 (tb_up1 (tb_up2 (tb_up1 (tb_up2 (tb_up1 (tb_up2 (tb_up1 (tb_up1 R s.length (fun _ => none)) (s.length + 1) (fun _ => none)) s.length 6 (some (s.length + 1))) (s.length + 2) (fun _ => none)) s.length 7 (some (s.length + 2))) (s.length + 3) (fun _ => none)) s.length 8 (some (s.length + 3))) (s.length + 4) (fun _ => none)) s.length 9 (some (s.length + 4))) (s.length + 5) (fun _ => none)) s.length 10 (some (s.length + 5))) (s.length + 6) (fun _ => none)) s.length 11 (some (s.length + 6))) := by
    unfold fb_s_init
    show ((tb_na 1 (nI 10) (s ++ [(17, 12)], tb_up1 I s.length (fun _ => 0), tb_up1 J s.length (fun _ => 0), tb_up1 R s.length (fun _ => none))).bind fun w1 => (tb_pR 17 6 s.length (s ++ [(17, 12)]).length w1).bind _) = _
    rw [pu_row h0 (by omega)]
    show ((tb_na 1 (nI 10) _).bind fun w1 => (tb_pR 17 7 s.length (s ++ [(17, 12)] ++ [(1, 10)]).length w1).bind _) = _
    rw [pu_row (l1 _) (by omega)]
    show ((tb_na 1 (nI 8) _).bind fun w1 => (tb_pR 17 8 s.length (s ++ [(17, 12)] ++ [(1, 10)] ++ [(1, 10)]).length w1).bind _) = _
    rw [pu_row (by rw [List.append_assoc (s ++ [(17, 12)])]; exact l1 _) (by omega)]
    show ((tb_na 1 (nI 8) _).bind fun w1 => (tb_pR 17 9 s.length (s ++ [(17, 12)] ++ [(1, 10)] ++ [(1, 10)] ++ [(1, 8)]).length w1).bind _) = _
    rw [pu_row (by simp only [List.append_assoc (s ++ [(17, 12)])]; exact l1 _) (by omega)]
    show ((tb_na 1 (nI 8) _).bind fun w1 => (tb_pR 17 10 s.length (s ++ [(17, 12)] ++ [(1, 10)] ++ [(1, 10)] ++ [(1, 8)] ++ [(1, 8)]).length w1).bind _) = _
    rw [pu_row (by simp only [List.append_assoc (s ++ [(17, 12)])]; exact l1 _) (by omega)]
    show ((tb_na 1 (nI 10) _).bind fun w1 => (tb_pR 17 11 s.length (s ++ [(17, 12)] ++ [(1, 10)] ++ [(1, 10)] ++ [(1, 8)] ++ [(1, 8)] ++ [(1, 8)]).length w1).bind _) = _
    rw [pu_row (by simp only [List.append_assoc (s ++ [(17, 12)])]; exact l1 _) (by omega)]
    simp only [List.length_append, List.length_cons, List.length_nil, List.append_assoc, List.cons_append, List.nil_append]
    rfl
  have gs : ∀ i, i < 7 → (s ++ pu_StS)[s.length + i]? = pu_StS[i]? := fun i _ => by rw [List.getElem?_append_right (by omega), Nat.add_sub_cancel_left]
  have hk : tb_kd (tb_new (s, I, J, R) 17 12) s.length = some 17 := by
    show ((s ++ [(17, 12)])[s.length]?).map Prod.fst = some 17
    rw [h0]; rfl
  have e3 : tb_on 17 s.length (tb_new (s, I, J, R) 17 12) (fb_s_init s.length (tb_new (s, I, J, R) 17 12)) = fb_s_init s.length (tb_new (s, I, J, R) 17 12) := by unfold tb_on; rw [hk]; rfl
  refine ⟨_, _, _, e3.trans e, ?_, ?_, ?_⟩
  · refine ⟨gs 0 (by omega), ⟨gs 1 (by omega), gs 2 (by omega), gs 3 (by omega), gs 4 (by omega), gs 5 (by omega), gs 6 (by omega)⟩, ?_⟩
    simp (disch := omega) only [pu_u2k, pu_u2s, pu_u2p, pu_u1p, and_self]
  · intro q hq
    simp (disch := omega) only [pu_u2p, pu_u1p, and_self]
  · intro i hi
    have : i = 0 ∨ i = 1 ∨ i = 2 ∨ i = 3 ∨ i = 4 ∨ i = 5 ∨ i = 6 := by omega
    rcases this with h | h | h | h | h | h | h <;> subst h <;> simp (disch := omega) only [pu_u1p, pu_u1s, Nat.add_zero]
end PUB2
