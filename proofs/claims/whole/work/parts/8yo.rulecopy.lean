/-! ===== The class keeps a rule's steps in a row of their own ===== -/
section PUO9
variable {s : List (Nat × Nat)} {I : Nat → Nat → Int32} {J : Nat → Nat → Int64} {R : Nat → Nat → Option Nat}
theorem pz_copy (hX : pu_X s R) {m : Nat} (h : I 15 2 = nI m) (hm : m < 400) : ∃ I' J' R', fb_rr_copyOfCode 15 (s, I, J, R) = some (s.length, (s ++ [(1, m)], I', J', R')) ∧ pu_Bw s.length I I' J J' R R' ∧ (∀ k, k < m → I' s.length k = I 16 k) := by
  have h16 := pu_c16 hX
  have l16 : 16 < s.length := pu_slt h16
  have h16' : (s ++ [(1, m)])[16]? = some (1, 400) := by rw [List.getElem?_append_left l16]; exact h16
  have hn : (s ++ [(1, m)])[s.length]? = some (1, m) := by rw [List.getElem?_append_right (Nat.le_refl _), Nat.sub_self]; rfl
  have e1 : nI m ≤ nI 400 := by rw [pu_leI (by omega) (by omega)]; omega
  have e2 : ¬ nI m = nI 400 := by rw [pu_eqI (by omega) (by omega)]; omega
  have e3 : ¬ nI 400 ≤ nI m := by rw [pu_leI (by omega) (by omega)]; omega
  have mx : ∀ w : tb_Hp, fb_ma_max 0 (nI m) w = some (nI m, w) := fun w => by
    unfold fb_ma_max
    by_cases x : (0 : Int32) < nI m
    · rw [if_pos x]
    · rw [if_neg x]
      have x0 : ¬ (0 < m) := fun y => x (by rw [show (0 : Int32) = nI 0 from rfl, pu_ltI (by omega) (by omega)]; exact y)
      obtain rfl : m = 0 := by omega
      rfl
  have cy := pu_cy (s := s ++ [(1, m)]) (I := tb_up1 I s.length (fun _ => 0)) (J := tb_up1 J s.length (fun _ => 0)) (R := tb_up1 R s.length (fun _ => none)) h16' hn (show m ≤ 400 by omega) (Nat.le_refl m) (by omega)
  have ew : tb_new (s, I, J, R) 1 m = (s ++ [(1, m)], tb_up1 I s.length (fun _ => 0), tb_up1 J s.length (fun _ => 0), tb_up1 R s.length (fun _ => none)) := rfl
  refine ⟨tb_up1 (tb_up1 I s.length (fun _ => 0)) s.length (va_cpy (tb_up1 I s.length (fun _ => 0) 16) (tb_up1 I s.length (fun _ => 0) s.length) 0 0 m), tb_up1 J s.length (fun _ => 0), tb_up1 R s.length (fun _ => none), ?_, ?_, ?_⟩
  · unfold fb_rr_copyOfCode fb_ar_copyOf
    simp only [pu_gN (pu_c15 hX), pu_f15_1 hX, Option.bind_some, pu_gI (pu_c15 hX), h, pu_al h16, fb_ma_min, e1, ↓reduceIte, mx, e2, pu_na (show m ≤ 100000 by omega), ew, pu_al h16', e3, cy]
  · intro q hq
    simp (disch := omega) only [pu_u1p, and_self]
  · intro k hk
    rw [pu_u1s, sb_cpy0 hk, pu_u1p _ _ _ (by omega)]
end PUO9
