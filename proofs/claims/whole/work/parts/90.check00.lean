def tb_ckM (y : Nat) : Bool := (match (tb_P.1 y)[0]? with
  | some q => decide (q.1 = 0)
  | none => false) && plainFor (tb_mi y).1 && decide ((tb_mi y).2.2.1 ≤ 41) && decide ((tb_mi y).1.cls ≠ "java/lang/invoke/MethodHandle") && decide ((tb_mi y).1.cls ≠ "java/lang/invoke/VarHandle")
def tb_chk (y : Nat) : Bool := tb_okL tb_mi tb_sc tb_ns (tb_P.1 y) y 0 (tb_P.1 y) && tb_ckM y
def tb_cdw (y k : Nat) : Bool := tb_wd k (.code (tb_mi y).1 (tb_mi y).2.1 (tb_mi y).2.2.1 (tb_mi y).2.2.2)
theorem tb_okL_cat {mi : tb_Mi} {sc : tb_Sc} {ns : List (String × Nat × Nat)} {cd : List tb_I} {y : Nat} : ∀ (a b : List tb_I) (i : Nat), tb_okL mi sc ns cd y i a = true → tb_okL mi sc ns cd y (i + a.length) b = true → tb_okL mi sc ns cd y i (a ++ b) = true := by
  intro a
  induction a with
  | nil => intro b i _ h; exact h
  | cons q a ih =>
    intro b i h1 h2
    unfold tb_okL at h1
    rw [Bool.and_eq_true] at h1
    show tb_okL mi sc ns cd y i (q :: (a ++ b)) = true
    unfold tb_okL
    rw [Bool.and_eq_true]
    refine ⟨h1.1, ih b (i + 1) h1.2 ?_⟩
    rw [List.length_cons] at h2
    rw [show i + 1 + a.length = i + (a.length + 1) by omega]
    exact h2
theorem tb_okL_chunks {mi : tb_Mi} {sc : tb_Sc} {ns : List (String × Nat × Nat)} {cd : List tb_I} {y : Nat} (K : Nat) : ∀ (n i : Nat) (l : List tb_I), l.length ≤ K * n → (∀ k, k < n → tb_okL mi sc ns cd y (i + K * k) ((l.drop (K * k)).take K) = true) → tb_okL mi sc ns cd y i l = true := by
  intro n
  induction n with
  | zero =>
    intro i l hl _
    have e : l = [] := List.length_eq_zero_iff.mp (by omega)
    subst e
    rfl
  | succ n ih =>
    intro i l hl h
    have h0 := h 0 (by omega)
    rw [Nat.mul_zero, Nat.add_zero, List.drop_zero] at h0
    rcases Nat.lt_or_ge l.length K with hk | hk
    · rw [List.take_of_length_le (by omega)] at h0
      exact h0
    · have h1 : tb_okL mi sc ns cd y (i + K) (l.drop K) = true := by
        refine ih (i + K) (l.drop K) (by rw [List.length_drop, Nat.mul_succ] at *; omega) (fun k hkn => ?_)
        have := h (k + 1) (by omega)
        rw [Nat.mul_succ] at this
        rw [List.drop_drop, show i + K + K * k = i + (K * k + K) by omega, show K + K * k = K * k + K by omega]
        exact this
      have := tb_okL_cat (l.take K) (l.drop K) i h0 (by rw [List.length_take, Nat.min_eq_left hk]; exact h1)
      rw [List.take_append_drop] at this
      exact this
theorem ck_0 : tb_chk 0 = true := by decide +kernel
theorem cw_0 : tb_cdw 0 147 = true := by decide +kernel
theorem ck_1 : tb_chk 1 = true := by decide +kernel
theorem cw_1 : tb_cdw 1 155 = true := by decide +kernel
theorem ck_2 : tb_chk 2 = true := by decide +kernel
theorem cw_2 : tb_cdw 2 200 = true := by decide +kernel
theorem ck_3 : tb_chk 3 = true := by decide +kernel
theorem cw_3 : tb_cdw 3 206 = true := by decide +kernel
theorem ck_4 : tb_chk 4 = true := by decide +kernel
theorem cw_4 : tb_cdw 4 280 = true := by decide +kernel
theorem ck_5 : tb_chk 5 = true := by decide +kernel
theorem cw_5 : tb_cdw 5 301 = true := by decide +kernel
theorem ck_6 : tb_chk 6 = true := by decide +kernel
theorem cw_6 : tb_cdw 6 309 = true := by decide +kernel
theorem ck_7 : tb_chk 7 = true := by decide +kernel
theorem cw_7 : tb_cdw 7 356 = true := by decide +kernel
theorem ck_8 : tb_chk 8 = true := by decide +kernel
theorem cw_8 : tb_cdw 8 375 = true := by decide +kernel
theorem ck_9 : tb_chk 9 = true := by decide +kernel
theorem cw_9 : tb_cdw 9 389 = true := by decide +kernel
theorem ck_10 : tb_chk 10 = true := by decide +kernel
theorem cw_10 : tb_cdw 10 407 = true := by decide +kernel
theorem ck_11 : tb_chk 11 = true := by decide +kernel
theorem cw_11 : tb_cdw 11 445 = true := by decide +kernel
theorem ck_12 : tb_chk 12 = true := by decide +kernel
theorem cw_12 : tb_cdw 12 507 = true := by decide +kernel
theorem ck_13 : tb_chk 13 = true := by decide +kernel
theorem cw_13 : tb_cdw 13 511 = true := by decide +kernel
theorem ck_14 : tb_chk 14 = true := by decide +kernel
theorem cw_14 : tb_cdw 14 515 = true := by decide +kernel
theorem ck_15 : tb_chk 15 = true := by decide +kernel
theorem cw_15 : tb_cdw 15 519 = true := by decide +kernel
theorem ck_16 : tb_chk 16 = true := by decide +kernel
theorem cw_16 : tb_cdw 16 523 = true := by decide +kernel
theorem ck_17 : tb_chk 17 = true := by decide +kernel
theorem cw_17 : tb_cdw 17 527 = true := by decide +kernel
theorem ck_18 : tb_chk 18 = true := by decide +kernel
theorem cw_18 : tb_cdw 18 530 = true := by decide +kernel
theorem ck_19 : tb_chk 19 = true := by decide +kernel
theorem cw_19 : tb_cdw 19 534 = true := by decide +kernel
theorem ck_20 : tb_chk 20 = true := by decide +kernel
theorem cw_20 : tb_cdw 20 538 = true := by decide +kernel
theorem ck_21 : tb_chk 21 = true := by decide +kernel
theorem cw_21 : tb_cdw 21 541 = true := by decide +kernel
theorem ck_22 : tb_chk 22 = true := by decide +kernel
theorem cw_22 : tb_cdw 22 545 = true := by decide +kernel
theorem ck_23 : tb_chk 23 = true := by decide +kernel
theorem cw_23 : tb_cdw 23 549 = true := by decide +kernel
theorem ck_24 : tb_chk 24 = true := by decide +kernel
theorem cw_24 : tb_cdw 24 552 = true := by decide +kernel
theorem ck_25 : tb_chk 25 = true := by decide +kernel
theorem cw_25 : tb_cdw 25 556 = true := by decide +kernel
theorem ck_26 : tb_chk 26 = true := by decide +kernel
theorem cw_26 : tb_cdw 26 559 = true := by decide +kernel
theorem ck_27 : tb_chk 27 = true := by decide +kernel
theorem cw_27 : tb_cdw 27 583 = true := by decide +kernel
theorem ck_28 : tb_chk 28 = true := by decide +kernel
theorem cw_28 : tb_cdw 28 635 = true := by decide +kernel
theorem ck_29 : tb_chk 29 = true := by decide +kernel
theorem cw_29 : tb_cdw 29 638 = true := by decide +kernel
theorem ck_30 : tb_chk 30 = true := by decide +kernel
theorem cw_30 : tb_cdw 30 642 = true := by decide +kernel
theorem ck_31 : tb_chk 31 = true := by decide +kernel
theorem cw_31 : tb_cdw 31 646 = true := by decide +kernel
theorem ck_32 : tb_chk 32 = true := by decide +kernel
theorem cw_32 : tb_cdw 32 650 = true := by decide +kernel
theorem ck_33 : tb_chk 33 = true := by decide +kernel
theorem cw_33 : tb_cdw 33 655 = true := by decide +kernel
theorem ck_34 : tb_chk 34 = true := by decide +kernel
theorem cw_34 : tb_cdw 34 658 = true := by decide +kernel
theorem ck_35 : tb_chk 35 = true := by decide +kernel
theorem cw_35 : tb_cdw 35 662 = true := by decide +kernel
theorem ck_36 : tb_chk 36 = true := by decide +kernel
theorem cw_36 : tb_cdw 36 666 = true := by decide +kernel
theorem ck_37 : tb_chk 37 = true := by decide +kernel
theorem cw_37 : tb_cdw 37 670 = true := by decide +kernel
theorem ck_38 : tb_chk 38 = true := by decide +kernel
theorem cw_38 : tb_cdw 38 674 = true := by decide +kernel
theorem ck_39 : tb_chk 39 = true := by decide +kernel
theorem cw_39 : tb_cdw 39 678 = true := by decide +kernel
theorem ck_40 : tb_chk 40 = true := by decide +kernel
theorem cw_40 : tb_cdw 40 682 = true := by decide +kernel
theorem ck_41 : tb_chk 41 = true := by decide +kernel
theorem cw_41 : tb_cdw 41 686 = true := by decide +kernel
theorem ck_42 : tb_chk 42 = true := by decide +kernel
theorem cw_42 : tb_cdw 42 689 = true := by decide +kernel
theorem ck_43 : tb_chk 43 = true := by decide +kernel
theorem cw_43 : tb_cdw 43 693 = true := by decide +kernel
theorem ck_44 : tb_chk 44 = true := by decide +kernel
theorem cw_44 : tb_cdw 44 698 = true := by decide +kernel
theorem ck_45 : tb_chk 45 = true := by decide +kernel
theorem cw_45 : tb_cdw 45 702 = true := by decide +kernel
theorem ck_46 : tb_chk 46 = true := by decide +kernel
theorem cw_46 : tb_cdw 46 709 = true := by decide +kernel
theorem ck_47 : tb_chk 47 = true := by decide +kernel
theorem cw_47 : tb_cdw 47 714 = true := by decide +kernel
theorem ck_48 : tb_chk 48 = true := by decide +kernel
theorem cw_48 : tb_cdw 48 718 = true := by decide +kernel
theorem ck_49 : tb_chk 49 = true := by decide +kernel
theorem cw_49 : tb_cdw 49 725 = true := by decide +kernel
theorem ck_50 : tb_chk 50 = true := by decide +kernel
theorem cw_50 : tb_cdw 50 729 = true := by decide +kernel
