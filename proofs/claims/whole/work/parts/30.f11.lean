/-! TannerBuntingModel.note(III)I -/
def fb_m_note (a0 : Nat) (a1 : Int32) (a2 : Int32) (a3 : Int32) (w : tb_Hp) : Option (Int32 × tb_Hp) := (if a1 = (-1) then (tb_gN 22 20 a0 w).bind fun p1 => (tb_tI p1 148 0 w).bind fun w2 => some (0, w2) else (fb_m_in (Int32.toInt64 a1) 0 60 w).bind fun x3 => (if x3.1 = 0 then some (-2, x3.2) else (tb_on 22 a0 x3.2 (fb_m_isHouse a0 a2 x3.2)).bind fun x4 => (if x4.1 = 0 then some (-2, x4.2) else (fb_m_in (Int32.toInt64 a3) 0 1 x4.2).bind fun x5 => (if x5.1 = 0 then some (-2, x5.2) else (tb_gN 22 20 a0 x5.2).bind fun p6 => (tb_lI [1, 9] p6 148 x5.2).bind fun x7 => (if x7 = 10 then some (-2, x5.2) else (tb_gN 22 20 a0 x5.2).bind fun p8 => (tb_lI [1, 9] p8 148 x5.2).bind fun x9 => (tb_gN 22 20 a0 x5.2).bind fun p10 => (tb_tI p10 (118 + (3 * x9)) a1 x5.2).bind fun w11 => (tb_gN 22 20 a0 w11).bind fun p12 => (tb_tI p12 ((118 + (3 * x9)) + 1) a2 w11).bind fun w13 => (tb_gN 22 20 a0 w13).bind fun p14 => (tb_tI p14 ((118 + (3 * x9)) + 2) a3 w13).bind fun w15 => (tb_gN 22 20 a0 w15).bind fun p16 => (tb_lI [1, 9] p16 148 w15).bind fun x17 => (tb_tI p16 148 (x17 + 1) w15).bind fun w18 => (tb_gN 22 20 a0 w18).bind fun p19 => (tb_lI [1, 9] p19 148 w18).bind fun x20 => some (x20, w18))))))
set_option maxHeartbeats 4000000 in
set_option maxRecDepth 20000 in
theorem dc_m_note {a0 : Nat} {a1 : Int32} {a2 : Int32} {a3 : Int32} {w : tb_Hp} {o : Int32 × tb_Hp} (h : fb_m_note a0 a1 a2 a3 w = some o) : tb_Ev tb_P 2 285 (0, tb_ent [.ref a0, .int a1, .int a2, .int a3], [], w) (some (.int o.1), o.2) := by
  unfold fb_m_note at h
  obtain ⟨r, hr⟩ : ∃ r : Option Value × tb_Hp, r = (some (.int o.1), o.2) := ⟨_, rfl⟩
  rw [← hr]
  show tb_Ev tb_P 2 285 (0, [(0, .ref a0), (1, .int a1), (2, .int a2), (3, .int a3)], [], w) r
  refine tb_Es (k := 2) (st' := (2, [(0, .ref a0), (1, .int a1), (2, .int a2), (3, .int a3)], [.int (-1), .int a1], w)) rfl ?_
  refine tb_b_cne rfl (fun hc => ?_) (fun hc => ?_)
  · rw [if_pos hc] at h
    refine tb_Es (k := 1) (st' := (4, [(0, .ref a0), (1, .int a1), (2, .int a2), (3, .int a3)], [.ref a0], w)) rfl ?_
    replace h := Option.bind_eq_some_iff.mp h
    obtain ⟨p1, ep1, h⟩ := h
    refine tb_e_gN rfl ep1 ?_
    refine tb_Es (k := 2) (st' := (7, [(0, .ref a0), (1, .int a1), (2, .int a2), (3, .int a3)], [.int 0, .int 148, .ref p1], w)) rfl ?_
    replace h := Option.bind_eq_some_iff.mp h
    obtain ⟨w2, ew2, h⟩ := h
    refine tb_e_tI rfl ew2 ?_
    refine tb_Es (k := 1) (st' := (9, [(0, .ref a0), (1, .int a1), (2, .int a2), (3, .int a3)], [.int 0], w2)) rfl ?_
    obtain rfl := Option.some.inj h
    subst hr
    exact tb_Er rfl rfl
  · rw [if_neg hc] at h
    refine tb_Es (k := 4) (st' := (14, [(0, .ref a0), (1, .int a1), (2, .int a2), (3, .int a3)], [.long 60, .long 0, .long (Int32.toInt64 a1)], w)) rfl ?_
    replace h := Option.bind_eq_some_iff.mp h
    obtain ⟨x3, ex3, h⟩ := h
    have hcall := ex3
    refine tb_e_cs (v := some (.int x3.1)) rfl rfl rfl (Nat.le_of_ble_eq_true rfl) rfl (Nat.le_of_ble_eq_true rfl) ((dc_m_in hcall).up (by decide)) ?_
    refine tb_b_ieq rfl (fun hc => ?_) (fun hc => ?_)
    · rw [if_pos hc] at h
      refine tb_Es (k := 1) (st' := (33, [(0, .ref a0), (1, .int a1), (2, .int a2), (3, .int a3)], [.int (-2)], x3.2)) rfl ?_
      obtain rfl := Option.some.inj h
      subst hr
      exact tb_Er rfl rfl
    · rw [if_neg hc] at h
      refine tb_Es (k := 2) (st' := (18, [(0, .ref a0), (1, .int a1), (2, .int a2), (3, .int a3)], [.int a2, .ref a0], x3.2)) rfl ?_
      replace h := Option.bind_eq_some_iff.mp h
      obtain ⟨x4, ex4, h⟩ := h
      obtain ⟨hkx4, hcall⟩ := tb_on_some ex4
      refine tb_e_cv (v := some (.int x4.1)) rfl (Or.inl ⟨_, rfl⟩) rfl rfl (Nat.le_of_ble_eq_true rfl) rfl (Nat.le_of_ble_eq_true rfl) hkx4 ((dc_m_isHouse hcall).up (by decide)) ?_
      refine tb_b_ieq rfl (fun hc => ?_) (fun hc => ?_)
      · rw [if_pos hc] at h
        refine tb_Es (k := 1) (st' := (33, [(0, .ref a0), (1, .int a1), (2, .int a2), (3, .int a3)], [.int (-2)], x4.2)) rfl ?_
        obtain rfl := Option.some.inj h
        subst hr
        exact tb_Er rfl rfl
      · rw [if_neg hc] at h
        refine tb_Es (k := 4) (st' := (24, [(0, .ref a0), (1, .int a1), (2, .int a2), (3, .int a3)], [.long 1, .long 0, .long (Int32.toInt64 a3)], x4.2)) rfl ?_
        replace h := Option.bind_eq_some_iff.mp h
        obtain ⟨x5, ex5, h⟩ := h
        have hcall := ex5
        refine tb_e_cs (v := some (.int x5.1)) rfl rfl rfl (Nat.le_of_ble_eq_true rfl) rfl (Nat.le_of_ble_eq_true rfl) ((dc_m_in hcall).up (by decide)) ?_
        refine tb_b_ieq rfl (fun hc => ?_) (fun hc => ?_)
        · rw [if_pos hc] at h
          refine tb_Es (k := 1) (st' := (33, [(0, .ref a0), (1, .int a1), (2, .int a2), (3, .int a3)], [.int (-2)], x5.2)) rfl ?_
          obtain rfl := Option.some.inj h
          subst hr
          exact tb_Er rfl rfl
        · rw [if_neg hc] at h
          refine tb_Es (k := 1) (st' := (27, [(0, .ref a0), (1, .int a1), (2, .int a2), (3, .int a3)], [.ref a0], x5.2)) rfl ?_
          replace h := Option.bind_eq_some_iff.mp h
          obtain ⟨p6, ep6, h⟩ := h
          refine tb_e_gN rfl ep6 ?_
          refine tb_Es (k := 1) (st' := (29, [(0, .ref a0), (1, .int a1), (2, .int a2), (3, .int a3)], [.int 148, .ref p6], x5.2)) rfl ?_
          replace h := Option.bind_eq_some_iff.mp h
          obtain ⟨x7, ex7, h⟩ := h
          refine tb_e_lI rfl (Or.inl ⟨rfl, rfl⟩) ex7 ?_
          refine tb_Es (k := 1) (st' := (31, [(0, .ref a0), (1, .int a1), (2, .int a2), (3, .int a3)], [.int 10, .int x7], x5.2)) rfl ?_
          refine tb_b_cne rfl (fun hc => ?_) (fun hc => ?_)
          · rw [if_pos hc] at h
            refine tb_Es (k := 1) (st' := (33, [(0, .ref a0), (1, .int a1), (2, .int a2), (3, .int a3)], [.int (-2)], x5.2)) rfl ?_
            obtain rfl := Option.some.inj h
            subst hr
            exact tb_Er rfl rfl
          · rw [if_neg hc] at h
            refine tb_Es (k := 3) (st' := (37, [(0, .ref a0), (1, .int a1), (2, .int a2), (3, .int a3)], [.ref a0, .int 3, .int 118], x5.2)) rfl ?_
            replace h := Option.bind_eq_some_iff.mp h
            obtain ⟨p8, ep8, h⟩ := h
            refine tb_e_gN rfl ep8 ?_
            refine tb_Es (k := 1) (st' := (39, [(0, .ref a0), (1, .int a1), (2, .int a2), (3, .int a3)], [.int 148, .ref p8, .int 3, .int 118], x5.2)) rfl ?_
            replace h := Option.bind_eq_some_iff.mp h
            obtain ⟨x9, ex9, h⟩ := h
            refine tb_e_lI rfl (Or.inl ⟨rfl, rfl⟩) ex9 ?_
            refine tb_Es (k := 4) (st' := (44, [(4, .int (118 + (3 * x9))), (0, .ref a0), (1, .int a1), (2, .int a2), (3, .int a3)], [.ref a0], x5.2)) rfl ?_
            replace h := Option.bind_eq_some_iff.mp h
            obtain ⟨p10, ep10, h⟩ := h
            refine tb_e_gN rfl ep10 ?_
            refine tb_Es (k := 2) (st' := (47, [(4, .int (118 + (3 * x9))), (0, .ref a0), (1, .int a1), (2, .int a2), (3, .int a3)], [.int a1, .int (118 + (3 * x9)), .ref p10], x5.2)) rfl ?_
            replace h := Option.bind_eq_some_iff.mp h
            obtain ⟨w11, ew11, h⟩ := h
            refine tb_e_tI rfl ew11 ?_
            refine tb_Es (k := 1) (st' := (49, [(4, .int (118 + (3 * x9))), (0, .ref a0), (1, .int a1), (2, .int a2), (3, .int a3)], [.ref a0], w11)) rfl ?_
            replace h := Option.bind_eq_some_iff.mp h
            obtain ⟨p12, ep12, h⟩ := h
            refine tb_e_gN rfl ep12 ?_
            refine tb_Es (k := 4) (st' := (54, [(4, .int (118 + (3 * x9))), (0, .ref a0), (1, .int a1), (2, .int a2), (3, .int a3)], [.int a2, .int ((118 + (3 * x9)) + 1), .ref p12], w11)) rfl ?_
            replace h := Option.bind_eq_some_iff.mp h
            obtain ⟨w13, ew13, h⟩ := h
            refine tb_e_tI rfl ew13 ?_
            refine tb_Es (k := 1) (st' := (56, [(4, .int (118 + (3 * x9))), (0, .ref a0), (1, .int a1), (2, .int a2), (3, .int a3)], [.ref a0], w13)) rfl ?_
            replace h := Option.bind_eq_some_iff.mp h
            obtain ⟨p14, ep14, h⟩ := h
            refine tb_e_gN rfl ep14 ?_
            refine tb_Es (k := 4) (st' := (61, [(4, .int (118 + (3 * x9))), (0, .ref a0), (1, .int a1), (2, .int a2), (3, .int a3)], [.int a3, .int ((118 + (3 * x9)) + 2), .ref p14], w13)) rfl ?_
            replace h := Option.bind_eq_some_iff.mp h
            obtain ⟨w15, ew15, h⟩ := h
            refine tb_e_tI rfl ew15 ?_
            refine tb_Es (k := 1) (st' := (63, [(4, .int (118 + (3 * x9))), (0, .ref a0), (1, .int a1), (2, .int a2), (3, .int a3)], [.ref a0], w15)) rfl ?_
            replace h := Option.bind_eq_some_iff.mp h
            obtain ⟨p16, ep16, h⟩ := h
            refine tb_e_gN rfl ep16 ?_
            refine tb_Es (k := 2) (st' := (66, [(4, .int (118 + (3 * x9))), (0, .ref a0), (1, .int a1), (2, .int a2), (3, .int a3)], [.int 148, .ref p16, .int 148, .ref p16], w15)) rfl ?_
            replace h := Option.bind_eq_some_iff.mp h
            obtain ⟨x17, ex17, h⟩ := h
            refine tb_e_lI rfl (Or.inl ⟨rfl, rfl⟩) ex17 ?_
            refine tb_Es (k := 2) (st' := (69, [(4, .int (118 + (3 * x9))), (0, .ref a0), (1, .int a1), (2, .int a2), (3, .int a3)], [.int (x17 + 1), .int 148, .ref p16], w15)) rfl ?_
            replace h := Option.bind_eq_some_iff.mp h
            obtain ⟨w18, ew18, h⟩ := h
            refine tb_e_tI rfl ew18 ?_
            refine tb_Es (k := 1) (st' := (71, [(4, .int (118 + (3 * x9))), (0, .ref a0), (1, .int a1), (2, .int a2), (3, .int a3)], [.ref a0], w18)) rfl ?_
            replace h := Option.bind_eq_some_iff.mp h
            obtain ⟨p19, ep19, h⟩ := h
            refine tb_e_gN rfl ep19 ?_
            refine tb_Es (k := 1) (st' := (73, [(4, .int (118 + (3 * x9))), (0, .ref a0), (1, .int a1), (2, .int a2), (3, .int a3)], [.int 148, .ref p19], w18)) rfl ?_
            replace h := Option.bind_eq_some_iff.mp h
            obtain ⟨x20, ex20, h⟩ := h
            refine tb_e_lI rfl (Or.inl ⟨rfl, rfl⟩) ex20 ?_
            obtain rfl := Option.some.inj h
            subst hr
            exact tb_Er rfl rfl
/-! TannerBunting$Text.begin()V -/
def fl_t_begin_7 : Nat → Nat → Int32 → Int32 → tb_Hp → Option (Nat × tb_Hp)
  | 0, _, _, _, _ => none
  | n + 1, v0, v1, v2, w => (if v2 < 400 then (tb_gI 19 0 v0 w).bind fun x2 => (if v1 < x2 then (tb_on 19 v0 w (fb_t_byteAt v0 v1 w)).bind fun x3 => (if x3.1 = 32 then fl_t_begin_7 n v0 (v1 + 1) (v2 + 1) x3.2 else (fb_t_isDigit x3.1 x3.2).bind fun x4 => (if x4.1 = 0 then (fb_t_isLetter x3.1 x4.2).bind fun x5 => (if x5.1 = 0 then (tb_on 19 v0 x5.2 (fb_t_splitSign v0 v1 x5.2)).bind fun x6 => fl_t_begin_7 n v0 x6.1 (v2 + 1) x6.2 else (tb_on 19 v0 x5.2 (fb_t_splitWord v0 v1 x5.2)).bind fun x7 => fl_t_begin_7 n v0 x7.1 (v2 + 1) x7.2) else (tb_on 19 v0 x4.2 (fb_t_splitNumber v0 v1 x4.2)).bind fun x8 => fl_t_begin_7 n v0 x8.1 (v2 + 1) x8.2)) else some ((v0, w))) else some ((v0, w)))
set_option maxHeartbeats 4000000 in
set_option maxRecDepth 20000 in
theorem dl_t_begin_7 : ∀ (n : Nat) (v0 : Nat) (v1 : Int32) (v2 : Int32) (w : tb_Hp) (o : Nat × tb_Hp), fl_t_begin_7 n v0 v1 v2 w = some o → ∀ (r : Option Value × tb_Hp), tb_Ev tb_P 3 19 (47, [(0, .ref o.1)], [], o.2) r → tb_Ev tb_P 3 19 (8, [(0, .ref v0), (1, .int v1), (2, .int v2)], [], w) r := by
  intro n
  induction n with
  | zero =>
    intro v0 v1 v2 w o h
    cases h
  | succ n ih =>
    intro v0 v1 v2 w o h r hx
    unfold fl_t_begin_7 at h
    refine tb_Es (k := 2) (st' := (10, [(0, .ref v0), (1, .int v1), (2, .int v2)], [.int 400, .int v2], w)) rfl ?_
    refine tb_b_cge rfl (fun hc => ?_) (fun hc => ?_)
    · rw [if_pos hc] at h
      refine tb_Es (k := 2) (st' := (13, [(0, .ref v0), (1, .int v1), (2, .int v2)], [.ref v0, .int v1], w)) rfl ?_
      replace h := Option.bind_eq_some_iff.mp h
      obtain ⟨x2, ex2, h⟩ := h
      refine tb_e_gI rfl ex2 ?_
      refine tb_b_cge rfl (fun hc => ?_) (fun hc => ?_)
      · rw [if_pos hc] at h
        refine tb_Es (k := 2) (st' := (17, [(0, .ref v0), (1, .int v1), (2, .int v2)], [.int v1, .ref v0], w)) rfl ?_
        replace h := Option.bind_eq_some_iff.mp h
        obtain ⟨x3, ex3, h⟩ := h
        obtain ⟨hkx3, hcall⟩ := tb_on_some ex3
        refine tb_e_cv (v := some (.int x3.1)) rfl (Or.inl ⟨_, rfl⟩) rfl rfl (Nat.le_of_ble_eq_true rfl) rfl (Nat.le_of_ble_eq_true rfl) hkx3 ((dc_t_byteAt hcall).up (by decide)) ?_
        refine tb_Es (k := 3) (st' := (21, [(3, .int x3.1), (0, .ref v0), (1, .int v1), (2, .int v2)], [.int 32, .int x3.1], x3.2)) rfl ?_
        refine tb_b_cne rfl (fun hc => ?_) (fun hc => ?_)
        · rw [if_pos hc] at h
          refine tb_Es (k := 5) (st' := (8, [(0, .ref v0), (1, .int (v1 + 1)), (2, .int (v2 + 1))], [], x3.2)) rfl ?_
          exact ih v0 (v1 + 1) (v2 + 1) x3.2 _ h r hx
        · rw [if_neg hc] at h
          refine tb_Es (k := 1) (st' := (25, [(3, .int x3.1), (0, .ref v0), (1, .int v1), (2, .int v2)], [.int x3.1], x3.2)) rfl ?_
          replace h := Option.bind_eq_some_iff.mp h
          obtain ⟨x4, ex4, h⟩ := h
          have hcall := ex4
          refine tb_e_cs (v := some (.int x4.1)) rfl rfl rfl (Nat.le_of_ble_eq_true rfl) rfl (Nat.le_of_ble_eq_true rfl) ((dc_t_isDigit hcall).up (by decide)) ?_
          refine tb_b_ieq rfl (fun hc => ?_) (fun hc => ?_)
          · rw [if_pos hc] at h
            refine tb_Es (k := 1) (st' := (33, [(3, .int x3.1), (0, .ref v0), (1, .int v1), (2, .int v2)], [.int x3.1], x4.2)) rfl ?_
            replace h := Option.bind_eq_some_iff.mp h
            obtain ⟨x5, ex5, h⟩ := h
            have hcall := ex5
            refine tb_e_cs (v := some (.int x5.1)) rfl rfl rfl (Nat.le_of_ble_eq_true rfl) rfl (Nat.le_of_ble_eq_true rfl) ((dc_t_isLetter hcall).up (by decide)) ?_
            refine tb_b_ieq rfl (fun hc => ?_) (fun hc => ?_)
            · rw [if_pos hc] at h
              refine tb_Es (k := 2) (st' := (42, [(3, .int x3.1), (0, .ref v0), (1, .int v1), (2, .int v2)], [.int v1, .ref v0], x5.2)) rfl ?_
              replace h := Option.bind_eq_some_iff.mp h
              obtain ⟨x6, ex6, h⟩ := h
              obtain ⟨hkx6, hcall⟩ := tb_on_some ex6
              refine tb_e_cv (v := some (.int x6.1)) rfl (Or.inl ⟨_, rfl⟩) rfl rfl (Nat.le_of_ble_eq_true rfl) rfl (Nat.le_of_ble_eq_true rfl) hkx6 ((dc_t_splitSign hcall).up (by decide)) ?_
              refine tb_Es (k := 4) (st' := (8, [(0, .ref v0), (1, .int x6.1), (2, .int (v2 + 1))], [], x6.2)) rfl ?_
              exact ih v0 x6.1 (v2 + 1) x6.2 _ h r hx
            · rw [if_neg hc] at h
              refine tb_Es (k := 2) (st' := (37, [(3, .int x3.1), (0, .ref v0), (1, .int v1), (2, .int v2)], [.int v1, .ref v0], x5.2)) rfl ?_
              replace h := Option.bind_eq_some_iff.mp h
              obtain ⟨x7, ex7, h⟩ := h
              obtain ⟨hkx7, hcall⟩ := tb_on_some ex7
              refine tb_e_cv (v := some (.int x7.1)) rfl (Or.inl ⟨_, rfl⟩) rfl rfl (Nat.le_of_ble_eq_true rfl) rfl (Nat.le_of_ble_eq_true rfl) hkx7 ((dc_t_splitWord hcall).up (by decide)) ?_
              refine tb_Es (k := 5) (st' := (8, [(0, .ref v0), (1, .int x7.1), (2, .int (v2 + 1))], [], x7.2)) rfl ?_
              exact ih v0 x7.1 (v2 + 1) x7.2 _ h r hx
          · rw [if_neg hc] at h
            refine tb_Es (k := 2) (st' := (29, [(3, .int x3.1), (0, .ref v0), (1, .int v1), (2, .int v2)], [.int v1, .ref v0], x4.2)) rfl ?_
            replace h := Option.bind_eq_some_iff.mp h
            obtain ⟨x8, ex8, h⟩ := h
            obtain ⟨hkx8, hcall⟩ := tb_on_some ex8
            refine tb_e_cv (v := some (.int x8.1)) rfl (Or.inl ⟨_, rfl⟩) rfl rfl (Nat.le_of_ble_eq_true rfl) rfl (Nat.le_of_ble_eq_true rfl) hkx8 ((dc_t_splitNumber hcall).up (by decide)) ?_
            refine tb_Es (k := 5) (st' := (8, [(0, .ref v0), (1, .int x8.1), (2, .int (v2 + 1))], [], x8.2)) rfl ?_
            exact ih v0 x8.1 (v2 + 1) x8.2 _ h r hx
      · rw [if_neg hc] at h
        refine tb_Es (k := 1) (st' := (47, [(0, .ref v0)], [], w)) rfl ?_
        obtain rfl := Option.some.inj h
        exact hx
    · rw [if_neg hc] at h
      refine tb_Es (k := 1) (st' := (47, [(0, .ref v0)], [], w)) rfl ?_
      obtain rfl := Option.some.inj h
      exact hx
def fb_t_begin (a0 : Nat) (w : tb_Hp) : Option (tb_Hp) := (tb_pI 19 8 a0 0 w).bind fun w1 => (fl_t_begin_7 1048576 a0 0 0 w1).bind fun o9 => (tb_gI 19 0 o9.1 o9.2).bind fun x10 => (tb_on 19 o9.1 o9.2 (fb_t_addToken o9.1 0 x10 0 o9.2)).bind fun x11 => (tb_pI 19 3 o9.1 0 x11).bind fun w12 => (tb_pI 19 9 o9.1 (-1) w12).bind fun w13 => (tb_on 19 o9.1 w13 (fb_t_advance o9.1 w13)).bind fun x14 => some x14
set_option maxHeartbeats 4000000 in
set_option maxRecDepth 20000 in
theorem dc_t_begin {a0 : Nat} {w : tb_Hp} {o : tb_Hp} (h : fb_t_begin a0 w = some o) : tb_Ev tb_P 3 19 (0, tb_ent [.ref a0], [], w) (none, o) := by
  unfold fb_t_begin at h
  obtain ⟨r, hr⟩ : ∃ r : Option Value × tb_Hp, r = (none, o) := ⟨_, rfl⟩
  rw [← hr]
  show tb_Ev tb_P 3 19 (0, [(0, .ref a0)], [], w) r
  refine tb_Es (k := 2) (st' := (2, [(0, .ref a0)], [.int 0, .ref a0], w)) rfl ?_
  replace h := Option.bind_eq_some_iff.mp h
  obtain ⟨w1, ew1, h⟩ := h
  refine tb_e_pI rfl ew1 ?_
  refine tb_Es (k := 5) (st' := (8, [(0, .ref a0), (1, .int 0), (2, .int 0)], [], w1)) rfl ?_
  replace h := Option.bind_eq_some_iff.mp h
  obtain ⟨o9, eo9, h⟩ := h
  refine dl_t_begin_7 _ a0 0 0 w1 _ eo9 r ?_
  refine tb_Es (k := 3) (st' := (50, [(0, .ref o9.1)], [.ref o9.1, .int 0, .ref o9.1], o9.2)) rfl ?_
  replace h := Option.bind_eq_some_iff.mp h
  obtain ⟨x10, ex10, h⟩ := h
  refine tb_e_gI rfl ex10 ?_
  refine tb_Es (k := 1) (st' := (52, [(0, .ref o9.1)], [.int 0, .int x10, .int 0, .ref o9.1], o9.2)) rfl ?_
  replace h := Option.bind_eq_some_iff.mp h
  obtain ⟨x11, ex11, h⟩ := h
  obtain ⟨hkx11, hcall⟩ := tb_on_some ex11
  refine tb_e_cv (v := none) rfl (Or.inl ⟨_, rfl⟩) rfl rfl (Nat.le_of_ble_eq_true rfl) rfl (Nat.le_of_ble_eq_true rfl) hkx11 ((dc_t_addToken hcall).up (by decide)) ?_
  refine tb_Es (k := 2) (st' := (55, [(0, .ref o9.1)], [.int 0, .ref o9.1], x11)) rfl ?_
  replace h := Option.bind_eq_some_iff.mp h
  obtain ⟨w12, ew12, h⟩ := h
  refine tb_e_pI rfl ew12 ?_
  refine tb_Es (k := 2) (st' := (58, [(0, .ref o9.1)], [.int (-1), .ref o9.1], w12)) rfl ?_
  replace h := Option.bind_eq_some_iff.mp h
  obtain ⟨w13, ew13, h⟩ := h
  refine tb_e_pI rfl ew13 ?_
  refine tb_Es (k := 1) (st' := (60, [(0, .ref o9.1)], [.ref o9.1], w13)) rfl ?_
  replace h := Option.bind_eq_some_iff.mp h
  obtain ⟨x14, ex14, h⟩ := h
  obtain ⟨hkx14, hcall⟩ := tb_on_some ex14
  refine tb_e_cv (v := none) rfl (Or.inl ⟨_, rfl⟩) rfl rfl (Nat.le_of_ble_eq_true rfl) rfl (Nat.le_of_ble_eq_true rfl) hkx14 ((dc_t_advance hcall).up (by decide)) ?_
  obtain rfl := Option.some.inj h
  subst hr
  exact tb_Er rfl rfl
/-! TannerBunting$StreetReader.readClause(I)V -/
def fj_sr_readClause_j45 (v0 : Nat) (v1 : Int32) (v2 : Int32) (v3 : Int32) (s0 : Int32) (w : tb_Hp) : Option (tb_Hp) := (if v3 = 0 then (tb_gN 18 1 v0 w).bind fun p5 => (tb_on 19 p5 w (fb_t_fail p5 4 w)).bind fun x6 => some x6 else (if s0 = 0 then (if v1 < 40 then (tb_gN 18 1 v0 w).bind fun p7 => (tb_on 19 p7 w (fb_t_advance p7 w)).bind fun x8 => (if v2 = 32 then (tb_gN 18 0 v0 x8).bind fun p9 => (tb_on 18 v0 x8 (fb_sr_readNumber v0 1 5 x8)).bind fun x10 => (tb_pI 17 0 p9 x10.1 x10.2).bind fun w11 => (tb_gN 18 0 v0 w11).bind fun p12 => (tb_on 18 v0 w11 (fb_sr_readNumber v0 0 9 w11)).bind fun x13 => (tb_pI 17 1 p12 x13.1 x13.2).bind fun w14 => some w14 else (if v2 = 33 then (tb_on 18 v0 x8 (fb_sr_readHouse v0 x8)).bind fun x15 => some x15 else (tb_on 18 v0 x8 (fb_sr_readLine v0 x8)).bind fun x16 => some x16)) else (tb_gN 18 1 v0 w).bind fun p17 => (tb_on 19 p17 w (fb_t_fail p17 4 w)).bind fun x18 => some x18) else (tb_gN 18 1 v0 w).bind fun p19 => (tb_on 19 p19 w (fb_t_fail p19 4 w)).bind fun x20 => some x20))
set_option maxHeartbeats 4000000 in
set_option maxRecDepth 20000 in
theorem dj_sr_readClause_j45 (v0 : Nat) (v1 : Int32) (v2 : Int32) (v3 : Int32) (s0 : Int32) (w : tb_Hp) (o : tb_Hp) (h : fj_sr_readClause_j45 v0 v1 v2 v3 s0 w = some o) (r : Option Value × tb_Hp) (hr : r = (none, o)) : tb_Ev tb_P 3 31 (49, [(0, .ref v0), (1, .int v1), (2, .int v2), (3, .int v3)], [.int s0], w) r := by
  unfold fj_sr_readClause_j45 at h
  refine tb_Es (k := 2) (st' := (51, [(4, .int s0), (0, .ref v0), (1, .int v1), (2, .int v2), (3, .int v3)], [.int v3], w)) rfl ?_
  refine tb_b_ieq rfl (fun hc => ?_) (fun hc => ?_)
  · rw [if_pos hc] at h
    refine tb_Es (k := 1) (st' := (58, [(4, .int s0), (0, .ref v0), (1, .int v1), (2, .int v2), (3, .int v3)], [.ref v0], w)) rfl ?_
    replace h := Option.bind_eq_some_iff.mp h
    obtain ⟨p5, ep5, h⟩ := h
    refine tb_e_gN rfl ep5 ?_
    refine tb_Es (k := 1) (st' := (60, [(4, .int s0), (0, .ref v0), (1, .int v1), (2, .int v2), (3, .int v3)], [.int 4, .ref p5], w)) rfl ?_
    replace h := Option.bind_eq_some_iff.mp h
    obtain ⟨x6, ex6, h⟩ := h
    obtain ⟨hkx6, hcall⟩ := tb_on_some ex6
    refine tb_e_cv (v := none) rfl (Or.inl ⟨_, rfl⟩) rfl rfl (Nat.le_of_ble_eq_true rfl) rfl (Nat.le_of_ble_eq_true rfl) hkx6 ((dc_t_fail hcall).up (by decide)) ?_
    obtain rfl := Option.some.inj h
    subst hr
    exact tb_Er rfl rfl
  · rw [if_neg hc] at h
    refine tb_Es (k := 1) (st' := (53, [(4, .int s0), (0, .ref v0), (1, .int v1), (2, .int v2), (3, .int v3)], [.int s0], w)) rfl ?_
    refine tb_b_ine rfl (fun hc => ?_) (fun hc => ?_)
    · rw [if_pos hc] at h
      refine tb_Es (k := 2) (st' := (56, [(4, .int s0), (0, .ref v0), (1, .int v1), (2, .int v2), (3, .int v3)], [.int 40, .int v1], w)) rfl ?_
      refine tb_b_clt rfl (fun hc => ?_) (fun hc => ?_)
      · rw [if_pos hc] at h
        refine tb_Es (k := 1) (st' := (63, [(4, .int s0), (0, .ref v0), (1, .int v1), (2, .int v2), (3, .int v3)], [.ref v0], w)) rfl ?_
        replace h := Option.bind_eq_some_iff.mp h
        obtain ⟨p7, ep7, h⟩ := h
        refine tb_e_gN rfl ep7 ?_
        replace h := Option.bind_eq_some_iff.mp h
        obtain ⟨x8, ex8, h⟩ := h
        obtain ⟨hkx8, hcall⟩ := tb_on_some ex8
        refine tb_e_cv (v := none) rfl (Or.inl ⟨_, rfl⟩) rfl rfl (Nat.le_of_ble_eq_true rfl) rfl (Nat.le_of_ble_eq_true rfl) hkx8 ((dc_t_advance hcall).up (by decide)) ?_
        refine tb_Es (k := 2) (st' := (67, [(4, .int s0), (0, .ref v0), (1, .int v1), (2, .int v2), (3, .int v3)], [.int 32, .int v2], x8)) rfl ?_
        refine tb_b_cne rfl (fun hc => ?_) (fun hc => ?_)
        · rw [if_pos hc] at h
          refine tb_Es (k := 1) (st' := (69, [(4, .int s0), (0, .ref v0), (1, .int v1), (2, .int v2), (3, .int v3)], [.ref v0], x8)) rfl ?_
          replace h := Option.bind_eq_some_iff.mp h
          obtain ⟨p9, ep9, h⟩ := h
          refine tb_e_gN rfl ep9 ?_
          refine tb_Es (k := 3) (st' := (73, [(4, .int s0), (0, .ref v0), (1, .int v1), (2, .int v2), (3, .int v3)], [.int 5, .int 1, .ref v0, .ref p9], x8)) rfl ?_
          replace h := Option.bind_eq_some_iff.mp h
          obtain ⟨x10, ex10, h⟩ := h
          obtain ⟨hkx10, hcall⟩ := tb_on_some ex10
          refine tb_e_cv (v := some (.int x10.1)) rfl (Or.inl ⟨_, rfl⟩) rfl rfl (Nat.le_of_ble_eq_true rfl) rfl (Nat.le_of_ble_eq_true rfl) hkx10 ((dc_sr_readNumber hcall).up (by decide)) ?_
          replace h := Option.bind_eq_some_iff.mp h
          obtain ⟨w11, ew11, h⟩ := h
          refine tb_e_pI rfl ew11 ?_
          refine tb_Es (k := 1) (st' := (76, [(4, .int s0), (0, .ref v0), (1, .int v1), (2, .int v2), (3, .int v3)], [.ref v0], w11)) rfl ?_
          replace h := Option.bind_eq_some_iff.mp h
          obtain ⟨p12, ep12, h⟩ := h
          refine tb_e_gN rfl ep12 ?_
          refine tb_Es (k := 3) (st' := (80, [(4, .int s0), (0, .ref v0), (1, .int v1), (2, .int v2), (3, .int v3)], [.int 9, .int 0, .ref v0, .ref p12], w11)) rfl ?_
          replace h := Option.bind_eq_some_iff.mp h
          obtain ⟨x13, ex13, h⟩ := h
          obtain ⟨hkx13, hcall⟩ := tb_on_some ex13
          refine tb_e_cv (v := some (.int x13.1)) rfl (Or.inl ⟨_, rfl⟩) rfl rfl (Nat.le_of_ble_eq_true rfl) rfl (Nat.le_of_ble_eq_true rfl) hkx13 ((dc_sr_readNumber hcall).up (by decide)) ?_
          replace h := Option.bind_eq_some_iff.mp h
          obtain ⟨w14, ew14, h⟩ := h
          refine tb_e_pI rfl ew14 ?_
          refine tb_Es (k := 1) (st' := (91, [(4, .int s0), (0, .ref v0), (1, .int v1), (2, .int v2), (3, .int v3)], [], w14)) rfl ?_
          obtain rfl := Option.some.inj h
          subst hr
          exact tb_Er rfl rfl
        · rw [if_neg hc] at h
          refine tb_Es (k := 2) (st' := (85, [(4, .int s0), (0, .ref v0), (1, .int v1), (2, .int v2), (3, .int v3)], [.int 33, .int v2], x8)) rfl ?_
          refine tb_b_cne rfl (fun hc => ?_) (fun hc => ?_)
          · rw [if_pos hc] at h
            refine tb_Es (k := 1) (st' := (87, [(4, .int s0), (0, .ref v0), (1, .int v1), (2, .int v2), (3, .int v3)], [.ref v0], x8)) rfl ?_
            replace h := Option.bind_eq_some_iff.mp h
            obtain ⟨x15, ex15, h⟩ := h
            obtain ⟨hkx15, hcall⟩ := tb_on_some ex15
            refine tb_e_cv (v := none) rfl (Or.inl ⟨_, rfl⟩) rfl rfl (Nat.le_of_ble_eq_true rfl) rfl (Nat.le_of_ble_eq_true rfl) hkx15 ((dc_sr_readHouse hcall).up (by decide)) ?_
            refine tb_Es (k := 1) (st' := (91, [(4, .int s0), (0, .ref v0), (1, .int v1), (2, .int v2), (3, .int v3)], [], x15)) rfl ?_
            obtain rfl := Option.some.inj h
            subst hr
            exact tb_Er rfl rfl
          · rw [if_neg hc] at h
            refine tb_Es (k := 1) (st' := (90, [(4, .int s0), (0, .ref v0), (1, .int v1), (2, .int v2), (3, .int v3)], [.ref v0], x8)) rfl ?_
            replace h := Option.bind_eq_some_iff.mp h
            obtain ⟨x16, ex16, h⟩ := h
            obtain ⟨hkx16, hcall⟩ := tb_on_some ex16
            refine tb_e_cv (v := none) rfl (Or.inl ⟨_, rfl⟩) rfl rfl (Nat.le_of_ble_eq_true rfl) rfl (Nat.le_of_ble_eq_true rfl) hkx16 ((dc_sr_readLine hcall).up (by decide)) ?_
            obtain rfl := Option.some.inj h
            subst hr
            exact tb_Er rfl rfl
      · rw [if_neg hc] at h
        refine tb_Es (k := 1) (st' := (58, [(4, .int s0), (0, .ref v0), (1, .int v1), (2, .int v2), (3, .int v3)], [.ref v0], w)) rfl ?_
        replace h := Option.bind_eq_some_iff.mp h
        obtain ⟨p17, ep17, h⟩ := h
        refine tb_e_gN rfl ep17 ?_
        refine tb_Es (k := 1) (st' := (60, [(4, .int s0), (0, .ref v0), (1, .int v1), (2, .int v2), (3, .int v3)], [.int 4, .ref p17], w)) rfl ?_
        replace h := Option.bind_eq_some_iff.mp h
        obtain ⟨x18, ex18, h⟩ := h
        obtain ⟨hkx18, hcall⟩ := tb_on_some ex18
        refine tb_e_cv (v := none) rfl (Or.inl ⟨_, rfl⟩) rfl rfl (Nat.le_of_ble_eq_true rfl) rfl (Nat.le_of_ble_eq_true rfl) hkx18 ((dc_t_fail hcall).up (by decide)) ?_
        obtain rfl := Option.some.inj h
        subst hr
        exact tb_Er rfl rfl
    · rw [if_neg hc] at h
      refine tb_Es (k := 1) (st' := (58, [(4, .int s0), (0, .ref v0), (1, .int v1), (2, .int v2), (3, .int v3)], [.ref v0], w)) rfl ?_
      replace h := Option.bind_eq_some_iff.mp h
      obtain ⟨p19, ep19, h⟩ := h
      refine tb_e_gN rfl ep19 ?_
      refine tb_Es (k := 1) (st' := (60, [(4, .int s0), (0, .ref v0), (1, .int v1), (2, .int v2), (3, .int v3)], [.int 4, .ref p19], w)) rfl ?_
      replace h := Option.bind_eq_some_iff.mp h
      obtain ⟨x20, ex20, h⟩ := h
      obtain ⟨hkx20, hcall⟩ := tb_on_some ex20
      refine tb_e_cv (v := none) rfl (Or.inl ⟨_, rfl⟩) rfl rfl (Nat.le_of_ble_eq_true rfl) rfl (Nat.le_of_ble_eq_true rfl) hkx20 ((dc_t_fail hcall).up (by decide)) ?_
      obtain rfl := Option.some.inj h
      subst hr
      exact tb_Er rfl rfl
def fj_sr_readClause_j33 (v0 : Nat) (v1 : Int32) (v2 : Int32) (s0 : Int32) (w : tb_Hp) : Option (tb_Hp) := (if v2 = 20 then (tb_gN 18 0 v0 w).bind fun p3 => (tb_gI 17 3 p3 w).bind fun x4 => (if x4 < 8 then fj_sr_readClause_j45 v0 v1 v2 s0 0 w else fj_sr_readClause_j45 v0 v1 v2 s0 1 w) else fj_sr_readClause_j45 v0 v1 v2 s0 0 w)
set_option maxHeartbeats 4000000 in
set_option maxRecDepth 20000 in
theorem dj_sr_readClause_j33 (v0 : Nat) (v1 : Int32) (v2 : Int32) (s0 : Int32) (w : tb_Hp) (o : tb_Hp) (h : fj_sr_readClause_j33 v0 v1 v2 s0 w = some o) (r : Option Value × tb_Hp) (hr : r = (none, o)) : tb_Ev tb_P 3 31 (36, [(0, .ref v0), (1, .int v1), (2, .int v2)], [.int s0], w) r := by
  unfold fj_sr_readClause_j33 at h
  refine tb_Es (k := 3) (st' := (39, [(3, .int s0), (0, .ref v0), (1, .int v1), (2, .int v2)], [.int 20, .int v2], w)) rfl ?_
  refine tb_b_cne rfl (fun hc => ?_) (fun hc => ?_)
  · rw [if_pos hc] at h
    refine tb_Es (k := 1) (st' := (41, [(3, .int s0), (0, .ref v0), (1, .int v1), (2, .int v2)], [.ref v0], w)) rfl ?_
    replace h := Option.bind_eq_some_iff.mp h
    obtain ⟨p3, ep3, h⟩ := h
    refine tb_e_gN rfl ep3 ?_
    replace h := Option.bind_eq_some_iff.mp h
    obtain ⟨x4, ex4, h⟩ := h
    refine tb_e_gI rfl ex4 ?_
    refine tb_Es (k := 1) (st' := (44, [(3, .int s0), (0, .ref v0), (1, .int v1), (2, .int v2)], [.int 8, .int x4], w)) rfl ?_
    refine tb_b_clt rfl (fun hc => ?_) (fun hc => ?_)
    · rw [if_pos hc] at h
      refine tb_Es (k := 2) (st' := (49, [(0, .ref v0), (1, .int v1), (2, .int v2), (3, .int s0)], [.int 0], w)) rfl ?_
      exact dj_sr_readClause_j45 v0 v1 v2 s0 0 w _ h r hr
    · rw [if_neg hc] at h
      refine tb_Es (k := 3) (st' := (49, [(0, .ref v0), (1, .int v1), (2, .int v2), (3, .int s0)], [.int 1], w)) rfl ?_
      exact dj_sr_readClause_j45 v0 v1 v2 s0 1 w _ h r hr
  · rw [if_neg hc] at h
    refine tb_Es (k := 2) (st' := (49, [(0, .ref v0), (1, .int v1), (2, .int v2), (3, .int s0)], [.int 0], w)) rfl ?_
    exact dj_sr_readClause_j45 v0 v1 v2 s0 0 w _ h r hr
def fj_sr_readClause_j24 (v0 : Nat) (v1 : Int32) (v2 : Int32) (s0 : Int32) (w : tb_Hp) : Option (tb_Hp) := (if v1 = 0 then (if s0 = 1 then fj_sr_readClause_j33 v0 v1 v2 1 w else fj_sr_readClause_j33 v0 v1 v2 0 w) else (if s0 = 0 then fj_sr_readClause_j33 v0 v1 v2 1 w else fj_sr_readClause_j33 v0 v1 v2 0 w))
set_option maxHeartbeats 4000000 in
set_option maxRecDepth 20000 in
theorem dj_sr_readClause_j24 (v0 : Nat) (v1 : Int32) (v2 : Int32) (s0 : Int32) (w : tb_Hp) (o : tb_Hp) (h : fj_sr_readClause_j24 v0 v1 v2 s0 w = some o) (r : Option Value × tb_Hp) (hr : r = (none, o)) : tb_Ev tb_P 3 31 (26, [(0, .ref v0), (1, .int v1), (2, .int v2)], [.int s0], w) r := by
  unfold fj_sr_readClause_j24 at h
  refine tb_Es (k := 1) (st' := (27, [(0, .ref v0), (1, .int v1), (2, .int v2)], [.int v1, .int s0], w)) rfl ?_
  refine tb_b_ine rfl (fun hc => ?_) (fun hc => ?_)
  · rw [if_pos hc] at h
    refine tb_Es (k := 2) (st' := (31, [(0, .ref v0), (1, .int v1), (2, .int v2)], [.int 1, .int s0], w)) rfl ?_
    refine tb_b_cne rfl (fun hc => ?_) (fun hc => ?_)
    · rw [if_pos hc] at h
      refine tb_Es (k := 3) (st' := (36, [(0, .ref v0), (1, .int v1), (2, .int v2)], [.int 1], w)) rfl ?_
      exact dj_sr_readClause_j33 v0 v1 v2 1 w _ h r hr
    · rw [if_neg hc] at h
      refine tb_Es (k := 2) (st' := (36, [(0, .ref v0), (1, .int v1), (2, .int v2)], [.int 0], w)) rfl ?_
      exact dj_sr_readClause_j33 v0 v1 v2 0 w _ h r hr
  · rw [if_neg hc] at h
    refine tb_Es (k := 1) (st' := (31, [(0, .ref v0), (1, .int v1), (2, .int v2)], [.int 0, .int s0], w)) rfl ?_
    refine tb_b_cne rfl (fun hc => ?_) (fun hc => ?_)
    · rw [if_pos hc] at h
      refine tb_Es (k := 3) (st' := (36, [(0, .ref v0), (1, .int v1), (2, .int v2)], [.int 1], w)) rfl ?_
      exact dj_sr_readClause_j33 v0 v1 v2 1 w _ h r hr
    · rw [if_neg hc] at h
      refine tb_Es (k := 2) (st' := (36, [(0, .ref v0), (1, .int v1), (2, .int v2)], [.int 0], w)) rfl ?_
      exact dj_sr_readClause_j33 v0 v1 v2 0 w _ h r hr
def fj_sr_readClause_j18 (v0 : Nat) (v1 : Int32) (v2 : Int32) (w : tb_Hp) : Option (tb_Hp) := (if v2 = 32 then fj_sr_readClause_j24 v0 v1 v2 1 w else fj_sr_readClause_j24 v0 v1 v2 0 w)
set_option maxHeartbeats 4000000 in
set_option maxRecDepth 20000 in
theorem dj_sr_readClause_j18 (v0 : Nat) (v1 : Int32) (v2 : Int32) (w : tb_Hp) (o : tb_Hp) (h : fj_sr_readClause_j18 v0 v1 v2 w = some o) (r : Option Value × tb_Hp) (hr : r = (none, o)) : tb_Ev tb_P 3 31 (19, [(0, .ref v0), (1, .int v1), (2, .int v2)], [], w) r := by
  unfold fj_sr_readClause_j18 at h
  refine tb_Es (k := 2) (st' := (21, [(0, .ref v0), (1, .int v1), (2, .int v2)], [.int 32, .int v2], w)) rfl ?_
  refine tb_b_cne rfl (fun hc => ?_) (fun hc => ?_)
  · rw [if_pos hc] at h
    refine tb_Es (k := 3) (st' := (26, [(0, .ref v0), (1, .int v1), (2, .int v2)], [.int 1], w)) rfl ?_
    exact dj_sr_readClause_j24 v0 v1 v2 1 w _ h r hr
  · rw [if_neg hc] at h
    refine tb_Es (k := 2) (st' := (26, [(0, .ref v0), (1, .int v1), (2, .int v2)], [.int 0], w)) rfl ?_
    exact dj_sr_readClause_j24 v0 v1 v2 0 w _ h r hr
def fb_sr_readClause (a0 : Nat) (a1 : Int32) (w : tb_Hp) : Option (tb_Hp) := (tb_gN 18 1 a0 w).bind fun p1 => (tb_gI 19 1 p1 w).bind fun x2 => (if x2 = 32 then fj_sr_readClause_j18 a0 a1 x2 w else (if x2 = 33 then fj_sr_readClause_j18 a0 a1 x2 w else (if x2 = 20 then fj_sr_readClause_j18 a0 a1 x2 w else (tb_gN 18 1 a0 w).bind fun p21 => (tb_on 19 p21 w (fb_t_fail p21 0 w)).bind fun x22 => some x22)))
set_option maxHeartbeats 4000000 in
set_option maxRecDepth 20000 in
theorem dc_sr_readClause {a0 : Nat} {a1 : Int32} {w : tb_Hp} {o : tb_Hp} (h : fb_sr_readClause a0 a1 w = some o) : tb_Ev tb_P 3 31 (0, tb_ent [.ref a0, .int a1], [], w) (none, o) := by
  unfold fb_sr_readClause at h
  obtain ⟨r, hr⟩ : ∃ r : Option Value × tb_Hp, r = (none, o) := ⟨_, rfl⟩
  rw [← hr]
  show tb_Ev tb_P 3 31 (0, [(0, .ref a0), (1, .int a1)], [], w) r
  refine tb_Es (k := 1) (st' := (1, [(0, .ref a0), (1, .int a1)], [.ref a0], w)) rfl ?_
  replace h := Option.bind_eq_some_iff.mp h
  obtain ⟨p1, ep1, h⟩ := h
  refine tb_e_gN rfl ep1 ?_
  replace h := Option.bind_eq_some_iff.mp h
  obtain ⟨x2, ex2, h⟩ := h
  refine tb_e_gI rfl ex2 ?_
  refine tb_Es (k := 3) (st' := (6, [(2, .int x2), (0, .ref a0), (1, .int a1)], [.int 32, .int x2], w)) rfl ?_
  refine tb_b_ceq rfl (fun hc => ?_) (fun hc => ?_)
  · rw [if_pos hc] at h
    refine tb_Es (k := 1) (st' := (19, [(0, .ref a0), (1, .int a1), (2, .int x2)], [], w)) rfl ?_
    exact dj_sr_readClause_j18 a0 a1 x2 w _ h r hr
  · rw [if_neg hc] at h
    refine tb_Es (k := 2) (st' := (9, [(2, .int x2), (0, .ref a0), (1, .int a1)], [.int 33, .int x2], w)) rfl ?_
    refine tb_b_ceq rfl (fun hc => ?_) (fun hc => ?_)
    · rw [if_pos hc] at h
      refine tb_Es (k := 1) (st' := (19, [(0, .ref a0), (1, .int a1), (2, .int x2)], [], w)) rfl ?_
      exact dj_sr_readClause_j18 a0 a1 x2 w _ h r hr
    · rw [if_neg hc] at h
      refine tb_Es (k := 2) (st' := (12, [(2, .int x2), (0, .ref a0), (1, .int a1)], [.int 20, .int x2], w)) rfl ?_
      refine tb_b_ceq rfl (fun hc => ?_) (fun hc => ?_)
      · rw [if_pos hc] at h
        refine tb_Es (k := 1) (st' := (19, [(0, .ref a0), (1, .int a1), (2, .int x2)], [], w)) rfl ?_
        exact dj_sr_readClause_j18 a0 a1 x2 w _ h r hr
      · rw [if_neg hc] at h
        refine tb_Es (k := 1) (st' := (14, [(2, .int x2), (0, .ref a0), (1, .int a1)], [.ref a0], w)) rfl ?_
        replace h := Option.bind_eq_some_iff.mp h
        obtain ⟨p21, ep21, h⟩ := h
        refine tb_e_gN rfl ep21 ?_
        refine tb_Es (k := 1) (st' := (16, [(2, .int x2), (0, .ref a0), (1, .int a1)], [.int 0, .ref p21], w)) rfl ?_
        replace h := Option.bind_eq_some_iff.mp h
        obtain ⟨x22, ex22, h⟩ := h
        obtain ⟨hkx22, hcall⟩ := tb_on_some ex22
        refine tb_e_cv (v := none) rfl (Or.inl ⟨_, rfl⟩) rfl rfl (Nat.le_of_ble_eq_true rfl) rfl (Nat.le_of_ble_eq_true rfl) hkx22 ((dc_t_fail hcall).up (by decide)) ?_
        obtain rfl := Option.some.inj h
        subst hr
        exact tb_Er rfl rfl
/-! TannerBunting$RuleReader.readSum()V -/
def fl_rr_readSum_11 : Nat → Nat → Int32 → Int32 → Int32 → tb_Hp → Option (Nat × Int32 × Int32 × tb_Hp)
  | 0, _, _, _, _, _ => none
  | n + 1, v0, v1, v2, v3, w => (if v3 < 400 then (tb_gN 14 0 v0 w).bind fun p2 => (tb_gI 19 1 p2 w).bind fun x3 => (fb_x_within x3 9 11 w).bind fun x4 => (if x4.1 = 0 then some ((v0, v1, v2, x4.2)) else (tb_gN 14 0 v0 x4.2).bind fun p5 => (tb_gI 19 1 p5 x4.2).bind fun x6 => (tb_gN 14 0 v0 x4.2).bind fun p7 => (tb_on 19 p7 x4.2 (fb_t_advance p7 x4.2)).bind fun x8 => (tb_on 14 v0 x8 (fb_rr_readValue v0 x8)).bind fun x9 => (tb_on 14 v0 x9 (fb_rr_emit v0 (-x6) x9)).bind fun x10 => fl_rr_readSum_11 n v0 v1 v2 (v3 + 1) x10) else some ((v0, v1, v2, w)))
set_option maxHeartbeats 4000000 in
set_option maxRecDepth 20000 in
theorem dl_rr_readSum_11 : ∀ (n : Nat) (v0 : Nat) (v1 : Int32) (v2 : Int32) (v3 : Int32) (w : tb_Hp) (o : Nat × Int32 × Int32 × tb_Hp), fl_rr_readSum_11 n v0 v1 v2 v3 w = some o → ∀ (r : Option Value × tb_Hp), tb_Ev tb_P 3 49 (39, [(0, .ref o.1), (1, .int o.2.1), (2, .int o.2.2.1)], [], o.2.2.2) r → tb_Ev tb_P 3 49 (13, [(0, .ref v0), (1, .int v1), (2, .int v2), (3, .int v3)], [], w) r := by
  intro n
  induction n with
  | zero =>
    intro v0 v1 v2 v3 w o h
    cases h
  | succ n ih =>
    intro v0 v1 v2 v3 w o h r hx
    unfold fl_rr_readSum_11 at h
    refine tb_Es (k := 2) (st' := (15, [(0, .ref v0), (1, .int v1), (2, .int v2), (3, .int v3)], [.int 400, .int v3], w)) rfl ?_
    refine tb_b_cge rfl (fun hc => ?_) (fun hc => ?_)
    · rw [if_pos hc] at h
      refine tb_Es (k := 1) (st' := (17, [(0, .ref v0), (1, .int v1), (2, .int v2), (3, .int v3)], [.ref v0], w)) rfl ?_
      replace h := Option.bind_eq_some_iff.mp h
      obtain ⟨p2, ep2, h⟩ := h
      refine tb_e_gN rfl ep2 ?_
      replace h := Option.bind_eq_some_iff.mp h
      obtain ⟨x3, ex3, h⟩ := h
      refine tb_e_gI rfl ex3 ?_
      refine tb_Es (k := 2) (st' := (21, [(0, .ref v0), (1, .int v1), (2, .int v2), (3, .int v3)], [.int 11, .int 9, .int x3], w)) rfl ?_
      replace h := Option.bind_eq_some_iff.mp h
      obtain ⟨x4, ex4, h⟩ := h
      have hcall := ex4
      refine tb_e_cs (v := some (.int x4.1)) rfl rfl rfl (Nat.le_of_ble_eq_true rfl) rfl (Nat.le_of_ble_eq_true rfl) ((dc_x_within hcall).up (by decide)) ?_
      refine tb_b_ieq rfl (fun hc => ?_) (fun hc => ?_)
      · rw [if_pos hc] at h
        refine tb_Es (k := 1) (st' := (39, [(0, .ref v0), (1, .int v1), (2, .int v2)], [], x4.2)) rfl ?_
        obtain rfl := Option.some.inj h
        exact hx
      · rw [if_neg hc] at h
        refine tb_Es (k := 1) (st' := (24, [(0, .ref v0), (1, .int v1), (2, .int v2), (3, .int v3)], [.ref v0], x4.2)) rfl ?_
        replace h := Option.bind_eq_some_iff.mp h
        obtain ⟨p5, ep5, h⟩ := h
        refine tb_e_gN rfl ep5 ?_
        replace h := Option.bind_eq_some_iff.mp h
        obtain ⟨x6, ex6, h⟩ := h
        refine tb_e_gI rfl ex6 ?_
        refine tb_Es (k := 2) (st' := (28, [(4, .int x6), (0, .ref v0), (1, .int v1), (2, .int v2), (3, .int v3)], [.ref v0], x4.2)) rfl ?_
        replace h := Option.bind_eq_some_iff.mp h
        obtain ⟨p7, ep7, h⟩ := h
        refine tb_e_gN rfl ep7 ?_
        replace h := Option.bind_eq_some_iff.mp h
        obtain ⟨x8, ex8, h⟩ := h
        obtain ⟨hkx8, hcall⟩ := tb_on_some ex8
        refine tb_e_cv (v := none) rfl (Or.inl ⟨_, rfl⟩) rfl rfl (Nat.le_of_ble_eq_true rfl) rfl (Nat.le_of_ble_eq_true rfl) hkx8 ((dc_t_advance hcall).up (by decide)) ?_
        refine tb_Es (k := 1) (st' := (31, [(4, .int x6), (0, .ref v0), (1, .int v1), (2, .int v2), (3, .int v3)], [.ref v0], x8)) rfl ?_
        replace h := Option.bind_eq_some_iff.mp h
        obtain ⟨x9, ex9, h⟩ := h
        obtain ⟨hkx9, hcall⟩ := tb_on_some ex9
        refine tb_e_cv (v := none) rfl (Or.inl ⟨_, rfl⟩) rfl rfl (Nat.le_of_ble_eq_true rfl) rfl (Nat.le_of_ble_eq_true rfl) hkx9 ((dc_rr_readValue hcall).up (by decide)) ?_
        refine tb_Es (k := 3) (st' := (35, [(4, .int x6), (0, .ref v0), (1, .int v1), (2, .int v2), (3, .int v3)], [.int (-x6), .ref v0], x9)) rfl ?_
        replace h := Option.bind_eq_some_iff.mp h
        obtain ⟨x10, ex10, h⟩ := h
        obtain ⟨hkx10, hcall⟩ := tb_on_some ex10
        refine tb_e_cv (v := none) rfl (Or.inl ⟨_, rfl⟩) rfl rfl (Nat.le_of_ble_eq_true rfl) rfl (Nat.le_of_ble_eq_true rfl) hkx10 ((dc_rr_emit hcall).up (by decide)) ?_
        refine tb_Es (k := 3) (st' := (13, [(0, .ref v0), (1, .int v1), (2, .int v2), (3, .int (v3 + 1))], [], x10)) rfl ?_
        exact ih v0 v1 v2 (v3 + 1) x10 _ h r hx
    · rw [if_neg hc] at h
      refine tb_Es (k := 1) (st' := (39, [(0, .ref v0), (1, .int v1), (2, .int v2)], [], w)) rfl ?_
      obtain rfl := Option.some.inj h
      exact hx
def fj_rr_readSum_j52 (k : Nat → Int32 → Int32 → tb_Hp → Option (tb_Hp)) (w : tb_Hp) : Option (tb_Hp) := some (w)
set_option maxHeartbeats 4000000 in
set_option maxRecDepth 20000 in
theorem dj_rr_readSum_j52 (k : Nat → Int32 → Int32 → tb_Hp → Option (tb_Hp)) (w : tb_Hp) (o : tb_Hp) (h : fj_rr_readSum_j52 k  w = some o) (r : Option Value × tb_Hp) (hx : r = (none, o)) (hk : ∀ (v0 : Nat) (v1 : Int32) (v2 : Int32) (w : tb_Hp), k v0 v1 v2 w = some o → tb_Ev tb_P 3 49 (5, [(0, .ref v0), (1, .int v1), (2, .int v2)], [], w) r) : tb_Ev tb_P 3 49 (57, [], [], w) r := by
  unfold fj_rr_readSum_j52 at h
  obtain rfl := Option.some.inj h
  replace hx : r = _ := hx
  subst hx
  exact tb_Er rfl rfl
def fj_rr_readSum_j42 (k : Nat → Int32 → Int32 → tb_Hp → Option (tb_Hp)) (v0 : Nat) (v2 : Int32) (w : tb_Hp) : Option (tb_Hp) := (tb_gN 14 0 v0 w).bind fun p13 => (tb_gI 19 1 p13 w).bind fun x14 => (if x14 = 7 then (tb_gN 14 0 v0 w).bind fun p15 => (tb_on 19 p15 w (fb_t_advance p15 w)).bind fun x16 => k v0 x14 (v2 + 1) x16 else (if x14 = 8 then (tb_gN 14 0 v0 w).bind fun p17 => (tb_on 19 p17 w (fb_t_advance p17 w)).bind fun x18 => k v0 x14 (v2 + 1) x18 else fj_rr_readSum_j52 k  w))
set_option maxHeartbeats 4000000 in
set_option maxRecDepth 20000 in
theorem dj_rr_readSum_j42 (k : Nat → Int32 → Int32 → tb_Hp → Option (tb_Hp)) (v0 : Nat) (v2 : Int32) (w : tb_Hp) (o : tb_Hp) (h : fj_rr_readSum_j42 k v0 v2 w = some o) (r : Option Value × tb_Hp) (hx : r = (none, o)) (hk : ∀ (v0 : Nat) (v1 : Int32) (v2 : Int32) (w : tb_Hp), k v0 v1 v2 w = some o → tb_Ev tb_P 3 49 (5, [(0, .ref v0), (1, .int v1), (2, .int v2)], [], w) r) : tb_Ev tb_P 3 49 (46, [(0, .ref v0), (2, .int v2)], [], w) r := by
  unfold fj_rr_readSum_j42 at h
  refine tb_Es (k := 1) (st' := (47, [(0, .ref v0), (2, .int v2)], [.ref v0], w)) rfl ?_
  replace h := Option.bind_eq_some_iff.mp h
  obtain ⟨p13, ep13, h⟩ := h
  refine tb_e_gN rfl ep13 ?_
  replace h := Option.bind_eq_some_iff.mp h
  obtain ⟨x14, ex14, h⟩ := h
  refine tb_e_gI rfl ex14 ?_
  refine tb_Es (k := 3) (st' := (52, [(1, .int x14), (0, .ref v0), (2, .int v2)], [.int 7, .int x14], w)) rfl ?_
  refine tb_b_ceq rfl (fun hc => ?_) (fun hc => ?_)
  · rw [if_pos hc] at h
    refine tb_Es (k := 1) (st' := (59, [(1, .int x14), (0, .ref v0), (2, .int v2)], [.ref v0], w)) rfl ?_
    replace h := Option.bind_eq_some_iff.mp h
    obtain ⟨p15, ep15, h⟩ := h
    refine tb_e_gN rfl ep15 ?_
    replace h := Option.bind_eq_some_iff.mp h
    obtain ⟨x16, ex16, h⟩ := h
    obtain ⟨hkx16, hcall⟩ := tb_on_some ex16
    refine tb_e_cv (v := none) rfl (Or.inl ⟨_, rfl⟩) rfl rfl (Nat.le_of_ble_eq_true rfl) rfl (Nat.le_of_ble_eq_true rfl) hkx16 ((dc_t_advance hcall).up (by decide)) ?_
    refine tb_Es (k := 3) (st' := (5, [(0, .ref v0), (1, .int x14), (2, .int (v2 + 1))], [], x16)) rfl ?_
    exact hk v0 x14 (v2 + 1) x16 h
  · rw [if_neg hc] at h
    refine tb_Es (k := 2) (st' := (55, [(1, .int x14), (0, .ref v0), (2, .int v2)], [.int 8, .int x14], w)) rfl ?_
    refine tb_b_ceq rfl (fun hc => ?_) (fun hc => ?_)
    · rw [if_pos hc] at h
      refine tb_Es (k := 1) (st' := (59, [(1, .int x14), (0, .ref v0), (2, .int v2)], [.ref v0], w)) rfl ?_
      replace h := Option.bind_eq_some_iff.mp h
      obtain ⟨p17, ep17, h⟩ := h
      refine tb_e_gN rfl ep17 ?_
      replace h := Option.bind_eq_some_iff.mp h
      obtain ⟨x18, ex18, h⟩ := h
      obtain ⟨hkx18, hcall⟩ := tb_on_some ex18
      refine tb_e_cv (v := none) rfl (Or.inl ⟨_, rfl⟩) rfl rfl (Nat.le_of_ble_eq_true rfl) rfl (Nat.le_of_ble_eq_true rfl) hkx18 ((dc_t_advance hcall).up (by decide)) ?_
      refine tb_Es (k := 3) (st' := (5, [(0, .ref v0), (1, .int x14), (2, .int (v2 + 1))], [], x18)) rfl ?_
      exact hk v0 x14 (v2 + 1) x18 h
    · rw [if_neg hc] at h
      refine tb_Es (k := 1) (st' := (57, [], [], w)) rfl ?_
      exact dj_rr_readSum_j52 k  w _ h r hx hk
def fj_rr_readSum_j58 (k : Nat → Int32 → Int32 → tb_Hp → Option (tb_Hp)) (w : tb_Hp) : Option (tb_Hp) := some (w)
set_option maxHeartbeats 4000000 in
set_option maxRecDepth 20000 in
theorem dj_rr_readSum_j58 (k : Nat → Int32 → Int32 → tb_Hp → Option (tb_Hp)) (w : tb_Hp) (o : tb_Hp) (h : fj_rr_readSum_j58 k  w = some o) (r : Option Value × tb_Hp) (hx : r = (none, o)) (hk : ∀ (v0 : Nat) (v1 : Int32) (v2 : Int32) (w : tb_Hp), k v0 v1 v2 w = some o → tb_Ev tb_P 3 49 (5, [(0, .ref v0), (1, .int v1), (2, .int v2)], [], w) r) : tb_Ev tb_P 3 49 (64, [], [], w) r := by
  unfold fj_rr_readSum_j58 at h
  obtain rfl := Option.some.inj h
  replace hx : r = _ := hx
  subst hx
  exact tb_Er rfl rfl
def fl_rr_readSum_4 : Nat → Nat → Int32 → Int32 → tb_Hp → Option (tb_Hp)
  | 0, _, _, _, _ => none
  | n + 1, v0, v1, v2, w => (if v2 < 400 then (tb_on 14 v0 w (fb_rr_readValue v0 w)).bind fun x1 => (fl_rr_readSum_11 1048576 v0 v1 v2 0 x1).bind fun o11 => (if 0 < o11.2.2.1 then (tb_on 14 o11.1 o11.2.2.2 (fb_rr_emit o11.1 (-o11.2.1) o11.2.2.2)).bind fun x12 => fj_rr_readSum_j42 (fl_rr_readSum_4 n) o11.1 o11.2.2.1 x12 else fj_rr_readSum_j42 (fl_rr_readSum_4 n) o11.1 o11.2.2.1 o11.2.2.2) else fj_rr_readSum_j58 (fl_rr_readSum_4 n)  w)
set_option maxHeartbeats 4000000 in
set_option maxRecDepth 20000 in
theorem dl_rr_readSum_4 : ∀ (n : Nat) (v0 : Nat) (v1 : Int32) (v2 : Int32) (w : tb_Hp) (o : tb_Hp), fl_rr_readSum_4 n v0 v1 v2 w = some o → ∀ (r : Option Value × tb_Hp), r = (none, o) → tb_Ev tb_P 3 49 (5, [(0, .ref v0), (1, .int v1), (2, .int v2)], [], w) r := by
  intro n
  induction n with
  | zero =>
    intro v0 v1 v2 w o h
    cases h
  | succ n ih =>
    intro v0 v1 v2 w o h r hx
    unfold fl_rr_readSum_4 at h
    refine tb_Es (k := 2) (st' := (7, [(0, .ref v0), (1, .int v1), (2, .int v2)], [.int 400, .int v2], w)) rfl ?_
    refine tb_b_cge rfl (fun hc => ?_) (fun hc => ?_)
    · rw [if_pos hc] at h
      refine tb_Es (k := 1) (st' := (9, [(0, .ref v0), (1, .int v1), (2, .int v2)], [.ref v0], w)) rfl ?_
      replace h := Option.bind_eq_some_iff.mp h
      obtain ⟨x1, ex1, h⟩ := h
      obtain ⟨hkx1, hcall⟩ := tb_on_some ex1
      refine tb_e_cv (v := none) rfl (Or.inl ⟨_, rfl⟩) rfl rfl (Nat.le_of_ble_eq_true rfl) rfl (Nat.le_of_ble_eq_true rfl) hkx1 ((dc_rr_readValue hcall).up (by decide)) ?_
      refine tb_Es (k := 3) (st' := (13, [(0, .ref v0), (1, .int v1), (2, .int v2), (3, .int 0)], [], x1)) rfl ?_
      replace h := Option.bind_eq_some_iff.mp h
      obtain ⟨o11, eo11, h⟩ := h
      refine dl_rr_readSum_11 _ v0 v1 v2 0 x1 _ eo11 r ?_
      refine tb_Es (k := 1) (st' := (40, [(0, .ref o11.1), (1, .int o11.2.1), (2, .int o11.2.2.1)], [.int o11.2.2.1], o11.2.2.2)) rfl ?_
      refine tb_b_ile rfl (fun hc => ?_) (fun hc => ?_)
      · rw [if_pos hc] at h
        refine tb_Es (k := 3) (st' := (44, [(0, .ref o11.1), (1, .int o11.2.1), (2, .int o11.2.2.1)], [.int (-o11.2.1), .ref o11.1], o11.2.2.2)) rfl ?_
        replace h := Option.bind_eq_some_iff.mp h
        obtain ⟨x12, ex12, h⟩ := h
        obtain ⟨hkx12, hcall⟩ := tb_on_some ex12
        refine tb_e_cv (v := none) rfl (Or.inl ⟨_, rfl⟩) rfl rfl (Nat.le_of_ble_eq_true rfl) rfl (Nat.le_of_ble_eq_true rfl) hkx12 ((dc_rr_emit hcall).up (by decide)) ?_
        refine tb_Es (k := 1) (st' := (46, [(0, .ref o11.1), (2, .int o11.2.2.1)], [], x12)) rfl ?_
        exact dj_rr_readSum_j42 (fl_rr_readSum_4 n) o11.1 o11.2.2.1 x12 _ h r hx (fun v0_ v1_ v2_ w_ h_ => ih v0_ v1_ v2_ w_ _ h_ r hx)
      · rw [if_neg hc] at h
        refine tb_Es (k := 1) (st' := (46, [(0, .ref o11.1), (2, .int o11.2.2.1)], [], o11.2.2.2)) rfl ?_
        exact dj_rr_readSum_j42 (fl_rr_readSum_4 n) o11.1 o11.2.2.1 o11.2.2.2 _ h r hx (fun v0_ v1_ v2_ w_ h_ => ih v0_ v1_ v2_ w_ _ h_ r hx)
    · rw [if_neg hc] at h
      refine tb_Es (k := 1) (st' := (64, [], [], w)) rfl ?_
      exact dj_rr_readSum_j58 (fl_rr_readSum_4 n)  w _ h r hx (fun v0_ v1_ v2_ w_ h_ => ih v0_ v1_ v2_ w_ _ h_ r hx)
def fb_rr_readSum (a0 : Nat) (w : tb_Hp) : Option (tb_Hp) := (fl_rr_readSum_4 1048576 a0 0 0 w).bind fun o19 => some o19
set_option maxHeartbeats 4000000 in
set_option maxRecDepth 20000 in
theorem dc_rr_readSum {a0 : Nat} {w : tb_Hp} {o : tb_Hp} (h : fb_rr_readSum a0 w = some o) : tb_Ev tb_P 3 49 (0, tb_ent [.ref a0], [], w) (none, o) := by
  unfold fb_rr_readSum at h
  obtain ⟨r, hr⟩ : ∃ r : Option Value × tb_Hp, r = (none, o) := ⟨_, rfl⟩
  rw [← hr]
  show tb_Ev tb_P 3 49 (0, [(0, .ref a0)], [], w) r
  refine tb_Es (k := 5) (st' := (5, [(0, .ref a0), (1, .int 0), (2, .int 0)], [], w)) rfl ?_
  replace h := Option.bind_eq_some_iff.mp h
  obtain ⟨o19, eo19, h⟩ := h
  refine dl_rr_readSum_4 _ a0 0 0 w _ eo19 r ?_
  obtain rfl := Option.some.inj h
  exact hr
/-! TannerBunting$Street.linesAt(I)I -/
def fb_s_linesAt (a0 : Nat) (a1 : Int32) (w : tb_Hp) : Option (Int32 × tb_Hp) := (tb_on 17 a0 w (fb_s_isHouse a0 a1 w)).bind fun x1 => (if x1.1 = 0 then some (0, x1.2) else (tb_on 17 a0 x1.2 (fb_s_linesAtAny a0 (1 <<< (a1 &&& 31)) x1.2)).bind fun x2 => some (x2.1, x2.2))
set_option maxHeartbeats 4000000 in
set_option maxRecDepth 20000 in
theorem dc_s_linesAt {a0 : Nat} {a1 : Int32} {w : tb_Hp} {o : Int32 × tb_Hp} (h : fb_s_linesAt a0 a1 w = some o) : tb_Ev tb_P 3 63 (0, tb_ent [.ref a0, .int a1], [], w) (some (.int o.1), o.2) := by
  unfold fb_s_linesAt at h
  obtain ⟨r, hr⟩ : ∃ r : Option Value × tb_Hp, r = (some (.int o.1), o.2) := ⟨_, rfl⟩
  rw [← hr]
  show tb_Ev tb_P 3 63 (0, [(0, .ref a0), (1, .int a1)], [], w) r
  refine tb_Es (k := 2) (st' := (2, [(0, .ref a0), (1, .int a1)], [.int a1, .ref a0], w)) rfl ?_
  replace h := Option.bind_eq_some_iff.mp h
  obtain ⟨x1, ex1, h⟩ := h
  obtain ⟨hkx1, hcall⟩ := tb_on_some ex1
  refine tb_e_cv (v := some (.int x1.1)) rfl (Or.inl ⟨_, rfl⟩) rfl rfl (Nat.le_of_ble_eq_true rfl) rfl (Nat.le_of_ble_eq_true rfl) hkx1 ((dc_s_isHouse hcall).up (by decide)) ?_
  refine tb_b_ieq rfl (fun hc => ?_) (fun hc => ?_)
  · rw [if_pos hc] at h
    refine tb_Es (k := 1) (st' := (11, [(0, .ref a0), (1, .int a1)], [.int 0], x1.2)) rfl ?_
    obtain rfl := Option.some.inj h
    subst hr
    exact tb_Er rfl rfl
  · rw [if_neg hc] at h
    refine tb_Es (k := 4) (st' := (8, [(0, .ref a0), (1, .int a1)], [.int (1 <<< (a1 &&& 31)), .ref a0], x1.2)) rfl ?_
    replace h := Option.bind_eq_some_iff.mp h
    obtain ⟨x2, ex2, h⟩ := h
    obtain ⟨hkx2, hcall⟩ := tb_on_some ex2
    refine tb_e_cv (v := some (.int x2.1)) rfl (Or.inl ⟨_, rfl⟩) rfl rfl (Nat.le_of_ble_eq_true rfl) rfl (Nat.le_of_ble_eq_true rfl) hkx2 ((dc_s_linesAtAny hcall).up (by decide)) ?_
    refine tb_Es (k := 1) (st' := (11, [(0, .ref a0), (1, .int a1)], [.int x2.1], x2.2)) rfl ?_
    obtain rfl := Option.some.inj h
    subst hr
    exact tb_Er rfl rfl
/-! TannerBunting$Judge.worth([ILTannerBunting$Street;I)J -/
def fj_jg_worth_j38 (k : Nat → Nat → Nat → Int32 → Int32 → tb_Hp → Option (Int64 × tb_Hp)) (v0 : Nat) (w : tb_Hp) : Option (Int64 × tb_Hp) := (tb_on 11 v0 w (fb_jg_pop v0 w)).bind fun x4 => some ((x4.1, x4.2))
set_option maxHeartbeats 4000000 in
set_option maxRecDepth 20000 in
theorem dj_jg_worth_j38 (k : Nat → Nat → Nat → Int32 → Int32 → tb_Hp → Option (Int64 × tb_Hp)) (v0 : Nat) (w : tb_Hp) (o : Int64 × tb_Hp) (h : fj_jg_worth_j38 k v0 w = some o) (r : Option Value × tb_Hp) (hx : r = (some (.long o.1), o.2)) (hk : ∀ (v0 : Nat) (v1 : Nat) (v2 : Nat) (v3 : Int32) (v4 : Int32) (w : tb_Hp), k v0 v1 v2 v3 v4 w = some o → tb_Ev tb_P 3 78 (6, [(0, .ref v0), (1, .ref v1), (2, .ref v2), (3, .int v3), (4, .int v4)], [], w) r) : tb_Ev tb_P 3 78 (41, [(0, .ref v0)], [], w) r := by
  unfold fj_jg_worth_j38 at h
  refine tb_Es (k := 1) (st' := (42, [(0, .ref v0)], [.ref v0], w)) rfl ?_
  replace h := Option.bind_eq_some_iff.mp h
  obtain ⟨x4, ex4, h⟩ := h
  obtain ⟨hkx4, hcall⟩ := tb_on_some ex4
  refine tb_e_cv (v := some (.long x4.1)) rfl (Or.inl ⟨_, rfl⟩) rfl rfl (Nat.le_of_ble_eq_true rfl) rfl (Nat.le_of_ble_eq_true rfl) hkx4 ((dc_jg_pop hcall).up (by decide)) ?_
  obtain rfl := Option.some.inj h
  replace hx : r = _ := hx
  subst hx
  exact tb_Er rfl rfl
def fj_jg_worth_j58 (k : Nat → Nat → Nat → Int32 → Int32 → tb_Hp → Option (Int64 × tb_Hp)) (v7 : Int64) (w : tb_Hp) : Option (Int64 × tb_Hp) := some ((v7, w))
set_option maxHeartbeats 4000000 in
set_option maxRecDepth 20000 in
theorem dj_jg_worth_j58 (k : Nat → Nat → Nat → Int32 → Int32 → tb_Hp → Option (Int64 × tb_Hp)) (v7 : Int64) (w : tb_Hp) (o : Int64 × tb_Hp) (h : fj_jg_worth_j58 k v7 w = some o) (r : Option Value × tb_Hp) (hx : r = (some (.long o.1), o.2)) (hk : ∀ (v0 : Nat) (v1 : Nat) (v2 : Nat) (v3 : Int32) (v4 : Int32) (w : tb_Hp), k v0 v1 v2 v3 v4 w = some o → tb_Ev tb_P 3 78 (6, [(0, .ref v0), (1, .ref v1), (2, .ref v2), (3, .int v3), (4, .int v4)], [], w) r) : tb_Ev tb_P 3 78 (63, [(7, .long v7)], [], w) r := by
  unfold fj_jg_worth_j58 at h
  refine tb_Es (k := 1) (st' := (64, [(7, .long v7)], [.long v7], w)) rfl ?_
  obtain rfl := Option.some.inj h
  replace hx : r = _ := hx
  subst hx
  exact tb_Er rfl rfl
def fj_jg_worth_j52 (k : Nat → Nat → Nat → Int32 → Int32 → tb_Hp → Option (Int64 × tb_Hp)) (v0 : Nat) (v1 : Nat) (v2 : Nat) (v3 : Int32) (v4 : Int32) (s0 : Int32) (w : tb_Hp) : Option (Int64 × tb_Hp) := (tb_on 11 v0 w (fb_jg_pop v0 w)).bind fun x6 => (if s0 = 0 then k v0 v1 v2 v3 (v4 + 1) x6.2 else fj_jg_worth_j58 k x6.1 x6.2)
set_option maxHeartbeats 4000000 in
set_option maxRecDepth 20000 in
theorem dj_jg_worth_j52 (k : Nat → Nat → Nat → Int32 → Int32 → tb_Hp → Option (Int64 × tb_Hp)) (v0 : Nat) (v1 : Nat) (v2 : Nat) (v3 : Int32) (v4 : Int32) (s0 : Int32) (w : tb_Hp) (o : Int64 × tb_Hp) (h : fj_jg_worth_j52 k v0 v1 v2 v3 v4 s0 w = some o) (r : Option Value × tb_Hp) (hx : r = (some (.long o.1), o.2)) (hk : ∀ (v0 : Nat) (v1 : Nat) (v2 : Nat) (v3 : Int32) (v4 : Int32) (w : tb_Hp), k v0 v1 v2 v3 v4 w = some o → tb_Ev tb_P 3 78 (6, [(0, .ref v0), (1, .ref v1), (2, .ref v2), (3, .int v3), (4, .int v4)], [], w) r) : tb_Ev tb_P 3 78 (56, [(0, .ref v0), (1, .ref v1), (2, .ref v2), (3, .int v3), (4, .int v4)], [.int s0], w) r := by
  unfold fj_jg_worth_j52 at h
  refine tb_Es (k := 2) (st' := (58, [(6, .int s0), (0, .ref v0), (1, .ref v1), (2, .ref v2), (3, .int v3), (4, .int v4)], [.ref v0], w)) rfl ?_
  replace h := Option.bind_eq_some_iff.mp h
  obtain ⟨x6, ex6, h⟩ := h
  obtain ⟨hkx6, hcall⟩ := tb_on_some ex6
  refine tb_e_cv (v := some (.long x6.1)) rfl (Or.inl ⟨_, rfl⟩) rfl rfl (Nat.le_of_ble_eq_true rfl) rfl (Nat.le_of_ble_eq_true rfl) hkx6 ((dc_jg_pop hcall).up (by decide)) ?_
  refine tb_Es (k := 2) (st' := (61, [(7, .long x6.1), (6, .int s0), (0, .ref v0), (1, .ref v1), (2, .ref v2), (3, .int v3), (4, .int v4)], [.int s0], x6.2)) rfl ?_
  refine tb_b_ieq rfl (fun hc => ?_) (fun hc => ?_)
  · rw [if_pos hc] at h
    refine tb_Es (k := 4) (st' := (6, [(0, .ref v0), (1, .ref v1), (2, .ref v2), (3, .int v3), (4, .int (v4 + 1))], [], x6.2)) rfl ?_
    exact hk v0 v1 v2 v3 (v4 + 1) x6.2 h
  · rw [if_neg hc] at h
    refine tb_Es (k := 1) (st' := (63, [(7, .long x6.1)], [], x6.2)) rfl ?_
    exact dj_jg_worth_j58 k x6.1 x6.2 _ h r hx hk
def fj_jg_worth_j35 (k : Nat → Nat → Nat → Int32 → Int32 → tb_Hp → Option (Int64 × tb_Hp)) (v0 : Nat) (v1 : Nat) (v2 : Nat) (v3 : Int32) (v4 : Int32) (v5 : Int32) (w : tb_Hp) : Option (Int64 × tb_Hp) := (if v5 = (-34) then fj_jg_worth_j38 k v0 w else (if v5 = (-35) then (tb_on 11 v0 w (fb_jg_pop v0 w)).bind fun x5 => (if (lg_cmp x5.1 0) = 0 then fj_jg_worth_j52 k v0 v1 v2 v3 v4 0 x5.2 else fj_jg_worth_j52 k v0 v1 v2 v3 v4 1 x5.2) else (if v5 = (-38) then (tb_on 11 v0 w (fb_jg_pop v0 w)).bind fun x7 => (if (lg_cmp x7.1 0) = 0 then (tb_on 11 v0 x7.2 (fb_jg_push v0 1 x7.2)).bind fun x8 => k v0 v1 v2 v3 (v4 + 1) x8 else (tb_on 11 v0 x7.2 (fb_jg_push v0 0 x7.2)).bind fun x9 => k v0 v1 v2 v3 (v4 + 1) x9) else (tb_on 11 v0 w (fb_jg_pop v0 w)).bind fun x10 => (tb_on 11 v0 x10.2 (fb_jg_pop v0 x10.2)).bind fun x11 => (fb_x_within (-v5) 7 11 x11.2).bind fun x12 => (if x12.1 = 0 then (fb_jg_truth (-v5) x11.1 x10.1 x12.2).bind fun x13 => (tb_on 11 v0 x13.2 (fb_jg_push v0 x13.1 x13.2)).bind fun x14 => k v0 v1 v2 v3 (v4 + 1) x14 else (fb_jg_reckon (-v5) x11.1 x10.1 x12.2).bind fun x15 => (tb_on 11 v0 x15.2 (fb_jg_push v0 x15.1 x15.2)).bind fun x16 => k v0 v1 v2 v3 (v4 + 1) x16))))
set_option maxHeartbeats 4000000 in
set_option maxRecDepth 20000 in
theorem dj_jg_worth_j35 (k : Nat → Nat → Nat → Int32 → Int32 → tb_Hp → Option (Int64 × tb_Hp)) (v0 : Nat) (v1 : Nat) (v2 : Nat) (v3 : Int32) (v4 : Int32) (v5 : Int32) (w : tb_Hp) (o : Int64 × tb_Hp) (h : fj_jg_worth_j35 k v0 v1 v2 v3 v4 v5 w = some o) (r : Option Value × tb_Hp) (hx : r = (some (.long o.1), o.2)) (hk : ∀ (v0 : Nat) (v1 : Nat) (v2 : Nat) (v3 : Int32) (v4 : Int32) (w : tb_Hp), k v0 v1 v2 v3 v4 w = some o → tb_Ev tb_P 3 78 (6, [(0, .ref v0), (1, .ref v1), (2, .ref v2), (3, .int v3), (4, .int v4)], [], w) r) : tb_Ev tb_P 3 78 (37, [(0, .ref v0), (1, .ref v1), (2, .ref v2), (3, .int v3), (4, .int v4), (5, .int v5)], [], w) r := by
  unfold fj_jg_worth_j35 at h
  refine tb_Es (k := 2) (st' := (39, [(0, .ref v0), (1, .ref v1), (2, .ref v2), (3, .int v3), (4, .int v4), (5, .int v5)], [.int (-34), .int v5], w)) rfl ?_
  refine tb_b_cne rfl (fun hc => ?_) (fun hc => ?_)
  · rw [if_pos hc] at h
    refine tb_Es (k := 1) (st' := (41, [(0, .ref v0)], [], w)) rfl ?_
    exact dj_jg_worth_j38 k v0 w _ h r hx hk
  · rw [if_neg hc] at h
    refine tb_Es (k := 2) (st' := (46, [(0, .ref v0), (1, .ref v1), (2, .ref v2), (3, .int v3), (4, .int v4), (5, .int v5)], [.int (-35), .int v5], w)) rfl ?_
    refine tb_b_cne rfl (fun hc => ?_) (fun hc => ?_)
    · rw [if_pos hc] at h
      refine tb_Es (k := 1) (st' := (48, [(0, .ref v0), (1, .ref v1), (2, .ref v2), (3, .int v3), (4, .int v4), (5, .int v5)], [.ref v0], w)) rfl ?_
      replace h := Option.bind_eq_some_iff.mp h
      obtain ⟨x5, ex5, h⟩ := h
      obtain ⟨hkx5, hcall⟩ := tb_on_some ex5
      refine tb_e_cv (v := some (.long x5.1)) rfl (Or.inl ⟨_, rfl⟩) rfl rfl (Nat.le_of_ble_eq_true rfl) rfl (Nat.le_of_ble_eq_true rfl) hkx5 ((dc_jg_pop hcall).up (by decide)) ?_
      refine tb_Es (k := 2) (st' := (51, [(0, .ref v0), (1, .ref v1), (2, .ref v2), (3, .int v3), (4, .int v4), (5, .int v5)], [.int (lg_cmp x5.1 0)], x5.2)) rfl ?_
      refine tb_b_ieq rfl (fun hc => ?_) (fun hc => ?_)
      · rw [if_pos hc] at h
        refine tb_Es (k := 2) (st' := (56, [(0, .ref v0), (1, .ref v1), (2, .ref v2), (3, .int v3), (4, .int v4)], [.int 0], x5.2)) rfl ?_
        exact dj_jg_worth_j52 k v0 v1 v2 v3 v4 0 x5.2 _ h r hx hk
      · rw [if_neg hc] at h
        refine tb_Es (k := 3) (st' := (56, [(0, .ref v0), (1, .ref v1), (2, .ref v2), (3, .int v3), (4, .int v4)], [.int 1], x5.2)) rfl ?_
        exact dj_jg_worth_j52 k v0 v1 v2 v3 v4 1 x5.2 _ h r hx hk
    · rw [if_neg hc] at h
      refine tb_Es (k := 2) (st' := (68, [(0, .ref v0), (1, .ref v1), (2, .ref v2), (3, .int v3), (4, .int v4), (5, .int v5)], [.int (-38), .int v5], w)) rfl ?_
      refine tb_b_cne rfl (fun hc => ?_) (fun hc => ?_)
      · rw [if_pos hc] at h
        refine tb_Es (k := 2) (st' := (71, [(0, .ref v0), (1, .ref v1), (2, .ref v2), (3, .int v3), (4, .int v4), (5, .int v5)], [.ref v0, .ref v0], w)) rfl ?_
        replace h := Option.bind_eq_some_iff.mp h
        obtain ⟨x7, ex7, h⟩ := h
        obtain ⟨hkx7, hcall⟩ := tb_on_some ex7
        refine tb_e_cv (v := some (.long x7.1)) rfl (Or.inl ⟨_, rfl⟩) rfl rfl (Nat.le_of_ble_eq_true rfl) rfl (Nat.le_of_ble_eq_true rfl) hkx7 ((dc_jg_pop hcall).up (by decide)) ?_
        refine tb_Es (k := 2) (st' := (74, [(0, .ref v0), (1, .ref v1), (2, .ref v2), (3, .int v3), (4, .int v4), (5, .int v5)], [.int (lg_cmp x7.1 0), .ref v0], x7.2)) rfl ?_
        refine tb_b_ine rfl (fun hc => ?_) (fun hc => ?_)
        · rw [if_pos hc] at h
          refine tb_Es (k := 2) (st' := (78, [(0, .ref v0), (1, .ref v1), (2, .ref v2), (3, .int v3), (4, .int v4), (5, .int v5)], [.long 1, .ref v0], x7.2)) rfl ?_
          replace h := Option.bind_eq_some_iff.mp h
          obtain ⟨x8, ex8, h⟩ := h
          obtain ⟨hkx8, hcall⟩ := tb_on_some ex8
          refine tb_e_cv (v := none) rfl (Or.inl ⟨_, rfl⟩) rfl rfl (Nat.le_of_ble_eq_true rfl) rfl (Nat.le_of_ble_eq_true rfl) hkx8 ((dc_jg_push hcall).up (by decide)) ?_
          refine tb_Es (k := 4) (st' := (6, [(0, .ref v0), (1, .ref v1), (2, .ref v2), (3, .int v3), (4, .int (v4 + 1))], [], x8)) rfl ?_
          exact hk v0 v1 v2 v3 (v4 + 1) x8 h
        · rw [if_neg hc] at h
          refine tb_Es (k := 1) (st' := (78, [(0, .ref v0), (1, .ref v1), (2, .ref v2), (3, .int v3), (4, .int v4), (5, .int v5)], [.long 0, .ref v0], x7.2)) rfl ?_
          replace h := Option.bind_eq_some_iff.mp h
          obtain ⟨x9, ex9, h⟩ := h
          obtain ⟨hkx9, hcall⟩ := tb_on_some ex9
          refine tb_e_cv (v := none) rfl (Or.inl ⟨_, rfl⟩) rfl rfl (Nat.le_of_ble_eq_true rfl) rfl (Nat.le_of_ble_eq_true rfl) hkx9 ((dc_jg_push hcall).up (by decide)) ?_
          refine tb_Es (k := 4) (st' := (6, [(0, .ref v0), (1, .ref v1), (2, .ref v2), (3, .int v3), (4, .int (v4 + 1))], [], x9)) rfl ?_
          exact hk v0 v1 v2 v3 (v4 + 1) x9 h
      · rw [if_neg hc] at h
        refine tb_Es (k := 1) (st' := (81, [(0, .ref v0), (1, .ref v1), (2, .ref v2), (3, .int v3), (4, .int v4), (5, .int v5)], [.ref v0], w)) rfl ?_
        replace h := Option.bind_eq_some_iff.mp h
        obtain ⟨x10, ex10, h⟩ := h
        obtain ⟨hkx10, hcall⟩ := tb_on_some ex10
        refine tb_e_cv (v := some (.long x10.1)) rfl (Or.inl ⟨_, rfl⟩) rfl rfl (Nat.le_of_ble_eq_true rfl) rfl (Nat.le_of_ble_eq_true rfl) hkx10 ((dc_jg_pop hcall).up (by decide)) ?_
        refine tb_Es (k := 2) (st' := (84, [(6, .long x10.1), (0, .ref v0), (1, .ref v1), (2, .ref v2), (3, .int v3), (4, .int v4), (5, .int v5)], [.ref v0], x10.2)) rfl ?_
        replace h := Option.bind_eq_some_iff.mp h
        obtain ⟨x11, ex11, h⟩ := h
        obtain ⟨hkx11, hcall⟩ := tb_on_some ex11
        refine tb_e_cv (v := some (.long x11.1)) rfl (Or.inl ⟨_, rfl⟩) rfl rfl (Nat.le_of_ble_eq_true rfl) rfl (Nat.le_of_ble_eq_true rfl) hkx11 ((dc_jg_pop hcall).up (by decide)) ?_
        refine tb_Es (k := 6) (st' := (91, [(8, .long x11.1), (6, .long x10.1), (0, .ref v0), (1, .ref v1), (2, .ref v2), (3, .int v3), (4, .int v4), (5, .int v5)], [.int 11, .int 7, .int (-v5), .ref v0], x11.2)) rfl ?_
        replace h := Option.bind_eq_some_iff.mp h
        obtain ⟨x12, ex12, h⟩ := h
        have hcall := ex12
        refine tb_e_cs (v := some (.int x12.1)) rfl rfl rfl (Nat.le_of_ble_eq_true rfl) rfl (Nat.le_of_ble_eq_true rfl) ((dc_x_within hcall).up (by decide)) ?_
        refine tb_b_ieq rfl (fun hc => ?_) (fun hc => ?_)
        · rw [if_pos hc] at h
          refine tb_Es (k := 4) (st' := (103, [(8, .long x11.1), (6, .long x10.1), (0, .ref v0), (1, .ref v1), (2, .ref v2), (3, .int v3), (4, .int v4), (5, .int v5)], [.long x10.1, .long x11.1, .int (-v5), .ref v0], x12.2)) rfl ?_
          replace h := Option.bind_eq_some_iff.mp h
          obtain ⟨x13, ex13, h⟩ := h
          have hcall := ex13
          refine tb_e_cs (v := some (.long x13.1)) rfl rfl rfl (Nat.le_of_ble_eq_true rfl) rfl (Nat.le_of_ble_eq_true rfl) ((dc_jg_truth hcall).up (by decide)) ?_
          replace h := Option.bind_eq_some_iff.mp h
          obtain ⟨x14, ex14, h⟩ := h
          obtain ⟨hkx14, hcall⟩ := tb_on_some ex14
          refine tb_e_cv (v := none) rfl (Or.inl ⟨_, rfl⟩) rfl rfl (Nat.le_of_ble_eq_true rfl) rfl (Nat.le_of_ble_eq_true rfl) hkx14 ((dc_jg_push hcall).up (by decide)) ?_
          refine tb_Es (k := 3) (st' := (6, [(0, .ref v0), (1, .ref v1), (2, .ref v2), (3, .int v3), (4, .int (v4 + 1))], [], x14)) rfl ?_
          exact hk v0 v1 v2 v3 (v4 + 1) x14 h
        · rw [if_neg hc] at h
          refine tb_Es (k := 4) (st' := (97, [(8, .long x11.1), (6, .long x10.1), (0, .ref v0), (1, .ref v1), (2, .ref v2), (3, .int v3), (4, .int v4), (5, .int v5)], [.long x10.1, .long x11.1, .int (-v5), .ref v0], x12.2)) rfl ?_
          replace h := Option.bind_eq_some_iff.mp h
          obtain ⟨x15, ex15, h⟩ := h
          have hcall := ex15
          refine tb_e_cs (v := some (.long x15.1)) rfl rfl rfl (Nat.le_of_ble_eq_true rfl) rfl (Nat.le_of_ble_eq_true rfl) ((dc_jg_reckon hcall).up (by decide)) ?_
          refine tb_Es (k := 1) (st' := (104, [(8, .long x11.1), (6, .long x10.1), (0, .ref v0), (1, .ref v1), (2, .ref v2), (3, .int v3), (4, .int v4), (5, .int v5)], [.long x15.1, .ref v0], x15.2)) rfl ?_
          replace h := Option.bind_eq_some_iff.mp h
          obtain ⟨x16, ex16, h⟩ := h
          obtain ⟨hkx16, hcall⟩ := tb_on_some ex16
          refine tb_e_cv (v := none) rfl (Or.inl ⟨_, rfl⟩) rfl rfl (Nat.le_of_ble_eq_true rfl) rfl (Nat.le_of_ble_eq_true rfl) hkx16 ((dc_jg_push hcall).up (by decide)) ?_
          refine tb_Es (k := 3) (st' := (6, [(0, .ref v0), (1, .ref v1), (2, .ref v2), (3, .int v3), (4, .int (v4 + 1))], [], x16)) rfl ?_
          exact hk v0 v1 v2 v3 (v4 + 1) x16 h
def fj_jg_worth_j102 (k : Nat → Nat → Nat → Int32 → Int32 → tb_Hp → Option (Int64 × tb_Hp)) (w : tb_Hp) : Option (Int64 × tb_Hp) := some ((0, w))
set_option maxHeartbeats 4000000 in
set_option maxRecDepth 20000 in
theorem dj_jg_worth_j102 (k : Nat → Nat → Nat → Int32 → Int32 → tb_Hp → Option (Int64 × tb_Hp)) (w : tb_Hp) (o : Int64 × tb_Hp) (h : fj_jg_worth_j102 k  w = some o) (r : Option Value × tb_Hp) (hx : r = (some (.long o.1), o.2)) (hk : ∀ (v0 : Nat) (v1 : Nat) (v2 : Nat) (v3 : Int32) (v4 : Int32) (w : tb_Hp), k v0 v1 v2 v3 v4 w = some o → tb_Ev tb_P 3 78 (6, [(0, .ref v0), (1, .ref v1), (2, .ref v2), (3, .int v3), (4, .int v4)], [], w) r) : tb_Ev tb_P 3 78 (108, [], [], w) r := by
  unfold fj_jg_worth_j102 at h
  refine tb_Es (k := 1) (st' := (109, [], [.long 0], w)) rfl ?_
  obtain rfl := Option.some.inj h
  replace hx : r = _ := hx
  subst hx
  exact tb_Er rfl rfl
def fl_jg_worth_5 : Nat → Nat → Nat → Nat → Int32 → Int32 → tb_Hp → Option (Int64 × tb_Hp)
  | 0, _, _, _, _, _, _ => none
  | n + 1, v0, v1, v2, v3, v4, w => (tb_al v1 w).bind fun x2 => (if v4 < x2 then (tb_lI [1, 9] v1 v4 w).bind fun x3 => (if x3 < 0 then (if x3 < (-31) then fj_jg_worth_j35 (fl_jg_worth_5 n) v0 v1 v2 v3 v4 x3 w else (if x3 ≤ (-20) then (fb_jg_wordOf (-x3) v2 v3 w).bind fun x17 => (tb_on 11 v0 x17.2 (fb_jg_push v0 (Int32.toInt64 x17.1) x17.2)).bind fun x18 => fl_jg_worth_5 n v0 v1 v2 v3 (v4 + 1) x18 else fj_jg_worth_j35 (fl_jg_worth_5 n) v0 v1 v2 v3 v4 x3 w)) else (tb_on 11 v0 w (fb_jg_push v0 (Int32.toInt64 x3) w)).bind fun x19 => fl_jg_worth_5 n v0 v1 v2 v3 (v4 + 1) x19) else fj_jg_worth_j102 (fl_jg_worth_5 n)  w)
set_option maxHeartbeats 4000000 in
set_option maxRecDepth 20000 in
theorem dl_jg_worth_5 : ∀ (n : Nat) (v0 : Nat) (v1 : Nat) (v2 : Nat) (v3 : Int32) (v4 : Int32) (w : tb_Hp) (o : Int64 × tb_Hp), fl_jg_worth_5 n v0 v1 v2 v3 v4 w = some o → ∀ (r : Option Value × tb_Hp), r = (some (.long o.1), o.2) → tb_Ev tb_P 3 78 (6, [(0, .ref v0), (1, .ref v1), (2, .ref v2), (3, .int v3), (4, .int v4)], [], w) r := by
  intro n
  induction n with
  | zero =>
    intro v0 v1 v2 v3 v4 w o h
    cases h
  | succ n ih =>
    intro v0 v1 v2 v3 v4 w o h r hx
    unfold fl_jg_worth_5 at h
    refine tb_Es (k := 2) (st' := (8, [(0, .ref v0), (1, .ref v1), (2, .ref v2), (3, .int v3), (4, .int v4)], [.ref v1, .int v4], w)) rfl ?_
    replace h := Option.bind_eq_some_iff.mp h
    obtain ⟨x2, ex2, h⟩ := h
    refine tb_e_al rfl ex2 ?_
    refine tb_b_cge rfl (fun hc => ?_) (fun hc => ?_)
    · rw [if_pos hc] at h
      refine tb_Es (k := 2) (st' := (12, [(0, .ref v0), (1, .ref v1), (2, .ref v2), (3, .int v3), (4, .int v4)], [.int v4, .ref v1], w)) rfl ?_
      replace h := Option.bind_eq_some_iff.mp h
      obtain ⟨x3, ex3, h⟩ := h
      refine tb_e_lI rfl (Or.inl ⟨rfl, rfl⟩) ex3 ?_
      refine tb_Es (k := 2) (st' := (15, [(5, .int x3), (0, .ref v0), (1, .ref v1), (2, .ref v2), (3, .int v3), (4, .int v4)], [.int x3], w)) rfl ?_
      refine tb_b_ilt rfl (fun hc => ?_) (fun hc => ?_)
      · rw [if_pos hc] at h
        refine tb_Es (k := 2) (st' := (23, [(5, .int x3), (0, .ref v0), (1, .ref v1), (2, .ref v2), (3, .int v3), (4, .int v4)], [.int (-31), .int x3], w)) rfl ?_
        refine tb_b_clt rfl (fun hc => ?_) (fun hc => ?_)
        · rw [if_pos hc] at h
          refine tb_Es (k := 1) (st' := (37, [(0, .ref v0), (1, .ref v1), (2, .ref v2), (3, .int v3), (4, .int v4), (5, .int x3)], [], w)) rfl ?_
          exact dj_jg_worth_j35 (fl_jg_worth_5 n) v0 v1 v2 v3 v4 x3 w _ h r hx (fun v0_ v1_ v2_ v3_ v4_ w_ h_ => ih v0_ v1_ v2_ v3_ v4_ w_ _ h_ r hx)
        · rw [if_neg hc] at h
          refine tb_Es (k := 2) (st' := (26, [(5, .int x3), (0, .ref v0), (1, .ref v1), (2, .ref v2), (3, .int v3), (4, .int v4)], [.int (-20), .int x3], w)) rfl ?_
          refine tb_b_cgt rfl (fun hc => ?_) (fun hc => ?_)
          · rw [if_pos hc] at h
            refine tb_Es (k := 5) (st' := (32, [(5, .int x3), (0, .ref v0), (1, .ref v1), (2, .ref v2), (3, .int v3), (4, .int v4)], [.int v3, .ref v2, .int (-x3), .ref v0], w)) rfl ?_
            replace h := Option.bind_eq_some_iff.mp h
            obtain ⟨x17, ex17, h⟩ := h
            have hcall := ex17
            refine tb_e_cs (v := some (.int x17.1)) rfl rfl rfl (Nat.le_of_ble_eq_true rfl) rfl (Nat.le_of_ble_eq_true rfl) ((dc_jg_wordOf hcall).up (by decide)) ?_
            refine tb_Es (k := 1) (st' := (34, [(5, .int x3), (0, .ref v0), (1, .ref v1), (2, .ref v2), (3, .int v3), (4, .int v4)], [.long (Int32.toInt64 x17.1), .ref v0], x17.2)) rfl ?_
            replace h := Option.bind_eq_some_iff.mp h
            obtain ⟨x18, ex18, h⟩ := h
            obtain ⟨hkx18, hcall⟩ := tb_on_some ex18
            refine tb_e_cv (v := none) rfl (Or.inl ⟨_, rfl⟩) rfl rfl (Nat.le_of_ble_eq_true rfl) rfl (Nat.le_of_ble_eq_true rfl) hkx18 ((dc_jg_push hcall).up (by decide)) ?_
            refine tb_Es (k := 4) (st' := (6, [(0, .ref v0), (1, .ref v1), (2, .ref v2), (3, .int v3), (4, .int (v4 + 1))], [], x18)) rfl ?_
            exact ih v0 v1 v2 v3 (v4 + 1) x18 _ h r hx
          · rw [if_neg hc] at h
            refine tb_Es (k := 1) (st' := (37, [(0, .ref v0), (1, .ref v1), (2, .ref v2), (3, .int v3), (4, .int v4), (5, .int x3)], [], w)) rfl ?_
            exact dj_jg_worth_j35 (fl_jg_worth_5 n) v0 v1 v2 v3 v4 x3 w _ h r hx (fun v0_ v1_ v2_ v3_ v4_ w_ h_ => ih v0_ v1_ v2_ v3_ v4_ w_ _ h_ r hx)
      · rw [if_neg hc] at h
        refine tb_Es (k := 3) (st' := (19, [(5, .int x3), (0, .ref v0), (1, .ref v1), (2, .ref v2), (3, .int v3), (4, .int v4)], [.long (Int32.toInt64 x3), .ref v0], w)) rfl ?_
        replace h := Option.bind_eq_some_iff.mp h
        obtain ⟨x19, ex19, h⟩ := h
        obtain ⟨hkx19, hcall⟩ := tb_on_some ex19
        refine tb_e_cv (v := none) rfl (Or.inl ⟨_, rfl⟩) rfl rfl (Nat.le_of_ble_eq_true rfl) rfl (Nat.le_of_ble_eq_true rfl) hkx19 ((dc_jg_push hcall).up (by decide)) ?_
        refine tb_Es (k := 4) (st' := (6, [(0, .ref v0), (1, .ref v1), (2, .ref v2), (3, .int v3), (4, .int (v4 + 1))], [], x19)) rfl ?_
        exact ih v0 v1 v2 v3 (v4 + 1) x19 _ h r hx
    · rw [if_neg hc] at h
      refine tb_Es (k := 1) (st' := (108, [], [], w)) rfl ?_
      exact dj_jg_worth_j102 (fl_jg_worth_5 n)  w _ h r hx (fun v0_ v1_ v2_ v3_ v4_ w_ h_ => ih v0_ v1_ v2_ v3_ v4_ w_ _ h_ r hx)
def fb_jg_worth (a0 : Nat) (a1 : Nat) (a2 : Nat) (a3 : Int32) (w : tb_Hp) : Option (Int64 × tb_Hp) := (tb_pI 11 1 a0 0 w).bind fun w1 => (fl_jg_worth_5 1048576 a0 a1 a2 a3 0 w1).bind fun o20 => some o20
set_option maxHeartbeats 4000000 in
set_option maxRecDepth 20000 in
theorem dc_jg_worth {a0 : Nat} {a1 : Nat} {a2 : Nat} {a3 : Int32} {w : tb_Hp} {o : Int64 × tb_Hp} (h : fb_jg_worth a0 a1 a2 a3 w = some o) : tb_Ev tb_P 3 78 (0, tb_ent [.ref a0, .ref a1, .ref a2, .int a3], [], w) (some (.long o.1), o.2) := by
  unfold fb_jg_worth at h
  obtain ⟨r, hr⟩ : ∃ r : Option Value × tb_Hp, r = (some (.long o.1), o.2) := ⟨_, rfl⟩
  rw [← hr]
  show tb_Ev tb_P 3 78 (0, [(0, .ref a0), (1, .ref a1), (2, .ref a2), (3, .int a3)], [], w) r
  refine tb_Es (k := 2) (st' := (2, [(0, .ref a0), (1, .ref a1), (2, .ref a2), (3, .int a3)], [.int 0, .ref a0], w)) rfl ?_
  replace h := Option.bind_eq_some_iff.mp h
  obtain ⟨w1, ew1, h⟩ := h
  refine tb_e_pI rfl ew1 ?_
  refine tb_Es (k := 3) (st' := (6, [(0, .ref a0), (1, .ref a1), (2, .ref a2), (3, .int a3), (4, .int 0)], [], w1)) rfl ?_
  replace h := Option.bind_eq_some_iff.mp h
  obtain ⟨o20, eo20, h⟩ := h
  refine dl_jg_worth_5 _ a0 a1 a2 a3 0 w1 _ eo20 r ?_
  obtain rfl := Option.some.inj h
  exact hr
