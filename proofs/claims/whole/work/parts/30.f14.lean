/-! TannerBunting.house(II)I -/
def fb_x_house (a0 : Nat) (a1 : Int32) (a2 : Int32) (w : tb_Hp) : Option (Int32 × tb_Hp) := (tb_gN 21 5 a0 w).bind fun p1 => (tb_gN 15 0 p1 w).bind fun p2 => (tb_on 17 p2 w (fb_s_isHouse p2 a1 w)).bind fun x3 => (if x3.1 = 0 then some (-1, x3.2) else (if a2 = 0 then (tb_on 17 p2 x3.2 (fb_s_leanOf p2 a1 x3.2)).bind fun x4 => some (x4.1, x4.2) else (if a2 = 1 then (tb_on 17 p2 x3.2 (fb_s_footOf p2 a1 x3.2)).bind fun x5 => some (x5.1, x5.2) else (if a2 = 2 then (tb_on 17 p2 x3.2 (fb_s_stands p2 a1 x3.2)).bind fun x6 => (if x6.1 = 0 then some (0, x6.2) else some (1, x6.2)) else (if a2 = 3 then (tb_on 17 p2 x3.2 (fb_s_linesAt p2 a1 x3.2)).bind fun x7 => some (x7.1, x7.2) else some (-1, x3.2))))))
set_option maxHeartbeats 4000000 in
set_option maxRecDepth 20000 in
theorem dc_x_house {a0 : Nat} {a1 : Int32} {a2 : Int32} {w : tb_Hp} {o : Int32 × tb_Hp} (h : fb_x_house a0 a1 a2 w = some o) : tb_Ev tb_P 4 59 (0, tb_ent [.ref a0, .int a1, .int a2], [], w) (some (.int o.1), o.2) := by
  unfold fb_x_house at h
  obtain ⟨r, hr⟩ : ∃ r : Option Value × tb_Hp, r = (some (.int o.1), o.2) := ⟨_, rfl⟩
  rw [← hr]
  show tb_Ev tb_P 4 59 (0, [(0, .ref a0), (1, .int a1), (2, .int a2)], [], w) r
  refine tb_Es (k := 1) (st' := (1, [(0, .ref a0), (1, .int a1), (2, .int a2)], [.ref a0], w)) rfl ?_
  replace h := Option.bind_eq_some_iff.mp h
  obtain ⟨p1, ep1, h⟩ := h
  refine tb_e_gN rfl ep1 ?_
  replace h := Option.bind_eq_some_iff.mp h
  obtain ⟨p2, ep2, h⟩ := h
  refine tb_e_gN rfl ep2 ?_
  refine tb_Es (k := 3) (st' := (6, [(3, .ref p2), (0, .ref a0), (1, .int a1), (2, .int a2)], [.int a1, .ref p2], w)) rfl ?_
  replace h := Option.bind_eq_some_iff.mp h
  obtain ⟨x3, ex3, h⟩ := h
  obtain ⟨hkx3, hcall⟩ := tb_on_some ex3
  refine tb_e_cv (v := some (.int x3.1)) rfl (Or.inl ⟨_, rfl⟩) rfl rfl (Nat.le_of_ble_eq_true rfl) rfl (Nat.le_of_ble_eq_true rfl) hkx3 ((dc_s_isHouse hcall).up (by decide)) ?_
  refine tb_b_ine rfl (fun hc => ?_) (fun hc => ?_)
  · rw [if_pos hc] at h
    refine tb_Es (k := 1) (st' := (9, [(3, .ref p2), (0, .ref a0), (1, .int a1), (2, .int a2)], [.int (-1)], x3.2)) rfl ?_
    obtain rfl := Option.some.inj h
    subst hr
    exact tb_Er rfl rfl
  · rw [if_neg hc] at h
    refine tb_Es (k := 1) (st' := (11, [(3, .ref p2), (0, .ref a0), (1, .int a1), (2, .int a2)], [.int a2], x3.2)) rfl ?_
    refine tb_w_tab rfl (by decide) ?_
    refine tb_w_one (k := 0) (by decide) (fun hc => ?_) (fun hc => ?_)
    · rw [if_pos hc] at h
      refine tb_Es (k := 2) (st' := (14, [(3, .ref p2), (0, .ref a0), (1, .int a1), (2, .int a2)], [.int a1, .ref p2], x3.2)) rfl ?_
      replace h := Option.bind_eq_some_iff.mp h
      obtain ⟨x4, ex4, h⟩ := h
      obtain ⟨hkx4, hcall⟩ := tb_on_some ex4
      refine tb_e_cv (v := some (.int x4.1)) rfl (Or.inl ⟨_, rfl⟩) rfl rfl (Nat.le_of_ble_eq_true rfl) rfl (Nat.le_of_ble_eq_true rfl) hkx4 ((dc_s_leanOf hcall).up (by decide)) ?_
      obtain rfl := Option.some.inj h
      subst hr
      exact tb_Er rfl rfl
    rw [if_neg hc] at h
    refine tb_w_one (k := 1) (by decide) (fun hc => ?_) (fun hc => ?_)
    · rw [if_pos hc] at h
      refine tb_Es (k := 2) (st' := (18, [(3, .ref p2), (0, .ref a0), (1, .int a1), (2, .int a2)], [.int a1, .ref p2], x3.2)) rfl ?_
      replace h := Option.bind_eq_some_iff.mp h
      obtain ⟨x5, ex5, h⟩ := h
      obtain ⟨hkx5, hcall⟩ := tb_on_some ex5
      refine tb_e_cv (v := some (.int x5.1)) rfl (Or.inl ⟨_, rfl⟩) rfl rfl (Nat.le_of_ble_eq_true rfl) rfl (Nat.le_of_ble_eq_true rfl) hkx5 ((dc_s_footOf hcall).up (by decide)) ?_
      obtain rfl := Option.some.inj h
      subst hr
      exact tb_Er rfl rfl
    rw [if_neg hc] at h
    refine tb_w_one (k := 2) (by decide) (fun hc => ?_) (fun hc => ?_)
    · rw [if_pos hc] at h
      refine tb_Es (k := 2) (st' := (22, [(3, .ref p2), (0, .ref a0), (1, .int a1), (2, .int a2)], [.int a1, .ref p2], x3.2)) rfl ?_
      replace h := Option.bind_eq_some_iff.mp h
      obtain ⟨x6, ex6, h⟩ := h
      obtain ⟨hkx6, hcall⟩ := tb_on_some ex6
      refine tb_e_cv (v := some (.int x6.1)) rfl (Or.inl ⟨_, rfl⟩) rfl rfl (Nat.le_of_ble_eq_true rfl) rfl (Nat.le_of_ble_eq_true rfl) hkx6 ((dc_s_stands hcall).up (by decide)) ?_
      refine tb_b_ieq rfl (fun hc => ?_) (fun hc => ?_)
      · rw [if_pos hc] at h
        refine tb_Es (k := 1) (st' := (27, [(3, .ref p2), (0, .ref a0), (1, .int a1), (2, .int a2)], [.int 0], x6.2)) rfl ?_
        obtain rfl := Option.some.inj h
        subst hr
        exact tb_Er rfl rfl
      · rw [if_neg hc] at h
        refine tb_Es (k := 2) (st' := (27, [(3, .ref p2), (0, .ref a0), (1, .int a1), (2, .int a2)], [.int 1], x6.2)) rfl ?_
        obtain rfl := Option.some.inj h
        subst hr
        exact tb_Er rfl rfl
    rw [if_neg hc] at h
    refine tb_w_one (k := 3) (by decide) (fun hc => ?_) (fun hc => ?_)
    · rw [if_pos hc] at h
      refine tb_Es (k := 2) (st' := (30, [(3, .ref p2), (0, .ref a0), (1, .int a1), (2, .int a2)], [.int a1, .ref p2], x3.2)) rfl ?_
      replace h := Option.bind_eq_some_iff.mp h
      obtain ⟨x7, ex7, h⟩ := h
      obtain ⟨hkx7, hcall⟩ := tb_on_some ex7
      refine tb_e_cv (v := some (.int x7.1)) rfl (Or.inl ⟨_, rfl⟩) rfl rfl (Nat.le_of_ble_eq_true rfl) rfl (Nat.le_of_ble_eq_true rfl) hkx7 ((dc_s_linesAt hcall).up (by decide)) ?_
      obtain rfl := Option.some.inj h
      subst hr
      exact tb_Er rfl rfl
    rw [if_neg hc] at h
    refine tb_w_end ?_
    refine tb_Es (k := 1) (st' := (33, [(3, .ref p2), (0, .ref a0), (1, .int a1), (2, .int a2)], [.int (-1)], x3.2)) rfl ?_
    obtain rfl := Option.some.inj h
    subst hr
    exact tb_Er rfl rfl
/-! TannerBunting$Judge.passYear(LTannerBunting$Street;[I)I -/
def fj_jg_passYear_j36 (v1 : Nat) (w : tb_Hp) : Option (Int32 × tb_Hp) := (tb_on 17 v1 w (fb_s_fade v1 w)).bind fun x2 => (tb_gI 17 2 v1 x2).bind fun x3 => (tb_pI 17 2 v1 (x3 + 1) x2).bind fun w4 => (tb_on 17 v1 w4 (fb_s_giveWay v1 w4)).bind fun x5 => some (x5.1, x5.2)
set_option maxHeartbeats 4000000 in
set_option maxRecDepth 20000 in
theorem dj_jg_passYear_j36 (v1 : Nat) (w : tb_Hp) (o : Int32 × tb_Hp) (h : fj_jg_passYear_j36 v1 w = some o) (r : Option Value × tb_Hp) (hr : r = (some (.int o.1), o.2)) : tb_Ev tb_P 4 77 (39, [(1, .ref v1)], [], w) r := by
  unfold fj_jg_passYear_j36 at h
  refine tb_Es (k := 1) (st' := (40, [(1, .ref v1)], [.ref v1], w)) rfl ?_
  replace h := Option.bind_eq_some_iff.mp h
  obtain ⟨x2, ex2, h⟩ := h
  obtain ⟨hkx2, hcall⟩ := tb_on_some ex2
  refine tb_e_cv (v := none) rfl (Or.inl ⟨_, rfl⟩) rfl rfl (Nat.le_of_ble_eq_true rfl) rfl (Nat.le_of_ble_eq_true rfl) hkx2 ((dc_s_fade hcall).up (by decide)) ?_
  refine tb_Es (k := 2) (st' := (43, [(1, .ref v1)], [.ref v1, .ref v1], x2)) rfl ?_
  replace h := Option.bind_eq_some_iff.mp h
  obtain ⟨x3, ex3, h⟩ := h
  refine tb_e_gI rfl ex3 ?_
  refine tb_Es (k := 2) (st' := (46, [(1, .ref v1)], [.int (x3 + 1), .ref v1], x2)) rfl ?_
  replace h := Option.bind_eq_some_iff.mp h
  obtain ⟨w4, ew4, h⟩ := h
  refine tb_e_pI rfl ew4 ?_
  refine tb_Es (k := 1) (st' := (48, [(1, .ref v1)], [.ref v1], w4)) rfl ?_
  replace h := Option.bind_eq_some_iff.mp h
  obtain ⟨x5, ex5, h⟩ := h
  obtain ⟨hkx5, hcall⟩ := tb_on_some ex5
  refine tb_e_cv (v := some (.int x5.1)) rfl (Or.inl ⟨_, rfl⟩) rfl rfl (Nat.le_of_ble_eq_true rfl) rfl (Nat.le_of_ble_eq_true rfl) hkx5 ((dc_s_giveWay hcall).up (by decide)) ?_
  obtain rfl := Option.some.inj h
  subst hr
  exact tb_Er rfl rfl
def fl_jg_passYear_7 : Nat → Nat → Nat → Nat → Int32 → Int32 → tb_Hp → Option (Nat × Int32 × tb_Hp)
  | 0, _, _, _, _, _, _ => none
  | n + 1, v0, v1, v2, v3, v4, w => (tb_gI 17 3 v1 w).bind fun x7 => (if v4 < x7 then (tb_on 17 v1 w (fb_s_isUp v1 v4 w)).bind fun x8 => (if x8.1 = 0 then fl_jg_passYear_7 n v0 v1 v2 v3 (v4 + 1) x8.2 else (tb_on 11 v0 x8.2 (fb_jg_worth v0 v2 v1 v4 x8.2)).bind fun x9 => (if (lg_cmp x9.1 0) ≤ 0 then fl_jg_passYear_7 n v0 v1 v2 (v3 &&& ((1 <<< (v4 &&& 31)) ^^^ (-1))) (v4 + 1) x9.2 else fl_jg_passYear_7 n v0 v1 v2 v3 (v4 + 1) x9.2)) else some ((v1, v3, w)))
set_option maxHeartbeats 4000000 in
set_option maxRecDepth 20000 in
theorem dl_jg_passYear_7 : ∀ (n : Nat) (v0 : Nat) (v1 : Nat) (v2 : Nat) (v3 : Int32) (v4 : Int32) (w : tb_Hp) (o : Nat × Int32 × tb_Hp), fl_jg_passYear_7 n v0 v1 v2 v3 v4 w = some o → ∀ (r : Option Value × tb_Hp), tb_Ev tb_P 4 77 (35, [(1, .ref o.1), (3, .int o.2.1)], [], o.2.2) r → tb_Ev tb_P 4 77 (8, [(0, .ref v0), (1, .ref v1), (2, .ref v2), (3, .int v3), (4, .int v4)], [], w) r := by
  intro n
  induction n with
  | zero =>
    intro v0 v1 v2 v3 v4 w o h
    cases h
  | succ n ih =>
    intro v0 v1 v2 v3 v4 w o h r hx
    unfold fl_jg_passYear_7 at h
    refine tb_Es (k := 2) (st' := (10, [(0, .ref v0), (1, .ref v1), (2, .ref v2), (3, .int v3), (4, .int v4)], [.ref v1, .int v4], w)) rfl ?_
    replace h := Option.bind_eq_some_iff.mp h
    obtain ⟨x7, ex7, h⟩ := h
    refine tb_e_gI rfl ex7 ?_
    refine tb_b_cge rfl (fun hc => ?_) (fun hc => ?_)
    · rw [if_pos hc] at h
      refine tb_Es (k := 2) (st' := (14, [(0, .ref v0), (1, .ref v1), (2, .ref v2), (3, .int v3), (4, .int v4)], [.int v4, .ref v1], w)) rfl ?_
      replace h := Option.bind_eq_some_iff.mp h
      obtain ⟨x8, ex8, h⟩ := h
      obtain ⟨hkx8, hcall⟩ := tb_on_some ex8
      refine tb_e_cv (v := some (.int x8.1)) rfl (Or.inl ⟨_, rfl⟩) rfl rfl (Nat.le_of_ble_eq_true rfl) rfl (Nat.le_of_ble_eq_true rfl) hkx8 ((dc_s_isUp hcall).up (by decide)) ?_
      refine tb_b_ieq rfl (fun hc => ?_) (fun hc => ?_)
      · rw [if_pos hc] at h
        refine tb_Es (k := 3) (st' := (8, [(0, .ref v0), (1, .ref v1), (2, .ref v2), (3, .int v3), (4, .int (v4 + 1))], [], x8.2)) rfl ?_
        exact ih v0 v1 v2 v3 (v4 + 1) x8.2 _ h r hx
      · rw [if_neg hc] at h
        refine tb_Es (k := 4) (st' := (20, [(0, .ref v0), (1, .ref v1), (2, .ref v2), (3, .int v3), (4, .int v4)], [.int v4, .ref v1, .ref v2, .ref v0], x8.2)) rfl ?_
        replace h := Option.bind_eq_some_iff.mp h
        obtain ⟨x9, ex9, h⟩ := h
        obtain ⟨hkx9, hcall⟩ := tb_on_some ex9
        refine tb_e_cv (v := some (.long x9.1)) rfl (Or.inl ⟨_, rfl⟩) rfl rfl (Nat.le_of_ble_eq_true rfl) rfl (Nat.le_of_ble_eq_true rfl) hkx9 ((dc_jg_worth hcall).up (by decide)) ?_
        refine tb_Es (k := 2) (st' := (23, [(0, .ref v0), (1, .ref v1), (2, .ref v2), (3, .int v3), (4, .int v4)], [.int (lg_cmp x9.1 0)], x9.2)) rfl ?_
        refine tb_b_igt rfl (fun hc => ?_) (fun hc => ?_)
        · rw [if_pos hc] at h
          refine tb_Es (k := 11) (st' := (8, [(0, .ref v0), (1, .ref v1), (2, .ref v2), (3, .int (v3 &&& ((1 <<< (v4 &&& 31)) ^^^ (-1)))), (4, .int (v4 + 1))], [], x9.2)) rfl ?_
          exact ih v0 v1 v2 (v3 &&& ((1 <<< (v4 &&& 31)) ^^^ (-1))) (v4 + 1) x9.2 _ h r hx
        · rw [if_neg hc] at h
          refine tb_Es (k := 3) (st' := (8, [(0, .ref v0), (1, .ref v1), (2, .ref v2), (3, .int v3), (4, .int (v4 + 1))], [], x9.2)) rfl ?_
          exact ih v0 v1 v2 v3 (v4 + 1) x9.2 _ h r hx
    · rw [if_neg hc] at h
      refine tb_Es (k := 1) (st' := (35, [(1, .ref v1), (3, .int v3)], [], w)) rfl ?_
      obtain rfl := Option.some.inj h
      exact hx
def fb_jg_passYear (a0 : Nat) (a1 : Nat) (a2 : Option Nat) (w : tb_Hp) : Option (Int32 × tb_Hp) := (match a2 with | none => fj_jg_passYear_j36 a1 w | some q1 => (tb_gI 17 4 a1 w).bind fun x6 => (fl_jg_passYear_7 1048576 a0 a1 q1 x6 0 w).bind fun o10 => (tb_pI 17 4 o10.1 o10.2.1 o10.2.2).bind fun w11 => fj_jg_passYear_j36 o10.1 w11)
set_option maxHeartbeats 4000000 in
set_option maxRecDepth 20000 in
theorem dc_jg_passYear {a0 : Nat} {a1 : Nat} {a2 : Option Nat} {w : tb_Hp} {o : Int32 × tb_Hp} (h : fb_jg_passYear a0 a1 a2 w = some o) : tb_Ev tb_P 4 77 (0, tb_ent [.ref a0, .ref a1, va_rf a2], [], w) (some (.int o.1), o.2) := by
  unfold fb_jg_passYear at h
  obtain ⟨r, hr⟩ : ∃ r : Option Value × tb_Hp, r = (some (.int o.1), o.2) := ⟨_, rfl⟩
  rw [← hr]
  rw [show tb_ent [.ref a0, .ref a1, va_rf a2] = [(0, .ref a0), (1, .ref a1), (2, va_rf a2)] by simp [tb_ent, lv_args, tb_catq, tb_cR, tb_cI, tb_cJ]]
  show tb_Ev tb_P 4 77 (0, [(0, .ref a0), (1, .ref a1), (2, va_rf a2)], [], w) r
  refine tb_q_aload (k := 2) rfl (Or.inr ⟨_, rfl, rfl⟩) rfl ?_
  refine tb_b_null rfl (fun hc => ?_) (fun q1 hc => ?_)
  · subst hc
    dsimp only at h
    refine tb_Es (k := 1) (st' := (39, [(1, .ref a1)], [], w)) rfl ?_
    exact dj_jg_passYear_j36 a1 w _ h r hr
  · subst hc
    dsimp only at h
    refine tb_Es (k := 1) (st' := (3, [(0, .ref a0), (1, .ref a1), (2, .ref q1)], [.ref a1], w)) rfl ?_
    replace h := Option.bind_eq_some_iff.mp h
    obtain ⟨x6, ex6, h⟩ := h
    refine tb_e_gI rfl ex6 ?_
    refine tb_Es (k := 4) (st' := (8, [(0, .ref a0), (1, .ref a1), (2, .ref q1), (3, .int x6), (4, .int 0)], [], w)) rfl ?_
    replace h := Option.bind_eq_some_iff.mp h
    obtain ⟨o10, eo10, h⟩ := h
    refine dl_jg_passYear_7 _ a0 a1 q1 x6 0 w _ eo10 r ?_
    refine tb_Es (k := 2) (st' := (37, [(1, .ref o10.1), (3, .int o10.2.1)], [.int o10.2.1, .ref o10.1], o10.2.2)) rfl ?_
    replace h := Option.bind_eq_some_iff.mp h
    obtain ⟨w11, ew11, h⟩ := h
    refine tb_e_pI rfl ew11 ?_
    refine tb_Es (k := 1) (st' := (39, [(1, .ref o10.1)], [], w11)) rfl ?_
    exact dj_jg_passYear_j36 o10.1 w11 _ h r hr
/-! TannerBunting.cut(I)I -/
def fb_x_cut (a0 : Nat) (a1 : Int32) (w : tb_Hp) : Option (Int32 × tb_Hp) := (tb_gN 21 5 a0 w).bind fun p1 => (tb_gN 15 0 p1 w).bind fun p2 => (tb_on 17 p2 w (fb_s_isUp p2 a1 w)).bind fun x3 => (if x3.1 = 0 then some (-1, x3.2) else (tb_gN 21 7 a0 x3.2).bind fun p4 => (tb_gN 21 5 a0 x3.2).bind fun p5 => (tb_gN 15 0 p5 x3.2).bind fun p6 => (tb_on 13 p4 x3.2 (fb_p_keep p4 p6 x3.2)).bind fun x7 => (tb_gN 21 5 a0 x7).bind fun p8 => (tb_gN 15 0 p8 x7).bind fun p9 => (tb_gI 17 4 p9 x7).bind fun x10 => (tb_pI 17 4 p9 (x10 &&& ((1 <<< (a1 &&& 31)) ^^^ (-1))) x7).bind fun w11 => (tb_gN 21 5 a0 w11).bind fun p12 => (tb_gN 15 0 p12 w11).bind fun p13 => (tb_on 17 p13 w11 (fb_s_giveWay p13 w11)).bind fun x14 => some (x14.1, x14.2))
set_option maxHeartbeats 4000000 in
set_option maxRecDepth 20000 in
theorem dc_x_cut {a0 : Nat} {a1 : Int32} {w : tb_Hp} {o : Int32 × tb_Hp} (h : fb_x_cut a0 a1 w = some o) : tb_Ev tb_P 4 91 (0, tb_ent [.ref a0, .int a1], [], w) (some (.int o.1), o.2) := by
  unfold fb_x_cut at h
  obtain ⟨r, hr⟩ : ∃ r : Option Value × tb_Hp, r = (some (.int o.1), o.2) := ⟨_, rfl⟩
  rw [← hr]
  show tb_Ev tb_P 4 91 (0, [(0, .ref a0), (1, .int a1)], [], w) r
  refine tb_Es (k := 1) (st' := (1, [(0, .ref a0), (1, .int a1)], [.ref a0], w)) rfl ?_
  replace h := Option.bind_eq_some_iff.mp h
  obtain ⟨p1, ep1, h⟩ := h
  refine tb_e_gN rfl ep1 ?_
  replace h := Option.bind_eq_some_iff.mp h
  obtain ⟨p2, ep2, h⟩ := h
  refine tb_e_gN rfl ep2 ?_
  refine tb_Es (k := 1) (st' := (4, [(0, .ref a0), (1, .int a1)], [.int a1, .ref p2], w)) rfl ?_
  replace h := Option.bind_eq_some_iff.mp h
  obtain ⟨x3, ex3, h⟩ := h
  obtain ⟨hkx3, hcall⟩ := tb_on_some ex3
  refine tb_e_cv (v := some (.int x3.1)) rfl (Or.inl ⟨_, rfl⟩) rfl rfl (Nat.le_of_ble_eq_true rfl) rfl (Nat.le_of_ble_eq_true rfl) hkx3 ((dc_s_isUp hcall).up (by decide)) ?_
  refine tb_b_ine rfl (fun hc => ?_) (fun hc => ?_)
  · rw [if_pos hc] at h
    refine tb_Es (k := 1) (st' := (7, [(0, .ref a0), (1, .int a1)], [.int (-1)], x3.2)) rfl ?_
    obtain rfl := Option.some.inj h
    subst hr
    exact tb_Er rfl rfl
  · rw [if_neg hc] at h
    refine tb_Es (k := 1) (st' := (9, [(0, .ref a0), (1, .int a1)], [.ref a0], x3.2)) rfl ?_
    replace h := Option.bind_eq_some_iff.mp h
    obtain ⟨p4, ep4, h⟩ := h
    refine tb_e_gN rfl ep4 ?_
    refine tb_Es (k := 1) (st' := (11, [(0, .ref a0), (1, .int a1)], [.ref a0, .ref p4], x3.2)) rfl ?_
    replace h := Option.bind_eq_some_iff.mp h
    obtain ⟨p5, ep5, h⟩ := h
    refine tb_e_gN rfl ep5 ?_
    replace h := Option.bind_eq_some_iff.mp h
    obtain ⟨p6, ep6, h⟩ := h
    refine tb_e_gN rfl ep6 ?_
    replace h := Option.bind_eq_some_iff.mp h
    obtain ⟨x7, ex7, h⟩ := h
    obtain ⟨hkx7, hcall⟩ := tb_on_some ex7
    refine tb_e_cv (v := none) rfl (Or.inl ⟨_, rfl⟩) rfl rfl (Nat.le_of_ble_eq_true rfl) rfl (Nat.le_of_ble_eq_true rfl) hkx7 ((dc_p_keep hcall).up (by decide)) ?_
    refine tb_Es (k := 1) (st' := (15, [(0, .ref a0), (1, .int a1)], [.ref a0], x7)) rfl ?_
    replace h := Option.bind_eq_some_iff.mp h
    obtain ⟨p8, ep8, h⟩ := h
    refine tb_e_gN rfl ep8 ?_
    replace h := Option.bind_eq_some_iff.mp h
    obtain ⟨p9, ep9, h⟩ := h
    refine tb_e_gN rfl ep9 ?_
    refine tb_Es (k := 1) (st' := (18, [(0, .ref a0), (1, .int a1)], [.ref p9, .ref p9], x7)) rfl ?_
    replace h := Option.bind_eq_some_iff.mp h
    obtain ⟨x10, ex10, h⟩ := h
    refine tb_e_gI rfl ex10 ?_
    refine tb_Es (k := 6) (st' := (25, [(0, .ref a0), (1, .int a1)], [.int (x10 &&& ((1 <<< (a1 &&& 31)) ^^^ (-1))), .ref p9], x7)) rfl ?_
    replace h := Option.bind_eq_some_iff.mp h
    obtain ⟨w11, ew11, h⟩ := h
    refine tb_e_pI rfl ew11 ?_
    refine tb_Es (k := 1) (st' := (27, [(0, .ref a0), (1, .int a1)], [.ref a0], w11)) rfl ?_
    replace h := Option.bind_eq_some_iff.mp h
    obtain ⟨p12, ep12, h⟩ := h
    refine tb_e_gN rfl ep12 ?_
    replace h := Option.bind_eq_some_iff.mp h
    obtain ⟨p13, ep13, h⟩ := h
    refine tb_e_gN rfl ep13 ?_
    replace h := Option.bind_eq_some_iff.mp h
    obtain ⟨x14, ex14, h⟩ := h
    obtain ⟨hkx14, hcall⟩ := tb_on_some ex14
    refine tb_e_cv (v := some (.int x14.1)) rfl (Or.inl ⟨_, rfl⟩) rfl rfl (Nat.le_of_ble_eq_true rfl) rfl (Nat.le_of_ble_eq_true rfl) hkx14 ((dc_s_giveWay hcall).up (by decide)) ?_
    obtain rfl := Option.some.inj h
    subst hr
    exact tb_Er rfl rfl
/-! TannerBunting$Hands.fallenWith(LTannerBunting$Street;I)I -/
def fb_h_fallenWith (a0 : Nat) (a1 : Nat) (a2 : Int32) (w : tb_Hp) : Option (Int32 × tb_Hp) := (tb_gN 10 0 a0 w).bind fun p1 => (tb_pI 17 4 p1 a2 w).bind fun w2 => (tb_gN 10 0 a0 w2).bind fun p3 => (tb_gI 17 5 a1 w2).bind fun x4 => (tb_pI 17 5 p3 x4 w2).bind fun w5 => (tb_gN 10 0 a0 w5).bind fun p6 => (tb_on 17 p6 w5 (fb_s_giveWay p6 w5)).bind fun x7 => some (x7.1, x7.2)
set_option maxHeartbeats 4000000 in
set_option maxRecDepth 20000 in
theorem dc_h_fallenWith {a0 : Nat} {a1 : Nat} {a2 : Int32} {w : tb_Hp} {o : Int32 × tb_Hp} (h : fb_h_fallenWith a0 a1 a2 w = some o) : tb_Ev tb_P 4 110 (0, tb_ent [.ref a0, .ref a1, .int a2], [], w) (some (.int o.1), o.2) := by
  unfold fb_h_fallenWith at h
  obtain ⟨r, hr⟩ : ∃ r : Option Value × tb_Hp, r = (some (.int o.1), o.2) := ⟨_, rfl⟩
  rw [← hr]
  show tb_Ev tb_P 4 110 (0, [(0, .ref a0), (1, .ref a1), (2, .int a2)], [], w) r
  refine tb_Es (k := 1) (st' := (1, [(0, .ref a0), (1, .ref a1), (2, .int a2)], [.ref a0], w)) rfl ?_
  replace h := Option.bind_eq_some_iff.mp h
  obtain ⟨p1, ep1, h⟩ := h
  refine tb_e_gN rfl ep1 ?_
  refine tb_Es (k := 1) (st' := (3, [(0, .ref a0), (1, .ref a1), (2, .int a2)], [.int a2, .ref p1], w)) rfl ?_
  replace h := Option.bind_eq_some_iff.mp h
  obtain ⟨w2, ew2, h⟩ := h
  refine tb_e_pI rfl ew2 ?_
  refine tb_Es (k := 1) (st' := (5, [(0, .ref a0), (1, .ref a1), (2, .int a2)], [.ref a0], w2)) rfl ?_
  replace h := Option.bind_eq_some_iff.mp h
  obtain ⟨p3, ep3, h⟩ := h
  refine tb_e_gN rfl ep3 ?_
  refine tb_Es (k := 1) (st' := (7, [(0, .ref a0), (1, .ref a1), (2, .int a2)], [.ref a1, .ref p3], w2)) rfl ?_
  replace h := Option.bind_eq_some_iff.mp h
  obtain ⟨x4, ex4, h⟩ := h
  refine tb_e_gI rfl ex4 ?_
  replace h := Option.bind_eq_some_iff.mp h
  obtain ⟨w5, ew5, h⟩ := h
  refine tb_e_pI rfl ew5 ?_
  refine tb_Es (k := 1) (st' := (10, [(0, .ref a0), (1, .ref a1), (2, .int a2)], [.ref a0], w5)) rfl ?_
  replace h := Option.bind_eq_some_iff.mp h
  obtain ⟨p6, ep6, h⟩ := h
  refine tb_e_gN rfl ep6 ?_
  replace h := Option.bind_eq_some_iff.mp h
  obtain ⟨x7, ex7, h⟩ := h
  obtain ⟨hkx7, hcall⟩ := tb_on_some ex7
  refine tb_e_cv (v := some (.int x7.1)) rfl (Or.inl ⟨_, rfl⟩) rfl rfl (Nat.le_of_ble_eq_true rfl) rfl (Nat.le_of_ble_eq_true rfl) hkx7 ((dc_s_giveWay hcall).up (by decide)) ?_
  obtain rfl := Option.some.inj h
  subst hr
  exact tb_Er rfl rfl
/-! TannerBunting.way(II)I -/
def fb_x_way (a0 : Nat) (a1 : Int32) (a2 : Int32) (w : tb_Hp) : Option (Int32 × tb_Hp) := (tb_gN 21 5 a0 w).bind fun p1 => (tb_gN 15 0 p1 w).bind fun p2 => (tb_on 17 p2 w (fb_s_isHouse p2 a1 w)).bind fun x3 => (if x3.1 = 0 then some (-1, x3.2) else (tb_gN 21 5 a0 x3.2).bind fun p4 => (tb_gN 15 0 p4 x3.2).bind fun p5 => (tb_on 17 p5 x3.2 (fb_s_isHouse p5 a2 x3.2)).bind fun x6 => (if x6.1 = 0 then some (-1, x6.2) else (tb_gN 21 9 a0 x6.2).bind fun p7 => (tb_gN 21 5 a0 x6.2).bind fun p8 => (tb_gN 15 0 p8 x6.2).bind fun p9 => (tb_on 10 p7 x6.2 (fb_h_stepsBetween p7 p9 a1 a2 x6.2)).bind fun x10 => (if x10.1 = (-1) then some (-2, x10.2) else some (x10.1, x10.2))))
set_option maxHeartbeats 4000000 in
set_option maxRecDepth 20000 in
theorem dc_x_way {a0 : Nat} {a1 : Int32} {a2 : Int32} {w : tb_Hp} {o : Int32 × tb_Hp} (h : fb_x_way a0 a1 a2 w = some o) : tb_Ev tb_P 4 118 (0, tb_ent [.ref a0, .int a1, .int a2], [], w) (some (.int o.1), o.2) := by
  unfold fb_x_way at h
  obtain ⟨r, hr⟩ : ∃ r : Option Value × tb_Hp, r = (some (.int o.1), o.2) := ⟨_, rfl⟩
  rw [← hr]
  show tb_Ev tb_P 4 118 (0, [(0, .ref a0), (1, .int a1), (2, .int a2)], [], w) r
  refine tb_Es (k := 1) (st' := (1, [(0, .ref a0), (1, .int a1), (2, .int a2)], [.ref a0], w)) rfl ?_
  replace h := Option.bind_eq_some_iff.mp h
  obtain ⟨p1, ep1, h⟩ := h
  refine tb_e_gN rfl ep1 ?_
  replace h := Option.bind_eq_some_iff.mp h
  obtain ⟨p2, ep2, h⟩ := h
  refine tb_e_gN rfl ep2 ?_
  refine tb_Es (k := 1) (st' := (4, [(0, .ref a0), (1, .int a1), (2, .int a2)], [.int a1, .ref p2], w)) rfl ?_
  replace h := Option.bind_eq_some_iff.mp h
  obtain ⟨x3, ex3, h⟩ := h
  obtain ⟨hkx3, hcall⟩ := tb_on_some ex3
  refine tb_e_cv (v := some (.int x3.1)) rfl (Or.inl ⟨_, rfl⟩) rfl rfl (Nat.le_of_ble_eq_true rfl) rfl (Nat.le_of_ble_eq_true rfl) hkx3 ((dc_s_isHouse hcall).up (by decide)) ?_
  refine tb_b_ieq rfl (fun hc => ?_) (fun hc => ?_)
  · rw [if_pos hc] at h
    refine tb_Es (k := 1) (st' := (13, [(0, .ref a0), (1, .int a1), (2, .int a2)], [.int (-1)], x3.2)) rfl ?_
    obtain rfl := Option.some.inj h
    subst hr
    exact tb_Er rfl rfl
  · rw [if_neg hc] at h
    refine tb_Es (k := 1) (st' := (7, [(0, .ref a0), (1, .int a1), (2, .int a2)], [.ref a0], x3.2)) rfl ?_
    replace h := Option.bind_eq_some_iff.mp h
    obtain ⟨p4, ep4, h⟩ := h
    refine tb_e_gN rfl ep4 ?_
    replace h := Option.bind_eq_some_iff.mp h
    obtain ⟨p5, ep5, h⟩ := h
    refine tb_e_gN rfl ep5 ?_
    refine tb_Es (k := 1) (st' := (10, [(0, .ref a0), (1, .int a1), (2, .int a2)], [.int a2, .ref p5], x3.2)) rfl ?_
    replace h := Option.bind_eq_some_iff.mp h
    obtain ⟨x6, ex6, h⟩ := h
    obtain ⟨hkx6, hcall⟩ := tb_on_some ex6
    refine tb_e_cv (v := some (.int x6.1)) rfl (Or.inl ⟨_, rfl⟩) rfl rfl (Nat.le_of_ble_eq_true rfl) rfl (Nat.le_of_ble_eq_true rfl) hkx6 ((dc_s_isHouse hcall).up (by decide)) ?_
    refine tb_b_ine rfl (fun hc => ?_) (fun hc => ?_)
    · rw [if_pos hc] at h
      refine tb_Es (k := 1) (st' := (13, [(0, .ref a0), (1, .int a1), (2, .int a2)], [.int (-1)], x6.2)) rfl ?_
      obtain rfl := Option.some.inj h
      subst hr
      exact tb_Er rfl rfl
    · rw [if_neg hc] at h
      refine tb_Es (k := 1) (st' := (15, [(0, .ref a0), (1, .int a1), (2, .int a2)], [.ref a0], x6.2)) rfl ?_
      replace h := Option.bind_eq_some_iff.mp h
      obtain ⟨p7, ep7, h⟩ := h
      refine tb_e_gN rfl ep7 ?_
      refine tb_Es (k := 1) (st' := (17, [(0, .ref a0), (1, .int a1), (2, .int a2)], [.ref a0, .ref p7], x6.2)) rfl ?_
      replace h := Option.bind_eq_some_iff.mp h
      obtain ⟨p8, ep8, h⟩ := h
      refine tb_e_gN rfl ep8 ?_
      replace h := Option.bind_eq_some_iff.mp h
      obtain ⟨p9, ep9, h⟩ := h
      refine tb_e_gN rfl ep9 ?_
      refine tb_Es (k := 2) (st' := (21, [(0, .ref a0), (1, .int a1), (2, .int a2)], [.int a2, .int a1, .ref p9, .ref p7], x6.2)) rfl ?_
      replace h := Option.bind_eq_some_iff.mp h
      obtain ⟨x10, ex10, h⟩ := h
      obtain ⟨hkx10, hcall⟩ := tb_on_some ex10
      refine tb_e_cv (v := some (.int x10.1)) rfl (Or.inl ⟨_, rfl⟩) rfl rfl (Nat.le_of_ble_eq_true rfl) rfl (Nat.le_of_ble_eq_true rfl) hkx10 ((dc_h_stepsBetween hcall).up (by decide)) ?_
      refine tb_Es (k := 3) (st' := (25, [(3, .int x10.1), (0, .ref a0), (1, .int a1), (2, .int a2)], [.int (-1), .int x10.1], x10.2)) rfl ?_
      refine tb_b_cne rfl (fun hc => ?_) (fun hc => ?_)
      · rw [if_pos hc] at h
        refine tb_Es (k := 2) (st' := (29, [(3, .int x10.1), (0, .ref a0), (1, .int a1), (2, .int a2)], [.int (-2)], x10.2)) rfl ?_
        obtain rfl := Option.some.inj h
        subst hr
        exact tb_Er rfl rfl
      · rw [if_neg hc] at h
        refine tb_Es (k := 1) (st' := (29, [(3, .int x10.1), (0, .ref a0), (1, .int a1), (2, .int a2)], [.int x10.1], x10.2)) rfl ?_
        obtain rfl := Option.some.inj h
        subst hr
        exact tb_Er rfl rfl
/-! TannerBunting$Hands.blockCount(LTannerBunting$Street;)I -/
def fl_h_blockCount_7 : Nat → Nat → Nat → Int32 → Int32 → Int32 → tb_Hp → Option (Int32 × tb_Hp)
  | 0, _, _, _, _, _, _ => none
  | n + 1, v0, v1, v2, v3, v4, w => (tb_on 17 v1 w (fb_s_houses v1 w)).bind fun x2 => (if v4 < x2.1 then (if ((v2 >>> (v4 &&& 31)) &&& 1) = 1 then (tb_on 10 v0 x2.2 (fb_h_blockOf v0 v1 v4 x2.2)).bind fun x3 => fl_h_blockCount_7 n v0 v1 (v2 &&& (x3.1 ^^^ (-1))) (v3 + 1) (v4 + 1) x3.2 else fl_h_blockCount_7 n v0 v1 v2 v3 (v4 + 1) x2.2) else some ((v3, x2.2)))
set_option maxHeartbeats 4000000 in
set_option maxRecDepth 20000 in
theorem dl_h_blockCount_7 : ∀ (n : Nat) (v0 : Nat) (v1 : Nat) (v2 : Int32) (v3 : Int32) (v4 : Int32) (w : tb_Hp) (o : Int32 × tb_Hp), fl_h_blockCount_7 n v0 v1 v2 v3 v4 w = some o → ∀ (r : Option Value × tb_Hp), tb_Ev tb_P 4 122 (32, [(3, .int o.1)], [], o.2) r → tb_Ev tb_P 4 122 (8, [(0, .ref v0), (1, .ref v1), (2, .int v2), (3, .int v3), (4, .int v4)], [], w) r := by
  intro n
  induction n with
  | zero =>
    intro v0 v1 v2 v3 v4 w o h
    cases h
  | succ n ih =>
    intro v0 v1 v2 v3 v4 w o h r hx
    unfold fl_h_blockCount_7 at h
    refine tb_Es (k := 2) (st' := (10, [(0, .ref v0), (1, .ref v1), (2, .int v2), (3, .int v3), (4, .int v4)], [.ref v1, .int v4], w)) rfl ?_
    replace h := Option.bind_eq_some_iff.mp h
    obtain ⟨x2, ex2, h⟩ := h
    obtain ⟨hkx2, hcall⟩ := tb_on_some ex2
    refine tb_e_cv (v := some (.int x2.1)) rfl (Or.inl ⟨_, rfl⟩) rfl rfl (Nat.le_of_ble_eq_true rfl) rfl (Nat.le_of_ble_eq_true rfl) hkx2 ((dc_s_houses hcall).up (by decide)) ?_
    refine tb_b_cge rfl (fun hc => ?_) (fun hc => ?_)
    · rw [if_pos hc] at h
      refine tb_Es (k := 6) (st' := (18, [(0, .ref v0), (1, .ref v1), (2, .int v2), (3, .int v3), (4, .int v4)], [.int 1, .int ((v2 >>> (v4 &&& 31)) &&& 1)], x2.2)) rfl ?_
      refine tb_b_cne rfl (fun hc => ?_) (fun hc => ?_)
      · rw [if_pos hc] at h
        refine tb_Es (k := 4) (st' := (23, [(0, .ref v0), (1, .ref v1), (2, .int v2), (3, .int v3), (4, .int v4)], [.int v4, .ref v1, .ref v0, .int v2], x2.2)) rfl ?_
        replace h := Option.bind_eq_some_iff.mp h
        obtain ⟨x3, ex3, h⟩ := h
        obtain ⟨hkx3, hcall⟩ := tb_on_some ex3
        refine tb_e_cv (v := some (.int x3.1)) rfl (Or.inl ⟨_, rfl⟩) rfl rfl (Nat.le_of_ble_eq_true rfl) rfl (Nat.le_of_ble_eq_true rfl) hkx3 ((dc_h_blockOf hcall).up (by decide)) ?_
        refine tb_Es (k := 8) (st' := (8, [(0, .ref v0), (1, .ref v1), (2, .int (v2 &&& (x3.1 ^^^ (-1)))), (3, .int (v3 + 1)), (4, .int (v4 + 1))], [], x3.2)) rfl ?_
        exact ih v0 v1 (v2 &&& (x3.1 ^^^ (-1))) (v3 + 1) (v4 + 1) x3.2 _ h r hx
      · rw [if_neg hc] at h
        refine tb_Es (k := 3) (st' := (8, [(0, .ref v0), (1, .ref v1), (2, .int v2), (3, .int v3), (4, .int (v4 + 1))], [], x2.2)) rfl ?_
        exact ih v0 v1 v2 v3 (v4 + 1) x2.2 _ h r hx
    · rw [if_neg hc] at h
      refine tb_Es (k := 1) (st' := (32, [(3, .int v3)], [], x2.2)) rfl ?_
      obtain rfl := Option.some.inj h
      exact hx
def fb_h_blockCount (a0 : Nat) (a1 : Nat) (w : tb_Hp) : Option (Int32 × tb_Hp) := (tb_gI 17 5 a1 w).bind fun x1 => (fl_h_blockCount_7 1048576 a0 a1 x1 0 0 w).bind fun o4 => some (o4.1, o4.2)
set_option maxHeartbeats 4000000 in
set_option maxRecDepth 20000 in
theorem dc_h_blockCount {a0 : Nat} {a1 : Nat} {w : tb_Hp} {o : Int32 × tb_Hp} (h : fb_h_blockCount a0 a1 w = some o) : tb_Ev tb_P 4 122 (0, tb_ent [.ref a0, .ref a1], [], w) (some (.int o.1), o.2) := by
  unfold fb_h_blockCount at h
  obtain ⟨r, hr⟩ : ∃ r : Option Value × tb_Hp, r = (some (.int o.1), o.2) := ⟨_, rfl⟩
  rw [← hr]
  show tb_Ev tb_P 4 122 (0, [(0, .ref a0), (1, .ref a1)], [], w) r
  refine tb_Es (k := 1) (st' := (1, [(0, .ref a0), (1, .ref a1)], [.ref a1], w)) rfl ?_
  replace h := Option.bind_eq_some_iff.mp h
  obtain ⟨x1, ex1, h⟩ := h
  refine tb_e_gI rfl ex1 ?_
  refine tb_Es (k := 6) (st' := (8, [(0, .ref a0), (1, .ref a1), (2, .int x1), (3, .int 0), (4, .int 0)], [], w)) rfl ?_
  replace h := Option.bind_eq_some_iff.mp h
  obtain ⟨o4, eo4, h⟩ := h
  refine dl_h_blockCount_7 _ a0 a1 x1 0 0 w _ eo4 r ?_
  refine tb_Es (k := 1) (st' := (33, [(3, .int o4.1)], [.int o4.1], o4.2)) rfl ?_
  obtain rfl := Option.some.inj h
  subst hr
  exact tb_Er rfl rfl
/-! TannerBunting$Hands.fillPairs(LTannerBunting$Street;)V -/
def fl_h_fillPairs_29 : Nat → Nat → Nat → Int32 → Int32 → Int32 → Int32 → Int32 → tb_Hp → Option (Nat × Nat × Int32 × Int32 × Int32 × Int32 × tb_Hp)
  | 0, _, _, _, _, _, _, _, _ => none
  | n + 1, v0, v1, v2, v3, v4, v5, v6, w => (tb_gI 17 0 v1 w).bind fun x6 => (if v6 < x6 then (if ((v3 &&& v4) &&& (1 <<< (v6 &&& 31))) = 0 then fl_h_fillPairs_29 n v0 v1 v2 v3 v4 v5 (v6 + 1) w else (tb_on 10 v0 w (fb_h_pairsFrom v0 (v2 + 1) (v4 &&& ((1 <<< (v6 &&& 31)) ^^^ (-1))) w)).bind fun x7 => (fb_ma_max v5 (1 + x7.1) x7.2).bind fun x8 => fl_h_fillPairs_29 n v0 v1 v2 v3 v4 x8.1 (v6 + 1) x8.2) else some ((v0, v1, v2, v3, v4, v5, w)))
set_option maxHeartbeats 4000000 in
set_option maxRecDepth 20000 in
theorem dl_h_fillPairs_29 : ∀ (n : Nat) (v0 : Nat) (v1 : Nat) (v2 : Int32) (v3 : Int32) (v4 : Int32) (v5 : Int32) (v6 : Int32) (w : tb_Hp) (o : Nat × Nat × Int32 × Int32 × Int32 × Int32 × tb_Hp), fl_h_fillPairs_29 n v0 v1 v2 v3 v4 v5 v6 w = some o → ∀ (r : Option Value × tb_Hp), tb_Ev tb_P 4 128 (64, [(0, .ref o.1), (1, .ref o.2.1), (2, .int o.2.2.1), (3, .int o.2.2.2.1), (4, .int o.2.2.2.2.1), (5, .int o.2.2.2.2.2.1)], [], o.2.2.2.2.2.2) r → tb_Ev tb_P 4 128 (32, [(0, .ref v0), (1, .ref v1), (2, .int v2), (3, .int v3), (4, .int v4), (5, .int v5), (6, .int v6)], [], w) r := by
  intro n
  induction n with
  | zero =>
    intro v0 v1 v2 v3 v4 v5 v6 w o h
    cases h
  | succ n ih =>
    intro v0 v1 v2 v3 v4 v5 v6 w o h r hx
    unfold fl_h_fillPairs_29 at h
    refine tb_Es (k := 2) (st' := (34, [(0, .ref v0), (1, .ref v1), (2, .int v2), (3, .int v3), (4, .int v4), (5, .int v5), (6, .int v6)], [.ref v1, .int v6], w)) rfl ?_
    replace h := Option.bind_eq_some_iff.mp h
    obtain ⟨x6, ex6, h⟩ := h
    refine tb_e_gI rfl ex6 ?_
    refine tb_b_cge rfl (fun hc => ?_) (fun hc => ?_)
    · rw [if_pos hc] at h
      refine tb_Es (k := 7) (st' := (43, [(0, .ref v0), (1, .ref v1), (2, .int v2), (3, .int v3), (4, .int v4), (5, .int v5), (6, .int v6)], [.int ((v3 &&& v4) &&& (1 <<< (v6 &&& 31)))], w)) rfl ?_
      refine tb_b_ieq rfl (fun hc => ?_) (fun hc => ?_)
      · rw [if_pos hc] at h
        refine tb_Es (k := 3) (st' := (32, [(0, .ref v0), (1, .ref v1), (2, .int v2), (3, .int v3), (4, .int v4), (5, .int v5), (6, .int (v6 + 1))], [], w)) rfl ?_
        exact ih v0 v1 v2 v3 v4 v5 (v6 + 1) w _ h r hx
      · rw [if_neg hc] at h
        refine tb_Es (k := 13) (st' := (57, [(0, .ref v0), (1, .ref v1), (2, .int v2), (3, .int v3), (4, .int v4), (5, .int v5), (6, .int v6)], [.int (v4 &&& ((1 <<< (v6 &&& 31)) ^^^ (-1))), .int (v2 + 1), .ref v0, .int 1, .int v5], w)) rfl ?_
        replace h := Option.bind_eq_some_iff.mp h
        obtain ⟨x7, ex7, h⟩ := h
        obtain ⟨hkx7, hcall⟩ := tb_on_some ex7
        refine tb_e_cv (v := some (.int x7.1)) rfl (Or.inl ⟨_, rfl⟩) rfl rfl (Nat.le_of_ble_eq_true rfl) rfl (Nat.le_of_ble_eq_true rfl) hkx7 ((dc_h_pairsFrom hcall).up (by decide)) ?_
        refine tb_Es (k := 1) (st' := (59, [(0, .ref v0), (1, .ref v1), (2, .int v2), (3, .int v3), (4, .int v4), (5, .int v5), (6, .int v6)], [.int (1 + x7.1), .int v5], x7.2)) rfl ?_
        replace h := Option.bind_eq_some_iff.mp h
        obtain ⟨x8, ex8, h⟩ := h
        have hcall := ex8
        refine tb_e_cs (v := some (.int x8.1)) rfl rfl rfl (Nat.le_of_ble_eq_true rfl) rfl (Nat.le_of_ble_eq_true rfl) ((dc_ma_max hcall).up (by decide)) ?_
        refine tb_Es (k := 4) (st' := (32, [(0, .ref v0), (1, .ref v1), (2, .int v2), (3, .int v3), (4, .int v4), (5, .int x8.1), (6, .int (v6 + 1))], [], x8.2)) rfl ?_
        exact ih v0 v1 v2 v3 v4 x8.1 (v6 + 1) x8.2 _ h r hx
    · rw [if_neg hc] at h
      refine tb_Es (k := 1) (st' := (64, [(0, .ref v0), (1, .ref v1), (2, .int v2), (3, .int v3), (4, .int v4), (5, .int v5)], [], w)) rfl ?_
      obtain rfl := Option.some.inj h
      exact hx
def fl_h_fillPairs_17 : Nat → Nat → Nat → Int32 → Int32 → Int32 → tb_Hp → Option (Nat × Nat × Int32 × tb_Hp)
  | 0, _, _, _, _, _, _ => none
  | n + 1, v0, v1, v2, v3, v4, w => (if v4 < 32 then (tb_on 10 v0 w (fb_h_pairsFrom v0 (v2 + 1) v4 w)).bind fun x5 => (fl_h_fillPairs_29 1048576 v0 v1 v2 v3 v4 x5.1 0 x5.2).bind fun o9 => (tb_on 10 o9.1 o9.2.2.2.2.2.2 (fb_h_setPairs o9.1 o9.2.2.1 o9.2.2.2.2.1 o9.2.2.2.2.2.1 o9.2.2.2.2.2.2)).bind fun x10 => fl_h_fillPairs_17 n o9.1 o9.2.1 o9.2.2.1 o9.2.2.2.1 (o9.2.2.2.2.1 + 1) x10 else some ((v0, v1, v2, w)))
set_option maxHeartbeats 4000000 in
set_option maxRecDepth 20000 in
theorem dl_h_fillPairs_17 : ∀ (n : Nat) (v0 : Nat) (v1 : Nat) (v2 : Int32) (v3 : Int32) (v4 : Int32) (w : tb_Hp) (o : Nat × Nat × Int32 × tb_Hp), fl_h_fillPairs_17 n v0 v1 v2 v3 v4 w = some o → ∀ (r : Option Value × tb_Hp), tb_Ev tb_P 4 128 (72, [(0, .ref o.1), (1, .ref o.2.1), (2, .int o.2.2.1)], [], o.2.2.2) r → tb_Ev tb_P 4 128 (19, [(0, .ref v0), (1, .ref v1), (2, .int v2), (3, .int v3), (4, .int v4)], [], w) r := by
  intro n
  induction n with
  | zero =>
    intro v0 v1 v2 v3 v4 w o h
    cases h
  | succ n ih =>
    intro v0 v1 v2 v3 v4 w o h r hx
    unfold fl_h_fillPairs_17 at h
    refine tb_Es (k := 2) (st' := (21, [(0, .ref v0), (1, .ref v1), (2, .int v2), (3, .int v3), (4, .int v4)], [.int 32, .int v4], w)) rfl ?_
    refine tb_b_cge rfl (fun hc => ?_) (fun hc => ?_)
    · rw [if_pos hc] at h
      refine tb_Es (k := 5) (st' := (27, [(0, .ref v0), (1, .ref v1), (2, .int v2), (3, .int v3), (4, .int v4)], [.int v4, .int (v2 + 1), .ref v0], w)) rfl ?_
      replace h := Option.bind_eq_some_iff.mp h
      obtain ⟨x5, ex5, h⟩ := h
      obtain ⟨hkx5, hcall⟩ := tb_on_some ex5
      refine tb_e_cv (v := some (.int x5.1)) rfl (Or.inl ⟨_, rfl⟩) rfl rfl (Nat.le_of_ble_eq_true rfl) rfl (Nat.le_of_ble_eq_true rfl) hkx5 ((dc_h_pairsFrom hcall).up (by decide)) ?_
      refine tb_Es (k := 4) (st' := (32, [(0, .ref v0), (1, .ref v1), (2, .int v2), (3, .int v3), (4, .int v4), (5, .int x5.1), (6, .int 0)], [], x5.2)) rfl ?_
      replace h := Option.bind_eq_some_iff.mp h
      obtain ⟨o9, eo9, h⟩ := h
      refine dl_h_fillPairs_29 _ v0 v1 v2 v3 v4 x5.1 0 x5.2 _ eo9 r ?_
      refine tb_Es (k := 4) (st' := (68, [(0, .ref o9.1), (1, .ref o9.2.1), (2, .int o9.2.2.1), (3, .int o9.2.2.2.1), (4, .int o9.2.2.2.2.1), (5, .int o9.2.2.2.2.2.1)], [.int o9.2.2.2.2.2.1, .int o9.2.2.2.2.1, .int o9.2.2.1, .ref o9.1], o9.2.2.2.2.2.2)) rfl ?_
      replace h := Option.bind_eq_some_iff.mp h
      obtain ⟨x10, ex10, h⟩ := h
      obtain ⟨hkx10, hcall⟩ := tb_on_some ex10
      refine tb_e_cv (v := none) rfl (Or.inl ⟨_, rfl⟩) rfl rfl (Nat.le_of_ble_eq_true rfl) rfl (Nat.le_of_ble_eq_true rfl) hkx10 ((dc_h_setPairs hcall).up (by decide)) ?_
      refine tb_Es (k := 3) (st' := (19, [(0, .ref o9.1), (1, .ref o9.2.1), (2, .int o9.2.2.1), (3, .int o9.2.2.2.1), (4, .int (o9.2.2.2.2.1 + 1))], [], x10)) rfl ?_
      exact ih o9.1 o9.2.1 o9.2.2.1 o9.2.2.2.1 (o9.2.2.2.2.1 + 1) x10 _ h r hx
    · rw [if_neg hc] at h
      refine tb_Es (k := 1) (st' := (72, [(0, .ref v0), (1, .ref v1), (2, .int v2)], [], w)) rfl ?_
      obtain rfl := Option.some.inj h
      exact hx
def fl_h_fillPairs_9 : Nat → Nat → Nat → Int32 → tb_Hp → Option (tb_Hp)
  | 0, _, _, _, _ => none
  | n + 1, v0, v1, v2, w => (if v2 < 0 then some (w) else (fb_h_joinedTo v1 v2 w).bind fun x4 => (fl_h_fillPairs_17 1048576 v0 v1 v2 x4.1 0 x4.2).bind fun o11 => fl_h_fillPairs_9 n o11.1 o11.2.1 (o11.2.2.1 + (-1)) o11.2.2.2)
set_option maxHeartbeats 4000000 in
set_option maxRecDepth 20000 in
theorem dl_h_fillPairs_9 : ∀ (n : Nat) (v0 : Nat) (v1 : Nat) (v2 : Int32) (w : tb_Hp) (o : tb_Hp), fl_h_fillPairs_9 n v0 v1 v2 w = some o → ∀ (r : Option Value × tb_Hp), tb_Ev tb_P 4 128 (75, [], [], o) r → tb_Ev tb_P 4 128 (10, [(0, .ref v0), (1, .ref v1), (2, .int v2)], [], w) r := by
  intro n
  induction n with
  | zero =>
    intro v0 v1 v2 w o h
    cases h
  | succ n ih =>
    intro v0 v1 v2 w o h r hx
    unfold fl_h_fillPairs_9 at h
    refine tb_Es (k := 1) (st' := (11, [(0, .ref v0), (1, .ref v1), (2, .int v2)], [.int v2], w)) rfl ?_
    refine tb_b_ilt rfl (fun hc => ?_) (fun hc => ?_)
    · rw [if_pos hc] at h
      refine tb_Es (k := 1) (st' := (75, [], [], w)) rfl ?_
      obtain rfl := Option.some.inj h
      exact hx
    · rw [if_neg hc] at h
      refine tb_Es (k := 2) (st' := (14, [(0, .ref v0), (1, .ref v1), (2, .int v2)], [.int v2, .ref v1], w)) rfl ?_
      replace h := Option.bind_eq_some_iff.mp h
      obtain ⟨x4, ex4, h⟩ := h
      have hcall := ex4
      refine tb_e_cs (v := some (.int x4.1)) rfl rfl rfl (Nat.le_of_ble_eq_true rfl) rfl (Nat.le_of_ble_eq_true rfl) ((dc_h_joinedTo hcall).up (by decide)) ?_
      refine tb_Es (k := 4) (st' := (19, [(0, .ref v0), (1, .ref v1), (2, .int v2), (3, .int x4.1), (4, .int 0)], [], x4.2)) rfl ?_
      replace h := Option.bind_eq_some_iff.mp h
      obtain ⟨o11, eo11, h⟩ := h
      refine dl_h_fillPairs_17 _ v0 v1 v2 x4.1 0 x4.2 _ eo11 r ?_
      refine tb_Es (k := 3) (st' := (10, [(0, .ref o11.1), (1, .ref o11.2.1), (2, .int (o11.2.2.1 + (-1)))], [], o11.2.2.2)) rfl ?_
      exact ih o11.1 o11.2.1 (o11.2.2.1 + (-1)) o11.2.2.2 _ h r hx
def fb_h_fillPairs (a0 : Nat) (a1 : Nat) (w : tb_Hp) : Option (tb_Hp) := (tb_gN 10 1 a0 w).bind fun p1 => (fb_ar_fill p1 0 w).bind fun x2 => (tb_gI 17 0 a1 x2).bind fun x3 => (fl_h_fillPairs_9 1048576 a0 a1 (x3 - 1) x2).bind fun o12 => some o12
set_option maxHeartbeats 4000000 in
set_option maxRecDepth 20000 in
theorem dc_h_fillPairs {a0 : Nat} {a1 : Nat} {w : tb_Hp} {o : tb_Hp} (h : fb_h_fillPairs a0 a1 w = some o) : tb_Ev tb_P 4 128 (0, tb_ent [.ref a0, .ref a1], [], w) (none, o) := by
  unfold fb_h_fillPairs at h
  obtain ⟨r, hr⟩ : ∃ r : Option Value × tb_Hp, r = (none, o) := ⟨_, rfl⟩
  rw [← hr]
  show tb_Ev tb_P 4 128 (0, [(0, .ref a0), (1, .ref a1)], [], w) r
  refine tb_Es (k := 1) (st' := (1, [(0, .ref a0), (1, .ref a1)], [.ref a0], w)) rfl ?_
  replace h := Option.bind_eq_some_iff.mp h
  obtain ⟨p1, ep1, h⟩ := h
  refine tb_e_gN rfl ep1 ?_
  refine tb_Es (k := 1) (st' := (3, [(0, .ref a0), (1, .ref a1)], [.int 0, .ref p1], w)) rfl ?_
  replace h := Option.bind_eq_some_iff.mp h
  obtain ⟨x2, ex2, h⟩ := h
  have hcall := ex2
  refine tb_e_cs (v := none) rfl rfl rfl (Nat.le_of_ble_eq_true rfl) rfl (Nat.le_of_ble_eq_true rfl) ((dc_ar_fill hcall).up (by decide)) ?_
  refine tb_Es (k := 1) (st' := (5, [(0, .ref a0), (1, .ref a1)], [.ref a1], x2)) rfl ?_
  replace h := Option.bind_eq_some_iff.mp h
  obtain ⟨x3, ex3, h⟩ := h
  refine tb_e_gI rfl ex3 ?_
  refine tb_Es (k := 4) (st' := (10, [(0, .ref a0), (1, .ref a1), (2, .int (x3 - 1))], [], x2)) rfl ?_
  replace h := Option.bind_eq_some_iff.mp h
  obtain ⟨o12, eo12, h⟩ := h
  refine dl_h_fillPairs_9 _ a0 a1 (x3 - 1) x2 _ eo12 r ?_
  obtain rfl := Option.some.inj h
  subst hr
  exact tb_Er rfl rfl
/-! TannerBunting$Hands.firstPartner(LTannerBunting$Street;II)I -/
def fj_h_firstPartner_j55 (k : Nat → Nat → Int32 → Int32 → Int32 → Int32 → Int32 → tb_Hp → Option (Int32 × tb_Hp)) (v6 : Int32) (w : tb_Hp) : Option (Int32 × tb_Hp) := some ((v6, w))
set_option maxHeartbeats 4000000 in
set_option maxRecDepth 20000 in
theorem dj_h_firstPartner_j55 (k : Nat → Nat → Int32 → Int32 → Int32 → Int32 → Int32 → tb_Hp → Option (Int32 × tb_Hp)) (v6 : Int32) (w : tb_Hp) (o : Int32 × tb_Hp) (h : fj_h_firstPartner_j55 k v6 w = some o) (r : Option Value × tb_Hp) (hx : r = (some (.int o.1), o.2)) (hk : ∀ (v0 : Nat) (v1 : Nat) (v2 : Int32) (v3 : Int32) (v4 : Int32) (v5 : Int32) (v6 : Int32) (w : tb_Hp), k v0 v1 v2 v3 v4 v5 v6 w = some o → tb_Ev tb_P 4 132 (22, [(0, .ref v0), (1, .ref v1), (2, .int v2), (3, .int v3), (4, .int v4), (5, .int v5), (6, .int v6)], [], w) r) : tb_Ev tb_P 4 132 (58, [(6, .int v6)], [], w) r := by
  unfold fj_h_firstPartner_j55 at h
  refine tb_Es (k := 1) (st' := (59, [(6, .int v6)], [.int v6], w)) rfl ?_
  obtain rfl := Option.some.inj h
  replace hx : r = _ := hx
  subst hx
  exact tb_Er rfl rfl
def fj_h_firstPartner_j36 (k : Nat → Nat → Int32 → Int32 → Int32 → Int32 → Int32 → tb_Hp → Option (Int32 × tb_Hp)) (v0 : Nat) (v1 : Nat) (v2 : Int32) (v3 : Int32) (v4 : Int32) (v5 : Int32) (v6 : Int32) (s0 : Int32) (w : tb_Hp) : Option (Int32 × tb_Hp) := (if s0 = 0 then k v0 v1 v2 v3 v4 v5 (v6 + 1) w else (tb_on 10 v0 w (fb_h_pairsFrom v0 (v2 + 1) (v3 &&& ((1 <<< (v6 &&& 31)) ^^^ (-1))) w)).bind fun x5 => (if (1 + x5.1) = v4 then fj_h_firstPartner_j55 k v6 x5.2 else k v0 v1 v2 v3 v4 v5 (v6 + 1) x5.2))
set_option maxHeartbeats 4000000 in
set_option maxRecDepth 20000 in
theorem dj_h_firstPartner_j36 (k : Nat → Nat → Int32 → Int32 → Int32 → Int32 → Int32 → tb_Hp → Option (Int32 × tb_Hp)) (v0 : Nat) (v1 : Nat) (v2 : Int32) (v3 : Int32) (v4 : Int32) (v5 : Int32) (v6 : Int32) (s0 : Int32) (w : tb_Hp) (o : Int32 × tb_Hp) (h : fj_h_firstPartner_j36 k v0 v1 v2 v3 v4 v5 v6 s0 w = some o) (r : Option Value × tb_Hp) (hx : r = (some (.int o.1), o.2)) (hk : ∀ (v0 : Nat) (v1 : Nat) (v2 : Int32) (v3 : Int32) (v4 : Int32) (v5 : Int32) (v6 : Int32) (w : tb_Hp), k v0 v1 v2 v3 v4 v5 v6 w = some o → tb_Ev tb_P 4 132 (22, [(0, .ref v0), (1, .ref v1), (2, .int v2), (3, .int v3), (4, .int v4), (5, .int v5), (6, .int v6)], [], w) r) : tb_Ev tb_P 4 132 (38, [(0, .ref v0), (1, .ref v1), (2, .int v2), (3, .int v3), (4, .int v4), (5, .int v5), (6, .int v6)], [.int s0], w) r := by
  unfold fj_h_firstPartner_j36 at h
  refine tb_Es (k := 2) (st' := (40, [(7, .int s0), (0, .ref v0), (1, .ref v1), (2, .int v2), (3, .int v3), (4, .int v4), (5, .int v5), (6, .int v6)], [.int s0], w)) rfl ?_
  refine tb_b_ieq rfl (fun hc => ?_) (fun hc => ?_)
  · rw [if_pos hc] at h
    refine tb_Es (k := 3) (st' := (22, [(0, .ref v0), (1, .ref v1), (2, .int v2), (3, .int v3), (4, .int v4), (5, .int v5), (6, .int (v6 + 1))], [], w)) rfl ?_
    exact hk v0 v1 v2 v3 v4 v5 (v6 + 1) w h
  · rw [if_neg hc] at h
    refine tb_Es (k := 12) (st' := (53, [(7, .int s0), (0, .ref v0), (1, .ref v1), (2, .int v2), (3, .int v3), (4, .int v4), (5, .int v5), (6, .int v6)], [.int (v3 &&& ((1 <<< (v6 &&& 31)) ^^^ (-1))), .int (v2 + 1), .ref v0, .int 1], w)) rfl ?_
    replace h := Option.bind_eq_some_iff.mp h
    obtain ⟨x5, ex5, h⟩ := h
    obtain ⟨hkx5, hcall⟩ := tb_on_some ex5
    refine tb_e_cv (v := some (.int x5.1)) rfl (Or.inl ⟨_, rfl⟩) rfl rfl (Nat.le_of_ble_eq_true rfl) rfl (Nat.le_of_ble_eq_true rfl) hkx5 ((dc_h_pairsFrom hcall).up (by decide)) ?_
    refine tb_Es (k := 2) (st' := (56, [(7, .int s0), (0, .ref v0), (1, .ref v1), (2, .int v2), (3, .int v3), (4, .int v4), (5, .int v5), (6, .int v6)], [.int v4, .int (1 + x5.1)], x5.2)) rfl ?_
    refine tb_b_cne rfl (fun hc => ?_) (fun hc => ?_)
    · rw [if_pos hc] at h
      refine tb_Es (k := 1) (st' := (58, [(6, .int v6)], [], x5.2)) rfl ?_
      exact dj_h_firstPartner_j55 k v6 x5.2 _ h r hx hk
    · rw [if_neg hc] at h
      refine tb_Es (k := 3) (st' := (22, [(0, .ref v0), (1, .ref v1), (2, .int v2), (3, .int v3), (4, .int v4), (5, .int v5), (6, .int (v6 + 1))], [], x5.2)) rfl ?_
      exact hk v0 v1 v2 v3 v4 v5 (v6 + 1) x5.2 h
def fj_h_firstPartner_j59 (k : Nat → Nat → Int32 → Int32 → Int32 → Int32 → Int32 → tb_Hp → Option (Int32 × tb_Hp)) (w : tb_Hp) : Option (Int32 × tb_Hp) := some ((-1, w))
set_option maxHeartbeats 4000000 in
set_option maxRecDepth 20000 in
theorem dj_h_firstPartner_j59 (k : Nat → Nat → Int32 → Int32 → Int32 → Int32 → Int32 → tb_Hp → Option (Int32 × tb_Hp)) (w : tb_Hp) (o : Int32 × tb_Hp) (h : fj_h_firstPartner_j59 k  w = some o) (r : Option Value × tb_Hp) (hx : r = (some (.int o.1), o.2)) (hk : ∀ (v0 : Nat) (v1 : Nat) (v2 : Int32) (v3 : Int32) (v4 : Int32) (v5 : Int32) (v6 : Int32) (w : tb_Hp), k v0 v1 v2 v3 v4 v5 v6 w = some o → tb_Ev tb_P 4 132 (22, [(0, .ref v0), (1, .ref v1), (2, .int v2), (3, .int v3), (4, .int v4), (5, .int v5), (6, .int v6)], [], w) r) : tb_Ev tb_P 4 132 (63, [], [], w) r := by
  unfold fj_h_firstPartner_j59 at h
  refine tb_Es (k := 1) (st' := (64, [], [.int (-1)], w)) rfl ?_
  obtain rfl := Option.some.inj h
  replace hx : r = _ := hx
  subst hx
  exact tb_Er rfl rfl
def fl_h_firstPartner_21 : Nat → Nat → Nat → Int32 → Int32 → Int32 → Int32 → Int32 → tb_Hp → Option (Int32 × tb_Hp)
  | 0, _, _, _, _, _, _, _, _ => none
  | n + 1, v0, v1, v2, v3, v4, v5, v6, w => (tb_gI 17 0 v1 w).bind fun x4 => (if v6 < x4 then (if ((v5 &&& v3) &&& (1 <<< (v6 &&& 31))) = 0 then fj_h_firstPartner_j36 (fl_h_firstPartner_21 n) v0 v1 v2 v3 v4 v5 v6 0 w else fj_h_firstPartner_j36 (fl_h_firstPartner_21 n) v0 v1 v2 v3 v4 v5 v6 1 w) else fj_h_firstPartner_j59 (fl_h_firstPartner_21 n)  w)
set_option maxHeartbeats 4000000 in
set_option maxRecDepth 20000 in
theorem dl_h_firstPartner_21 : ∀ (n : Nat) (v0 : Nat) (v1 : Nat) (v2 : Int32) (v3 : Int32) (v4 : Int32) (v5 : Int32) (v6 : Int32) (w : tb_Hp) (o : Int32 × tb_Hp), fl_h_firstPartner_21 n v0 v1 v2 v3 v4 v5 v6 w = some o → ∀ (r : Option Value × tb_Hp), r = (some (.int o.1), o.2) → tb_Ev tb_P 4 132 (22, [(0, .ref v0), (1, .ref v1), (2, .int v2), (3, .int v3), (4, .int v4), (5, .int v5), (6, .int v6)], [], w) r := by
  intro n
  induction n with
  | zero =>
    intro v0 v1 v2 v3 v4 v5 v6 w o h
    cases h
  | succ n ih =>
    intro v0 v1 v2 v3 v4 v5 v6 w o h r hx
    unfold fl_h_firstPartner_21 at h
    refine tb_Es (k := 2) (st' := (24, [(0, .ref v0), (1, .ref v1), (2, .int v2), (3, .int v3), (4, .int v4), (5, .int v5), (6, .int v6)], [.ref v1, .int v6], w)) rfl ?_
    replace h := Option.bind_eq_some_iff.mp h
    obtain ⟨x4, ex4, h⟩ := h
    refine tb_e_gI rfl ex4 ?_
    refine tb_b_cge rfl (fun hc => ?_) (fun hc => ?_)
    · rw [if_pos hc] at h
      refine tb_Es (k := 7) (st' := (33, [(0, .ref v0), (1, .ref v1), (2, .int v2), (3, .int v3), (4, .int v4), (5, .int v5), (6, .int v6)], [.int ((v5 &&& v3) &&& (1 <<< (v6 &&& 31)))], w)) rfl ?_
      refine tb_b_ieq rfl (fun hc => ?_) (fun hc => ?_)
      · rw [if_pos hc] at h
        refine tb_Es (k := 2) (st' := (38, [(0, .ref v0), (1, .ref v1), (2, .int v2), (3, .int v3), (4, .int v4), (5, .int v5), (6, .int v6)], [.int 0], w)) rfl ?_
        exact dj_h_firstPartner_j36 (fl_h_firstPartner_21 n) v0 v1 v2 v3 v4 v5 v6 0 w _ h r hx (fun v0_ v1_ v2_ v3_ v4_ v5_ v6_ w_ h_ => ih v0_ v1_ v2_ v3_ v4_ v5_ v6_ w_ _ h_ r hx)
      · rw [if_neg hc] at h
        refine tb_Es (k := 3) (st' := (38, [(0, .ref v0), (1, .ref v1), (2, .int v2), (3, .int v3), (4, .int v4), (5, .int v5), (6, .int v6)], [.int 1], w)) rfl ?_
        exact dj_h_firstPartner_j36 (fl_h_firstPartner_21 n) v0 v1 v2 v3 v4 v5 v6 1 w _ h r hx (fun v0_ v1_ v2_ v3_ v4_ v5_ v6_ w_ h_ => ih v0_ v1_ v2_ v3_ v4_ v5_ v6_ w_ _ h_ r hx)
    · rw [if_neg hc] at h
      refine tb_Es (k := 1) (st' := (63, [], [], w)) rfl ?_
      exact dj_h_firstPartner_j59 (fl_h_firstPartner_21 n)  w _ h r hx (fun v0_ v1_ v2_ v3_ v4_ v5_ v6_ w_ h_ => ih v0_ v1_ v2_ v3_ v4_ v5_ v6_ w_ _ h_ r hx)
def fb_h_firstPartner (a0 : Nat) (a1 : Nat) (a2 : Int32) (a3 : Int32) (w : tb_Hp) : Option (Int32 × tb_Hp) := (tb_on 10 a0 w (fb_h_pairsFrom a0 a2 a3 w)).bind fun x1 => (tb_on 10 a0 x1.2 (fb_h_pairsFrom a0 (a2 + 1) a3 x1.2)).bind fun x2 => (if x2.1 = x1.1 then some (-1, x2.2) else (fb_h_joinedTo a1 a2 x2.2).bind fun x3 => (fl_h_firstPartner_21 1048576 a0 a1 a2 a3 x1.1 x3.1 0 x3.2).bind fun o6 => some o6)
set_option maxHeartbeats 4000000 in
set_option maxRecDepth 20000 in
theorem dc_h_firstPartner {a0 : Nat} {a1 : Nat} {a2 : Int32} {a3 : Int32} {w : tb_Hp} {o : Int32 × tb_Hp} (h : fb_h_firstPartner a0 a1 a2 a3 w = some o) : tb_Ev tb_P 4 132 (0, tb_ent [.ref a0, .ref a1, .int a2, .int a3], [], w) (some (.int o.1), o.2) := by
  unfold fb_h_firstPartner at h
  obtain ⟨r, hr⟩ : ∃ r : Option Value × tb_Hp, r = (some (.int o.1), o.2) := ⟨_, rfl⟩
  rw [← hr]
  show tb_Ev tb_P 4 132 (0, [(0, .ref a0), (1, .ref a1), (2, .int a2), (3, .int a3)], [], w) r
  refine tb_Es (k := 3) (st' := (3, [(0, .ref a0), (1, .ref a1), (2, .int a2), (3, .int a3)], [.int a3, .int a2, .ref a0], w)) rfl ?_
  replace h := Option.bind_eq_some_iff.mp h
  obtain ⟨x1, ex1, h⟩ := h
  obtain ⟨hkx1, hcall⟩ := tb_on_some ex1
  refine tb_e_cv (v := some (.int x1.1)) rfl (Or.inl ⟨_, rfl⟩) rfl rfl (Nat.le_of_ble_eq_true rfl) rfl (Nat.le_of_ble_eq_true rfl) hkx1 ((dc_h_pairsFrom hcall).up (by decide)) ?_
  refine tb_Es (k := 6) (st' := (10, [(4, .int x1.1), (0, .ref a0), (1, .ref a1), (2, .int a2), (3, .int a3)], [.int a3, .int (a2 + 1), .ref a0], x1.2)) rfl ?_
  replace h := Option.bind_eq_some_iff.mp h
  obtain ⟨x2, ex2, h⟩ := h
  obtain ⟨hkx2, hcall⟩ := tb_on_some ex2
  refine tb_e_cv (v := some (.int x2.1)) rfl (Or.inl ⟨_, rfl⟩) rfl rfl (Nat.le_of_ble_eq_true rfl) rfl (Nat.le_of_ble_eq_true rfl) hkx2 ((dc_h_pairsFrom hcall).up (by decide)) ?_
  refine tb_Es (k := 1) (st' := (12, [(4, .int x1.1), (0, .ref a0), (1, .ref a1), (2, .int a2), (3, .int a3)], [.int x1.1, .int x2.1], x2.2)) rfl ?_
  refine tb_b_cne rfl (fun hc => ?_) (fun hc => ?_)
  · rw [if_pos hc] at h
    refine tb_Es (k := 1) (st' := (14, [(4, .int x1.1), (0, .ref a0), (1, .ref a1), (2, .int a2), (3, .int a3)], [.int (-1)], x2.2)) rfl ?_
    obtain rfl := Option.some.inj h
    subst hr
    exact tb_Er rfl rfl
  · rw [if_neg hc] at h
    refine tb_Es (k := 2) (st' := (17, [(4, .int x1.1), (0, .ref a0), (1, .ref a1), (2, .int a2), (3, .int a3)], [.int a2, .ref a1], x2.2)) rfl ?_
    replace h := Option.bind_eq_some_iff.mp h
    obtain ⟨x3, ex3, h⟩ := h
    have hcall := ex3
    refine tb_e_cs (v := some (.int x3.1)) rfl rfl rfl (Nat.le_of_ble_eq_true rfl) rfl (Nat.le_of_ble_eq_true rfl) ((dc_h_joinedTo hcall).up (by decide)) ?_
    refine tb_Es (k := 4) (st' := (22, [(0, .ref a0), (1, .ref a1), (2, .int a2), (3, .int a3), (4, .int x1.1), (5, .int x3.1), (6, .int 0)], [], x3.2)) rfl ?_
    replace h := Option.bind_eq_some_iff.mp h
    obtain ⟨o6, eo6, h⟩ := h
    refine dl_h_firstPartner_21 _ a0 a1 a2 a3 x1.1 x3.1 0 x3.2 _ eo6 r ?_
    obtain rfl := Option.some.inj h
    exact hr
/-! TannerBunting$Years.letGo(III)V -/
def fj_yr_letGo_j16 (v0 : Nat) (v1 : Int32) (v3 : Int32) (w : tb_Hp) : Option (tb_Hp) := (if (v1 &&& 1) = 0 then (tb_gN 20 0 v0 w).bind fun p1 => (tb_on 17 p1 w (fb_s_giveWay p1 w)).bind fun x2 => some x2.2 else (tb_gN 20 0 v0 w).bind fun p3 => (tb_gI 17 4 p3 w).bind fun x4 => (tb_gN 20 0 v0 w).bind fun p5 => (tb_on 17 p5 w (fb_s_linesAt p5 v3 w)).bind fun x6 => (tb_pI 17 4 p3 (x4 &&& (x6.1 ^^^ (-1))) x6.2).bind fun w7 => (tb_gN 20 0 v0 w7).bind fun p8 => (tb_on 17 p8 w7 (fb_s_giveWay p8 w7)).bind fun x9 => some x9.2)
set_option maxHeartbeats 4000000 in
set_option maxRecDepth 20000 in
theorem dj_yr_letGo_j16 (v0 : Nat) (v1 : Int32) (v3 : Int32) (w : tb_Hp) (o : tb_Hp) (h : fj_yr_letGo_j16 v0 v1 v3 w = some o) (r : Option Value × tb_Hp) (hr : r = (none, o)) : tb_Ev tb_P 4 146 (17, [(0, .ref v0), (1, .int v1), (3, .int v3)], [], w) r := by
  unfold fj_yr_letGo_j16 at h
  refine tb_Es (k := 3) (st' := (20, [(0, .ref v0), (1, .int v1), (3, .int v3)], [.int (v1 &&& 1)], w)) rfl ?_
  refine tb_b_ieq rfl (fun hc => ?_) (fun hc => ?_)
  · rw [if_pos hc] at h
    refine tb_Es (k := 1) (st' := (34, [(0, .ref v0), (1, .int v1), (3, .int v3)], [.ref v0], w)) rfl ?_
    replace h := Option.bind_eq_some_iff.mp h
    obtain ⟨p1, ep1, h⟩ := h
    refine tb_e_gN rfl ep1 ?_
    replace h := Option.bind_eq_some_iff.mp h
    obtain ⟨x2, ex2, h⟩ := h
    obtain ⟨hkx2, hcall⟩ := tb_on_some ex2
    refine tb_e_cv (v := some (.int x2.1)) rfl (Or.inl ⟨_, rfl⟩) rfl rfl (Nat.le_of_ble_eq_true rfl) rfl (Nat.le_of_ble_eq_true rfl) hkx2 ((dc_s_giveWay hcall).up (by decide)) ?_
    refine tb_Es (k := 1) (st' := (37, [(0, .ref v0), (1, .int v1), (3, .int v3)], [], x2.2)) rfl ?_
    obtain rfl := Option.some.inj h
    subst hr
    exact tb_Er rfl rfl
  · rw [if_neg hc] at h
    refine tb_Es (k := 1) (st' := (22, [(0, .ref v0), (1, .int v1), (3, .int v3)], [.ref v0], w)) rfl ?_
    replace h := Option.bind_eq_some_iff.mp h
    obtain ⟨p3, ep3, h⟩ := h
    refine tb_e_gN rfl ep3 ?_
    refine tb_Es (k := 1) (st' := (24, [(0, .ref v0), (1, .int v1), (3, .int v3)], [.ref p3, .ref p3], w)) rfl ?_
    replace h := Option.bind_eq_some_iff.mp h
    obtain ⟨x4, ex4, h⟩ := h
    refine tb_e_gI rfl ex4 ?_
    refine tb_Es (k := 1) (st' := (26, [(0, .ref v0), (1, .int v1), (3, .int v3)], [.ref v0, .int x4, .ref p3], w)) rfl ?_
    replace h := Option.bind_eq_some_iff.mp h
    obtain ⟨p5, ep5, h⟩ := h
    refine tb_e_gN rfl ep5 ?_
    refine tb_Es (k := 1) (st' := (28, [(0, .ref v0), (1, .int v1), (3, .int v3)], [.int v3, .ref p5, .int x4, .ref p3], w)) rfl ?_
    replace h := Option.bind_eq_some_iff.mp h
    obtain ⟨x6, ex6, h⟩ := h
    obtain ⟨hkx6, hcall⟩ := tb_on_some ex6
    refine tb_e_cv (v := some (.int x6.1)) rfl (Or.inl ⟨_, rfl⟩) rfl rfl (Nat.le_of_ble_eq_true rfl) rfl (Nat.le_of_ble_eq_true rfl) hkx6 ((dc_s_linesAt hcall).up (by decide)) ?_
    refine tb_Es (k := 3) (st' := (32, [(0, .ref v0), (1, .int v1), (3, .int v3)], [.int (x4 &&& (x6.1 ^^^ (-1))), .ref p3], x6.2)) rfl ?_
    replace h := Option.bind_eq_some_iff.mp h
    obtain ⟨w7, ew7, h⟩ := h
    refine tb_e_pI rfl ew7 ?_
    refine tb_Es (k := 1) (st' := (34, [(0, .ref v0), (1, .int v1), (3, .int v3)], [.ref v0], w7)) rfl ?_
    replace h := Option.bind_eq_some_iff.mp h
    obtain ⟨p8, ep8, h⟩ := h
    refine tb_e_gN rfl ep8 ?_
    replace h := Option.bind_eq_some_iff.mp h
    obtain ⟨x9, ex9, h⟩ := h
    obtain ⟨hkx9, hcall⟩ := tb_on_some ex9
    refine tb_e_cv (v := some (.int x9.1)) rfl (Or.inl ⟨_, rfl⟩) rfl rfl (Nat.le_of_ble_eq_true rfl) rfl (Nat.le_of_ble_eq_true rfl) hkx9 ((dc_s_giveWay hcall).up (by decide)) ?_
    refine tb_Es (k := 1) (st' := (37, [(0, .ref v0), (1, .int v1), (3, .int v3)], [], x9.2)) rfl ?_
    obtain rfl := Option.some.inj h
    subst hr
    exact tb_Er rfl rfl
def fb_yr_letGo (a0 : Nat) (a1 : Int32) (a2 : Int32) (a3 : Int32) (w : tb_Hp) : Option (tb_Hp) := (if (a1 &&& 2) = 0 then fj_yr_letGo_j16 a0 a1 a3 w else (tb_gN 20 0 a0 w).bind fun p10 => (tb_gI 17 4 p10 w).bind fun x11 => (tb_gN 20 0 a0 w).bind fun p12 => (tb_on 17 p12 w (fb_s_linesAt p12 a2 w)).bind fun x13 => (tb_pI 17 4 p10 (x11 &&& (x13.1 ^^^ (-1))) x13.2).bind fun w14 => fj_yr_letGo_j16 a0 a1 a3 w14)
set_option maxHeartbeats 4000000 in
set_option maxRecDepth 20000 in
theorem dc_yr_letGo {a0 : Nat} {a1 : Int32} {a2 : Int32} {a3 : Int32} {w : tb_Hp} {o : tb_Hp} (h : fb_yr_letGo a0 a1 a2 a3 w = some o) : tb_Ev tb_P 4 146 (0, tb_ent [.ref a0, .int a1, .int a2, .int a3], [], w) (none, o) := by
  unfold fb_yr_letGo at h
  obtain ⟨r, hr⟩ : ∃ r : Option Value × tb_Hp, r = (none, o) := ⟨_, rfl⟩
  rw [← hr]
  show tb_Ev tb_P 4 146 (0, [(0, .ref a0), (1, .int a1), (2, .int a2), (3, .int a3)], [], w) r
  refine tb_Es (k := 3) (st' := (3, [(0, .ref a0), (1, .int a1), (2, .int a2), (3, .int a3)], [.int (a1 &&& 2)], w)) rfl ?_
  refine tb_b_ieq rfl (fun hc => ?_) (fun hc => ?_)
  · rw [if_pos hc] at h
    refine tb_Es (k := 1) (st' := (17, [(0, .ref a0), (1, .int a1), (3, .int a3)], [], w)) rfl ?_
    exact dj_yr_letGo_j16 a0 a1 a3 w _ h r hr
  · rw [if_neg hc] at h
    refine tb_Es (k := 1) (st' := (5, [(0, .ref a0), (1, .int a1), (2, .int a2), (3, .int a3)], [.ref a0], w)) rfl ?_
    replace h := Option.bind_eq_some_iff.mp h
    obtain ⟨p10, ep10, h⟩ := h
    refine tb_e_gN rfl ep10 ?_
    refine tb_Es (k := 1) (st' := (7, [(0, .ref a0), (1, .int a1), (2, .int a2), (3, .int a3)], [.ref p10, .ref p10], w)) rfl ?_
    replace h := Option.bind_eq_some_iff.mp h
    obtain ⟨x11, ex11, h⟩ := h
    refine tb_e_gI rfl ex11 ?_
    refine tb_Es (k := 1) (st' := (9, [(0, .ref a0), (1, .int a1), (2, .int a2), (3, .int a3)], [.ref a0, .int x11, .ref p10], w)) rfl ?_
    replace h := Option.bind_eq_some_iff.mp h
    obtain ⟨p12, ep12, h⟩ := h
    refine tb_e_gN rfl ep12 ?_
    refine tb_Es (k := 1) (st' := (11, [(0, .ref a0), (1, .int a1), (2, .int a2), (3, .int a3)], [.int a2, .ref p12, .int x11, .ref p10], w)) rfl ?_
    replace h := Option.bind_eq_some_iff.mp h
    obtain ⟨x13, ex13, h⟩ := h
    obtain ⟨hkx13, hcall⟩ := tb_on_some ex13
    refine tb_e_cv (v := some (.int x13.1)) rfl (Or.inl ⟨_, rfl⟩) rfl rfl (Nat.le_of_ble_eq_true rfl) rfl (Nat.le_of_ble_eq_true rfl) hkx13 ((dc_s_linesAt hcall).up (by decide)) ?_
    refine tb_Es (k := 3) (st' := (15, [(0, .ref a0), (1, .int a1), (2, .int a2), (3, .int a3)], [.int (x11 &&& (x13.1 ^^^ (-1))), .ref p10], x13.2)) rfl ?_
    replace h := Option.bind_eq_some_iff.mp h
    obtain ⟨w14, ew14, h⟩ := h
    refine tb_e_pI rfl ew14 ?_
    refine tb_Es (k := 1) (st' := (17, [(0, .ref a0), (1, .int a1), (3, .int a3)], [], w14)) rfl ?_
    exact dj_yr_letGo_j16 a0 a1 a3 w14 _ h r hr
/-! TannerBunting.pence(II)I -/
def fb_x_pence (a0 : Nat) (a1 : Int32) (a2 : Int32) (w : tb_Hp) : Option (Int32 × tb_Hp) := (fb_x_within a1 0 9999 w).bind fun x1 => (if x1.1 = 0 then some (-1, x1.2) else (tb_gN 21 5 a0 x1.2).bind fun p2 => (tb_gN 15 0 p2 x1.2).bind fun p3 => (tb_on 17 p3 x1.2 (fb_s_isHouse p3 a2 x1.2)).bind fun x4 => (if x4.1 = 0 then some (-1, x4.2) else (tb_gN 21 5 a0 x4.2).bind fun p5 => (tb_gN 15 0 p5 x4.2).bind fun p6 => (fb_x_penceOf p6 a1 a2 x4.2).bind fun x7 => some (x7.1, x7.2)))
set_option maxHeartbeats 4000000 in
set_option maxRecDepth 20000 in
theorem dc_x_pence {a0 : Nat} {a1 : Int32} {a2 : Int32} {w : tb_Hp} {o : Int32 × tb_Hp} (h : fb_x_pence a0 a1 a2 w = some o) : tb_Ev tb_P 4 149 (0, tb_ent [.ref a0, .int a1, .int a2], [], w) (some (.int o.1), o.2) := by
  unfold fb_x_pence at h
  obtain ⟨r, hr⟩ : ∃ r : Option Value × tb_Hp, r = (some (.int o.1), o.2) := ⟨_, rfl⟩
  rw [← hr]
  show tb_Ev tb_P 4 149 (0, [(0, .ref a0), (1, .int a1), (2, .int a2)], [], w) r
  refine tb_Es (k := 3) (st' := (3, [(0, .ref a0), (1, .int a1), (2, .int a2)], [.int 9999, .int 0, .int a1], w)) rfl ?_
  replace h := Option.bind_eq_some_iff.mp h
  obtain ⟨x1, ex1, h⟩ := h
  have hcall := ex1
  refine tb_e_cs (v := some (.int x1.1)) rfl rfl rfl (Nat.le_of_ble_eq_true rfl) rfl (Nat.le_of_ble_eq_true rfl) ((dc_x_within hcall).up (by decide)) ?_
  refine tb_b_ieq rfl (fun hc => ?_) (fun hc => ?_)
  · rw [if_pos hc] at h
    refine tb_Es (k := 1) (st' := (12, [(0, .ref a0), (1, .int a1), (2, .int a2)], [.int (-1)], x1.2)) rfl ?_
    obtain rfl := Option.some.inj h
    subst hr
    exact tb_Er rfl rfl
  · rw [if_neg hc] at h
    refine tb_Es (k := 1) (st' := (6, [(0, .ref a0), (1, .int a1), (2, .int a2)], [.ref a0], x1.2)) rfl ?_
    replace h := Option.bind_eq_some_iff.mp h
    obtain ⟨p2, ep2, h⟩ := h
    refine tb_e_gN rfl ep2 ?_
    replace h := Option.bind_eq_some_iff.mp h
    obtain ⟨p3, ep3, h⟩ := h
    refine tb_e_gN rfl ep3 ?_
    refine tb_Es (k := 1) (st' := (9, [(0, .ref a0), (1, .int a1), (2, .int a2)], [.int a2, .ref p3], x1.2)) rfl ?_
    replace h := Option.bind_eq_some_iff.mp h
    obtain ⟨x4, ex4, h⟩ := h
    obtain ⟨hkx4, hcall⟩ := tb_on_some ex4
    refine tb_e_cv (v := some (.int x4.1)) rfl (Or.inl ⟨_, rfl⟩) rfl rfl (Nat.le_of_ble_eq_true rfl) rfl (Nat.le_of_ble_eq_true rfl) hkx4 ((dc_s_isHouse hcall).up (by decide)) ?_
    refine tb_b_ine rfl (fun hc => ?_) (fun hc => ?_)
    · rw [if_pos hc] at h
      refine tb_Es (k := 1) (st' := (12, [(0, .ref a0), (1, .int a1), (2, .int a2)], [.int (-1)], x4.2)) rfl ?_
      obtain rfl := Option.some.inj h
      subst hr
      exact tb_Er rfl rfl
    · rw [if_neg hc] at h
      refine tb_Es (k := 1) (st' := (14, [(0, .ref a0), (1, .int a1), (2, .int a2)], [.ref a0], x4.2)) rfl ?_
      replace h := Option.bind_eq_some_iff.mp h
      obtain ⟨p5, ep5, h⟩ := h
      refine tb_e_gN rfl ep5 ?_
      replace h := Option.bind_eq_some_iff.mp h
      obtain ⟨p6, ep6, h⟩ := h
      refine tb_e_gN rfl ep6 ?_
      refine tb_Es (k := 2) (st' := (18, [(0, .ref a0), (1, .int a1), (2, .int a2)], [.int a2, .int a1, .ref p6], x4.2)) rfl ?_
      replace h := Option.bind_eq_some_iff.mp h
      obtain ⟨x7, ex7, h⟩ := h
      have hcall := ex7
      refine tb_e_cs (v := some (.int x7.1)) rfl rfl rfl (Nat.le_of_ble_eq_true rfl) rfl (Nat.le_of_ble_eq_true rfl) ((dc_x_penceOf hcall).up (by decide)) ?_
      obtain rfl := Option.some.inj h
      subst hr
      exact tb_Er rfl rfl
