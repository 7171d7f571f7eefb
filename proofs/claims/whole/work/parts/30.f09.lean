/-! TannerBunting.prop(II)I -/
def fb_x_prop (a0 : Nat) (a1 : Int32) (a2 : Int32) (w : tb_Hp) : Option (Int32 × tb_Hp) := (tb_gN 21 5 a0 w).bind fun p1 => (tb_gN 15 0 p1 w).bind fun p2 => (tb_on 17 p2 w (fb_s_stands p2 a1 w)).bind fun x3 => (if x3.1 = 0 then some (-1, x3.2) else (fb_x_within a2 1 9 x3.2).bind fun x4 => (if x4.1 = 0 then some (-1, x4.2) else (tb_gN 21 7 a0 x4.2).bind fun p5 => (tb_gN 21 5 a0 x4.2).bind fun p6 => (tb_gN 15 0 p6 x4.2).bind fun p7 => (tb_on 13 p5 x4.2 (fb_p_keep p5 p7 x4.2)).bind fun x8 => (tb_gN 21 5 a0 x8).bind fun p9 => (tb_gN 15 0 p9 x8).bind fun p10 => (tb_gN 21 5 a0 x8).bind fun p11 => (tb_gN 15 0 p11 x8).bind fun p12 => (tb_on 17 p12 x8 (fb_s_footOf p12 a1 x8)).bind fun x13 => (fb_ma_min 60 (x13.1 + a2) x13.2).bind fun x14 => (tb_on 17 p10 x14.2 (fb_s_setFoot p10 a1 x14.1 x14.2)).bind fun x15 => (tb_gN 21 5 a0 x15).bind fun p16 => (tb_gN 15 0 p16 x15).bind fun p17 => (tb_on 17 p17 x15 (fb_s_footOf p17 a1 x15)).bind fun x18 => some (x18.1, x18.2)))
set_option maxHeartbeats 4000000 in
set_option maxRecDepth 20000 in
theorem dc_x_prop {a0 : Nat} {a1 : Int32} {a2 : Int32} {w : tb_Hp} {o : Int32 × tb_Hp} (h : fb_x_prop a0 a1 a2 w = some o) : tb_Ev tb_P 2 95 (0, tb_ent [.ref a0, .int a1, .int a2], [], w) (some (.int o.1), o.2) := by
  unfold fb_x_prop at h
  obtain ⟨r, hr⟩ : ∃ r : Option Value × tb_Hp, r = (some (.int o.1), o.2) := ⟨_, rfl⟩
  rw [← hr]
  show tb_Ev tb_P 2 95 (0, [(0, .ref a0), (1, .int a1), (2, .int a2)], [], w) r
  refine tb_Es (k := 1) (st' := (1, [(0, .ref a0), (1, .int a1), (2, .int a2)], [.ref a0], w)) rfl ?_
  replace h := Option.bind_eq_some_iff.mp h
  obtain ⟨p1, ep1, h⟩ := h
  refine tb_e_gN rfl ep1 ?_
  replace h := Option.bind_eq_some_iff.mp h
  obtain ⟨p2, ep2, h⟩ := h
  refine tb_e_gN rfl ep2 ?_
  refine tb_Es (k := 1) (st' := (4, [(0, .ref a0), (1, .int a1), (2, .int a2)], [.int a1, .ref p2], w)) rfl ?_
  replace h := Option.bind_eq_some_iff.mp h
  obtain ⟨x3, ex3, h⟩ := h
  obtain ⟨hkx3, hcall⟩ := tb_on_some ex3
  refine tb_e_cv (v := some (.int x3.1)) rfl (Or.inl ⟨_, rfl⟩) rfl rfl (Nat.le_of_ble_eq_true rfl) rfl (Nat.le_of_ble_eq_true rfl) hkx3 ((dc_s_stands hcall).up (by decide)) ?_
  refine tb_b_ieq rfl (fun hc => ?_) (fun hc => ?_)
  · rw [if_pos hc] at h
    refine tb_Es (k := 1) (st' := (12, [(0, .ref a0), (1, .int a1), (2, .int a2)], [.int (-1)], x3.2)) rfl ?_
    obtain rfl := Option.some.inj h
    subst hr
    exact tb_Er rfl rfl
  · rw [if_neg hc] at h
    refine tb_Es (k := 3) (st' := (9, [(0, .ref a0), (1, .int a1), (2, .int a2)], [.int 9, .int 1, .int a2], x3.2)) rfl ?_
    replace h := Option.bind_eq_some_iff.mp h
    obtain ⟨x4, ex4, h⟩ := h
    have hcall := ex4
    refine tb_e_cs (v := some (.int x4.1)) rfl rfl rfl (Nat.le_of_ble_eq_true rfl) rfl (Nat.le_of_ble_eq_true rfl) ((dc_x_within hcall).up (by decide)) ?_
    refine tb_b_ine rfl (fun hc => ?_) (fun hc => ?_)
    · rw [if_pos hc] at h
      refine tb_Es (k := 1) (st' := (12, [(0, .ref a0), (1, .int a1), (2, .int a2)], [.int (-1)], x4.2)) rfl ?_
      obtain rfl := Option.some.inj h
      subst hr
      exact tb_Er rfl rfl
    · rw [if_neg hc] at h
      refine tb_Es (k := 1) (st' := (14, [(0, .ref a0), (1, .int a1), (2, .int a2)], [.ref a0], x4.2)) rfl ?_
      replace h := Option.bind_eq_some_iff.mp h
      obtain ⟨p5, ep5, h⟩ := h
      refine tb_e_gN rfl ep5 ?_
      refine tb_Es (k := 1) (st' := (16, [(0, .ref a0), (1, .int a1), (2, .int a2)], [.ref a0, .ref p5], x4.2)) rfl ?_
      replace h := Option.bind_eq_some_iff.mp h
      obtain ⟨p6, ep6, h⟩ := h
      refine tb_e_gN rfl ep6 ?_
      replace h := Option.bind_eq_some_iff.mp h
      obtain ⟨p7, ep7, h⟩ := h
      refine tb_e_gN rfl ep7 ?_
      replace h := Option.bind_eq_some_iff.mp h
      obtain ⟨x8, ex8, h⟩ := h
      obtain ⟨hkx8, hcall⟩ := tb_on_some ex8
      refine tb_e_cv (v := none) rfl (Or.inl ⟨_, rfl⟩) rfl rfl (Nat.le_of_ble_eq_true rfl) rfl (Nat.le_of_ble_eq_true rfl) hkx8 ((dc_p_keep hcall).up (by decide)) ?_
      refine tb_Es (k := 1) (st' := (20, [(0, .ref a0), (1, .int a1), (2, .int a2)], [.ref a0], x8)) rfl ?_
      replace h := Option.bind_eq_some_iff.mp h
      obtain ⟨p9, ep9, h⟩ := h
      refine tb_e_gN rfl ep9 ?_
      replace h := Option.bind_eq_some_iff.mp h
      obtain ⟨p10, ep10, h⟩ := h
      refine tb_e_gN rfl ep10 ?_
      refine tb_Es (k := 3) (st' := (25, [(0, .ref a0), (1, .int a1), (2, .int a2)], [.ref a0, .int 60, .int a1, .ref p10], x8)) rfl ?_
      replace h := Option.bind_eq_some_iff.mp h
      obtain ⟨p11, ep11, h⟩ := h
      refine tb_e_gN rfl ep11 ?_
      replace h := Option.bind_eq_some_iff.mp h
      obtain ⟨p12, ep12, h⟩ := h
      refine tb_e_gN rfl ep12 ?_
      refine tb_Es (k := 1) (st' := (28, [(0, .ref a0), (1, .int a1), (2, .int a2)], [.int a1, .ref p12, .int 60, .int a1, .ref p10], x8)) rfl ?_
      replace h := Option.bind_eq_some_iff.mp h
      obtain ⟨x13, ex13, h⟩ := h
      obtain ⟨hkx13, hcall⟩ := tb_on_some ex13
      refine tb_e_cv (v := some (.int x13.1)) rfl (Or.inl ⟨_, rfl⟩) rfl rfl (Nat.le_of_ble_eq_true rfl) rfl (Nat.le_of_ble_eq_true rfl) hkx13 ((dc_s_footOf hcall).up (by decide)) ?_
      refine tb_Es (k := 2) (st' := (31, [(0, .ref a0), (1, .int a1), (2, .int a2)], [.int (x13.1 + a2), .int 60, .int a1, .ref p10], x13.2)) rfl ?_
      replace h := Option.bind_eq_some_iff.mp h
      obtain ⟨x14, ex14, h⟩ := h
      have hcall := ex14
      refine tb_e_cs (v := some (.int x14.1)) rfl rfl rfl (Nat.le_of_ble_eq_true rfl) rfl (Nat.le_of_ble_eq_true rfl) ((dc_ma_min hcall).up (by decide)) ?_
      replace h := Option.bind_eq_some_iff.mp h
      obtain ⟨x15, ex15, h⟩ := h
      obtain ⟨hkx15, hcall⟩ := tb_on_some ex15
      refine tb_e_cv (v := none) rfl (Or.inl ⟨_, rfl⟩) rfl rfl (Nat.le_of_ble_eq_true rfl) rfl (Nat.le_of_ble_eq_true rfl) hkx15 ((dc_s_setFoot hcall).up (by decide)) ?_
      refine tb_Es (k := 1) (st' := (34, [(0, .ref a0), (1, .int a1), (2, .int a2)], [.ref a0], x15)) rfl ?_
      replace h := Option.bind_eq_some_iff.mp h
      obtain ⟨p16, ep16, h⟩ := h
      refine tb_e_gN rfl ep16 ?_
      replace h := Option.bind_eq_some_iff.mp h
      obtain ⟨p17, ep17, h⟩ := h
      refine tb_e_gN rfl ep17 ?_
      refine tb_Es (k := 1) (st' := (37, [(0, .ref a0), (1, .int a1), (2, .int a2)], [.int a1, .ref p17], x15)) rfl ?_
      replace h := Option.bind_eq_some_iff.mp h
      obtain ⟨x18, ex18, h⟩ := h
      obtain ⟨hkx18, hcall⟩ := tb_on_some ex18
      refine tb_e_cv (v := some (.int x18.1)) rfl (Or.inl ⟨_, rfl⟩) rfl rfl (Nat.le_of_ble_eq_true rfl) rfl (Nat.le_of_ble_eq_true rfl) hkx18 ((dc_s_footOf hcall).up (by decide)) ?_
      obtain rfl := Option.some.inj h
      subst hr
      exact tb_Er rfl rfl
/-! TannerBunting.undo()I -/
def fb_x_undo (a0 : Nat) (w : tb_Hp) : Option (Int32 × tb_Hp) := (tb_gN 21 7 a0 w).bind fun p1 => (tb_gI 13 0 p1 w).bind fun x2 => (if x2 = 0 then some (-1, w) else (tb_gN 21 7 a0 w).bind fun p3 => (tb_gN 21 5 a0 w).bind fun p4 => (tb_gN 15 0 p4 w).bind fun p5 => (tb_on 13 p3 w (fb_p_giveBack p3 p5 w)).bind fun x6 => (tb_gN 21 7 a0 x6).bind fun p7 => (tb_gI 13 0 p7 x6).bind fun x8 => some (x8, x6))
set_option maxHeartbeats 4000000 in
set_option maxRecDepth 20000 in
theorem dc_x_undo {a0 : Nat} {w : tb_Hp} {o : Int32 × tb_Hp} (h : fb_x_undo a0 w = some o) : tb_Ev tb_P 2 96 (0, tb_ent [.ref a0], [], w) (some (.int o.1), o.2) := by
  unfold fb_x_undo at h
  obtain ⟨r, hr⟩ : ∃ r : Option Value × tb_Hp, r = (some (.int o.1), o.2) := ⟨_, rfl⟩
  rw [← hr]
  show tb_Ev tb_P 2 96 (0, [(0, .ref a0)], [], w) r
  refine tb_Es (k := 1) (st' := (1, [(0, .ref a0)], [.ref a0], w)) rfl ?_
  replace h := Option.bind_eq_some_iff.mp h
  obtain ⟨p1, ep1, h⟩ := h
  refine tb_e_gN rfl ep1 ?_
  replace h := Option.bind_eq_some_iff.mp h
  obtain ⟨x2, ex2, h⟩ := h
  refine tb_e_gI rfl ex2 ?_
  refine tb_b_ine rfl (fun hc => ?_) (fun hc => ?_)
  · rw [if_pos hc] at h
    refine tb_Es (k := 1) (st' := (5, [(0, .ref a0)], [.int (-1)], w)) rfl ?_
    obtain rfl := Option.some.inj h
    subst hr
    exact tb_Er rfl rfl
  · rw [if_neg hc] at h
    refine tb_Es (k := 1) (st' := (7, [(0, .ref a0)], [.ref a0], w)) rfl ?_
    replace h := Option.bind_eq_some_iff.mp h
    obtain ⟨p3, ep3, h⟩ := h
    refine tb_e_gN rfl ep3 ?_
    refine tb_Es (k := 1) (st' := (9, [(0, .ref a0)], [.ref a0, .ref p3], w)) rfl ?_
    replace h := Option.bind_eq_some_iff.mp h
    obtain ⟨p4, ep4, h⟩ := h
    refine tb_e_gN rfl ep4 ?_
    replace h := Option.bind_eq_some_iff.mp h
    obtain ⟨p5, ep5, h⟩ := h
    refine tb_e_gN rfl ep5 ?_
    replace h := Option.bind_eq_some_iff.mp h
    obtain ⟨x6, ex6, h⟩ := h
    obtain ⟨hkx6, hcall⟩ := tb_on_some ex6
    refine tb_e_cv (v := none) rfl (Or.inl ⟨_, rfl⟩) rfl rfl (Nat.le_of_ble_eq_true rfl) rfl (Nat.le_of_ble_eq_true rfl) hkx6 ((dc_p_giveBack hcall).up (by decide)) ?_
    refine tb_Es (k := 1) (st' := (13, [(0, .ref a0)], [.ref a0], x6)) rfl ?_
    replace h := Option.bind_eq_some_iff.mp h
    obtain ⟨p7, ep7, h⟩ := h
    refine tb_e_gN rfl ep7 ?_
    replace h := Option.bind_eq_some_iff.mp h
    obtain ⟨x8, ex8, h⟩ := h
    refine tb_e_gI rfl ex8 ?_
    obtain rfl := Option.some.inj h
    subst hr
    exact tb_Er rfl rfl
/-! TannerBunting$Street.holdOf(I)I -/
def fb_s_holdOf (a0 : Nat) (a1 : Int32) (w : tb_Hp) : Option (Int32 × tb_Hp) := (tb_on 17 a0 w (fb_s_weighAll a0 w)).bind fun x1 => (tb_on 17 a0 x1 (fb_s_isHouse a0 a1 x1)).bind fun x2 => (if x2.1 = 0 then some (0, x2.2) else (tb_gN 17 11 a0 x2.2).bind fun p3 => (tb_lI [1, 9] p3 a1 x2.2).bind fun x4 => some (x4, x2.2))
set_option maxHeartbeats 4000000 in
set_option maxRecDepth 20000 in
theorem dc_s_holdOf {a0 : Nat} {a1 : Int32} {w : tb_Hp} {o : Int32 × tb_Hp} (h : fb_s_holdOf a0 a1 w = some o) : tb_Ev tb_P 2 107 (0, tb_ent [.ref a0, .int a1], [], w) (some (.int o.1), o.2) := by
  unfold fb_s_holdOf at h
  obtain ⟨r, hr⟩ : ∃ r : Option Value × tb_Hp, r = (some (.int o.1), o.2) := ⟨_, rfl⟩
  rw [← hr]
  show tb_Ev tb_P 2 107 (0, [(0, .ref a0), (1, .int a1)], [], w) r
  refine tb_Es (k := 1) (st' := (1, [(0, .ref a0), (1, .int a1)], [.ref a0], w)) rfl ?_
  replace h := Option.bind_eq_some_iff.mp h
  obtain ⟨x1, ex1, h⟩ := h
  obtain ⟨hkx1, hcall⟩ := tb_on_some ex1
  refine tb_e_cv (v := none) rfl (Or.inl ⟨_, rfl⟩) rfl rfl (Nat.le_of_ble_eq_true rfl) rfl (Nat.le_of_ble_eq_true rfl) hkx1 ((dc_s_weighAll hcall).up (by decide)) ?_
  refine tb_Es (k := 2) (st' := (4, [(0, .ref a0), (1, .int a1)], [.int a1, .ref a0], x1)) rfl ?_
  replace h := Option.bind_eq_some_iff.mp h
  obtain ⟨x2, ex2, h⟩ := h
  obtain ⟨hkx2, hcall⟩ := tb_on_some ex2
  refine tb_e_cv (v := some (.int x2.1)) rfl (Or.inl ⟨_, rfl⟩) rfl rfl (Nat.le_of_ble_eq_true rfl) rfl (Nat.le_of_ble_eq_true rfl) hkx2 ((dc_s_isHouse hcall).up (by decide)) ?_
  refine tb_b_ieq rfl (fun hc => ?_) (fun hc => ?_)
  · rw [if_pos hc] at h
    refine tb_Es (k := 1) (st' := (12, [(0, .ref a0), (1, .int a1)], [.int 0], x2.2)) rfl ?_
    obtain rfl := Option.some.inj h
    subst hr
    exact tb_Er rfl rfl
  · rw [if_neg hc] at h
    refine tb_Es (k := 1) (st' := (7, [(0, .ref a0), (1, .int a1)], [.ref a0], x2.2)) rfl ?_
    replace h := Option.bind_eq_some_iff.mp h
    obtain ⟨p3, ep3, h⟩ := h
    refine tb_e_gN rfl ep3 ?_
    refine tb_Es (k := 1) (st' := (9, [(0, .ref a0), (1, .int a1)], [.int a1, .ref p3], x2.2)) rfl ?_
    replace h := Option.bind_eq_some_iff.mp h
    obtain ⟨x4, ex4, h⟩ := h
    refine tb_e_lI rfl (Or.inl ⟨rfl, rfl⟩) ex4 ?_
    refine tb_Es (k := 1) (st' := (12, [(0, .ref a0), (1, .int a1)], [.int x4], x2.2)) rfl ?_
    obtain rfl := Option.some.inj h
    subst hr
    exact tb_Er rfl rfl
/-! TannerBunting$Hands.neighboursOf(LTannerBunting$Street;I)I -/
def fl_h_neighboursOf_4 : Nat → Nat → Int32 → Int32 → Int32 → tb_Hp → Option (Int32 × tb_Hp)
  | 0, _, _, _, _, _ => none
  | n + 1, v0, v1, v2, v3, w => (tb_gI 17 3 v0 w).bind fun x1 => (if v3 < x1 then (tb_on 17 v0 w (fb_s_isUp v0 v3 w)).bind fun x2 => (if x2.1 = 0 then fl_h_neighboursOf_4 n v0 v1 v2 (v3 + 1) x2.2 else (tb_on 17 v0 x2.2 (fb_s_endsOf v0 v3 x2.2)).bind fun x3 => (if (x3.1 &&& v1) = 0 then fl_h_neighboursOf_4 n v0 v1 v2 (v3 + 1) x3.2 else (tb_on 17 v0 x3.2 (fb_s_endsOf v0 v3 x3.2)).bind fun x4 => fl_h_neighboursOf_4 n v0 v1 (v2 ||| x4.1) (v3 + 1) x4.2)) else some ((v2, w)))
set_option maxHeartbeats 4000000 in
set_option maxRecDepth 20000 in
theorem dl_h_neighboursOf_4 : ∀ (n : Nat) (v0 : Nat) (v1 : Int32) (v2 : Int32) (v3 : Int32) (w : tb_Hp) (o : Int32 × tb_Hp), fl_h_neighboursOf_4 n v0 v1 v2 v3 w = some o → ∀ (r : Option Value × tb_Hp), tb_Ev tb_P 2 120 (28, [(2, .int o.1)], [], o.2) r → tb_Ev tb_P 2 120 (5, [(0, .ref v0), (1, .int v1), (2, .int v2), (3, .int v3)], [], w) r := by
  intro n
  induction n with
  | zero =>
    intro v0 v1 v2 v3 w o h
    cases h
  | succ n ih =>
    intro v0 v1 v2 v3 w o h r hx
    unfold fl_h_neighboursOf_4 at h
    refine tb_Es (k := 2) (st' := (7, [(0, .ref v0), (1, .int v1), (2, .int v2), (3, .int v3)], [.ref v0, .int v3], w)) rfl ?_
    replace h := Option.bind_eq_some_iff.mp h
    obtain ⟨x1, ex1, h⟩ := h
    refine tb_e_gI rfl ex1 ?_
    refine tb_b_cge rfl (fun hc => ?_) (fun hc => ?_)
    · rw [if_pos hc] at h
      refine tb_Es (k := 2) (st' := (11, [(0, .ref v0), (1, .int v1), (2, .int v2), (3, .int v3)], [.int v3, .ref v0], w)) rfl ?_
      replace h := Option.bind_eq_some_iff.mp h
      obtain ⟨x2, ex2, h⟩ := h
      obtain ⟨hkx2, hcall⟩ := tb_on_some ex2
      refine tb_e_cv (v := some (.int x2.1)) rfl (Or.inl ⟨_, rfl⟩) rfl rfl (Nat.le_of_ble_eq_true rfl) rfl (Nat.le_of_ble_eq_true rfl) hkx2 ((dc_s_isUp hcall).up (by decide)) ?_
      refine tb_b_ieq rfl (fun hc => ?_) (fun hc => ?_)
      · rw [if_pos hc] at h
        refine tb_Es (k := 3) (st' := (5, [(0, .ref v0), (1, .int v1), (2, .int v2), (3, .int (v3 + 1))], [], x2.2)) rfl ?_
        exact ih v0 v1 v2 (v3 + 1) x2.2 _ h r hx
      · rw [if_neg hc] at h
        refine tb_Es (k := 2) (st' := (15, [(0, .ref v0), (1, .int v1), (2, .int v2), (3, .int v3)], [.int v3, .ref v0], x2.2)) rfl ?_
        replace h := Option.bind_eq_some_iff.mp h
        obtain ⟨x3, ex3, h⟩ := h
        obtain ⟨hkx3, hcall⟩ := tb_on_some ex3
        refine tb_e_cv (v := some (.int x3.1)) rfl (Or.inl ⟨_, rfl⟩) rfl rfl (Nat.le_of_ble_eq_true rfl) rfl (Nat.le_of_ble_eq_true rfl) hkx3 ((dc_s_endsOf hcall).up (by decide)) ?_
        refine tb_Es (k := 2) (st' := (18, [(0, .ref v0), (1, .int v1), (2, .int v2), (3, .int v3)], [.int (x3.1 &&& v1)], x3.2)) rfl ?_
        refine tb_b_ieq rfl (fun hc => ?_) (fun hc => ?_)
        · rw [if_pos hc] at h
          refine tb_Es (k := 3) (st' := (5, [(0, .ref v0), (1, .int v1), (2, .int v2), (3, .int (v3 + 1))], [], x3.2)) rfl ?_
          exact ih v0 v1 v2 (v3 + 1) x3.2 _ h r hx
        · rw [if_neg hc] at h
          refine tb_Es (k := 3) (st' := (22, [(0, .ref v0), (1, .int v1), (2, .int v2), (3, .int v3)], [.int v3, .ref v0, .int v2], x3.2)) rfl ?_
          replace h := Option.bind_eq_some_iff.mp h
          obtain ⟨x4, ex4, h⟩ := h
          obtain ⟨hkx4, hcall⟩ := tb_on_some ex4
          refine tb_e_cv (v := some (.int x4.1)) rfl (Or.inl ⟨_, rfl⟩) rfl rfl (Nat.le_of_ble_eq_true rfl) rfl (Nat.le_of_ble_eq_true rfl) hkx4 ((dc_s_endsOf hcall).up (by decide)) ?_
          refine tb_Es (k := 5) (st' := (5, [(0, .ref v0), (1, .int v1), (2, .int (v2 ||| x4.1)), (3, .int (v3 + 1))], [], x4.2)) rfl ?_
          exact ih v0 v1 (v2 ||| x4.1) (v3 + 1) x4.2 _ h r hx
    · rw [if_neg hc] at h
      refine tb_Es (k := 1) (st' := (28, [(2, .int v2)], [], w)) rfl ?_
      obtain rfl := Option.some.inj h
      exact hx
def fb_h_neighboursOf (a0 : Nat) (a1 : Int32) (w : tb_Hp) : Option (Int32 × tb_Hp) := (fl_h_neighboursOf_4 1048576 a0 a1 a1 0 w).bind fun o5 => some (o5.1, o5.2)
set_option maxHeartbeats 4000000 in
set_option maxRecDepth 20000 in
theorem dc_h_neighboursOf {a0 : Nat} {a1 : Int32} {w : tb_Hp} {o : Int32 × tb_Hp} (h : fb_h_neighboursOf a0 a1 w = some o) : tb_Ev tb_P 2 120 (0, tb_ent [.ref a0, .int a1], [], w) (some (.int o.1), o.2) := by
  unfold fb_h_neighboursOf at h
  obtain ⟨r, hr⟩ : ∃ r : Option Value × tb_Hp, r = (some (.int o.1), o.2) := ⟨_, rfl⟩
  rw [← hr]
  show tb_Ev tb_P 2 120 (0, [(0, .ref a0), (1, .int a1)], [], w) r
  refine tb_Es (k := 5) (st' := (5, [(0, .ref a0), (1, .int a1), (2, .int a1), (3, .int 0)], [], w)) rfl ?_
  replace h := Option.bind_eq_some_iff.mp h
  obtain ⟨o5, eo5, h⟩ := h
  refine dl_h_neighboursOf_4 _ a0 a1 a1 0 w _ eo5 r ?_
  refine tb_Es (k := 1) (st' := (29, [(2, .int o5.1)], [.int o5.1], o5.2)) rfl ?_
  obtain rfl := Option.some.inj h
  subst hr
  exact tb_Er rfl rfl
/-! TannerBunting$Notes.fit(LTannerBunting$Street;I)Z -/
def fj_n_fit_j31 (k : Nat → Nat → Int32 → Int32 → tb_Hp → Option (Int32 × tb_Hp)) (w : tb_Hp) : Option (Int32 × tb_Hp) := some ((0, w))
set_option maxHeartbeats 4000000 in
set_option maxRecDepth 20000 in
theorem dj_n_fit_j31 (k : Nat → Nat → Int32 → Int32 → tb_Hp → Option (Int32 × tb_Hp)) (w : tb_Hp) (o : Int32 × tb_Hp) (h : fj_n_fit_j31 k  w = some o) (r : Option Value × tb_Hp) (hx : r = (some (.int o.1), o.2)) (hk : ∀ (v0 : Nat) (v1 : Nat) (v2 : Int32) (v3 : Int32) (w : tb_Hp), k v0 v1 v2 v3 w = some o → tb_Ev tb_P 2 142 (3, [(0, .ref v0), (1, .ref v1), (2, .int v2), (3, .int v3)], [], w) r) : tb_Ev tb_P 2 142 (33, [], [], w) r := by
  unfold fj_n_fit_j31 at h
  refine tb_Es (k := 1) (st' := (34, [], [.int 0], w)) rfl ?_
  obtain rfl := Option.some.inj h
  replace hx : r = _ := hx
  subst hx
  exact tb_Er rfl rfl
def fj_n_fit_j35 (k : Nat → Nat → Int32 → Int32 → tb_Hp → Option (Int32 × tb_Hp)) (w : tb_Hp) : Option (Int32 × tb_Hp) := some ((1, w))
set_option maxHeartbeats 4000000 in
set_option maxRecDepth 20000 in
theorem dj_n_fit_j35 (k : Nat → Nat → Int32 → Int32 → tb_Hp → Option (Int32 × tb_Hp)) (w : tb_Hp) (o : Int32 × tb_Hp) (h : fj_n_fit_j35 k  w = some o) (r : Option Value × tb_Hp) (hx : r = (some (.int o.1), o.2)) (hk : ∀ (v0 : Nat) (v1 : Nat) (v2 : Int32) (v3 : Int32) (w : tb_Hp), k v0 v1 v2 v3 w = some o → tb_Ev tb_P 2 142 (3, [(0, .ref v0), (1, .ref v1), (2, .int v2), (3, .int v3)], [], w) r) : tb_Ev tb_P 2 142 (38, [], [], w) r := by
  unfold fj_n_fit_j35 at h
  refine tb_Es (k := 1) (st' := (39, [], [.int 1], w)) rfl ?_
  obtain rfl := Option.some.inj h
  replace hx : r = _ := hx
  subst hx
  exact tb_Er rfl rfl
def fl_n_fit_2 : Nat → Nat → Nat → Int32 → Int32 → tb_Hp → Option (Int32 × tb_Hp)
  | 0, _, _, _, _, _ => none
  | n + 1, v0, v1, v2, v3, w => (tb_gI 12 0 v0 w).bind fun x1 => (if v3 < x1 then (if v3 < 10 then (tb_gN 12 1 v0 w).bind fun p2 => (tb_lI [1, 9] p2 v3 w).bind fun x3 => (if x3 = v2 then (tb_gN 12 2 v0 w).bind fun p4 => (tb_lI [1, 9] p4 v3 w).bind fun x5 => (tb_on 17 v1 w (fb_s_stands v1 x5 w)).bind fun x6 => (tb_gN 12 3 v0 x6.2).bind fun p7 => (tb_lI [1, 9] p7 v3 x6.2).bind fun x8 => (if x8 = 1 then (if x6.1 = 1 then fl_n_fit_2 n v0 v1 v2 (v3 + 1) x6.2 else fj_n_fit_j31 (fl_n_fit_2 n)  x6.2) else (if x6.1 = 0 then fl_n_fit_2 n v0 v1 v2 (v3 + 1) x6.2 else fj_n_fit_j31 (fl_n_fit_2 n)  x6.2)) else fl_n_fit_2 n v0 v1 v2 (v3 + 1) w) else fj_n_fit_j35 (fl_n_fit_2 n)  w) else fj_n_fit_j35 (fl_n_fit_2 n)  w)
set_option maxHeartbeats 4000000 in
set_option maxRecDepth 20000 in
theorem dl_n_fit_2 : ∀ (n : Nat) (v0 : Nat) (v1 : Nat) (v2 : Int32) (v3 : Int32) (w : tb_Hp) (o : Int32 × tb_Hp), fl_n_fit_2 n v0 v1 v2 v3 w = some o → ∀ (r : Option Value × tb_Hp), r = (some (.int o.1), o.2) → tb_Ev tb_P 2 142 (3, [(0, .ref v0), (1, .ref v1), (2, .int v2), (3, .int v3)], [], w) r := by
  intro n
  induction n with
  | zero =>
    intro v0 v1 v2 v3 w o h
    cases h
  | succ n ih =>
    intro v0 v1 v2 v3 w o h r hx
    unfold fl_n_fit_2 at h
    refine tb_Es (k := 2) (st' := (5, [(0, .ref v0), (1, .ref v1), (2, .int v2), (3, .int v3)], [.ref v0, .int v3], w)) rfl ?_
    replace h := Option.bind_eq_some_iff.mp h
    obtain ⟨x1, ex1, h⟩ := h
    refine tb_e_gI rfl ex1 ?_
    refine tb_b_cge rfl (fun hc => ?_) (fun hc => ?_)
    · rw [if_pos hc] at h
      refine tb_Es (k := 2) (st' := (9, [(0, .ref v0), (1, .ref v1), (2, .int v2), (3, .int v3)], [.int 10, .int v3], w)) rfl ?_
      refine tb_b_cge rfl (fun hc => ?_) (fun hc => ?_)
      · rw [if_pos hc] at h
        refine tb_Es (k := 1) (st' := (11, [(0, .ref v0), (1, .ref v1), (2, .int v2), (3, .int v3)], [.ref v0], w)) rfl ?_
        replace h := Option.bind_eq_some_iff.mp h
        obtain ⟨p2, ep2, h⟩ := h
        refine tb_e_gN rfl ep2 ?_
        refine tb_Es (k := 1) (st' := (13, [(0, .ref v0), (1, .ref v1), (2, .int v2), (3, .int v3)], [.int v3, .ref p2], w)) rfl ?_
        replace h := Option.bind_eq_some_iff.mp h
        obtain ⟨x3, ex3, h⟩ := h
        refine tb_e_lI rfl (Or.inl ⟨rfl, rfl⟩) ex3 ?_
        refine tb_Es (k := 1) (st' := (15, [(0, .ref v0), (1, .ref v1), (2, .int v2), (3, .int v3)], [.int v2, .int x3], w)) rfl ?_
        refine tb_b_cne rfl (fun hc => ?_) (fun hc => ?_)
        · rw [if_pos hc] at h
          refine tb_Es (k := 2) (st' := (18, [(0, .ref v0), (1, .ref v1), (2, .int v2), (3, .int v3)], [.ref v0, .ref v1], w)) rfl ?_
          replace h := Option.bind_eq_some_iff.mp h
          obtain ⟨p4, ep4, h⟩ := h
          refine tb_e_gN rfl ep4 ?_
          refine tb_Es (k := 1) (st' := (20, [(0, .ref v0), (1, .ref v1), (2, .int v2), (3, .int v3)], [.int v3, .ref p4, .ref v1], w)) rfl ?_
          replace h := Option.bind_eq_some_iff.mp h
          obtain ⟨x5, ex5, h⟩ := h
          refine tb_e_lI rfl (Or.inl ⟨rfl, rfl⟩) ex5 ?_
          replace h := Option.bind_eq_some_iff.mp h
          obtain ⟨x6, ex6, h⟩ := h
          obtain ⟨hkx6, hcall⟩ := tb_on_some ex6
          refine tb_e_cv (v := some (.int x6.1)) rfl (Or.inl ⟨_, rfl⟩) rfl rfl (Nat.le_of_ble_eq_true rfl) rfl (Nat.le_of_ble_eq_true rfl) hkx6 ((dc_s_stands hcall).up (by decide)) ?_
          refine tb_Es (k := 1) (st' := (23, [(0, .ref v0), (1, .ref v1), (2, .int v2), (3, .int v3)], [.ref v0, .int x6.1], x6.2)) rfl ?_
          replace h := Option.bind_eq_some_iff.mp h
          obtain ⟨p7, ep7, h⟩ := h
          refine tb_e_gN rfl ep7 ?_
          refine tb_Es (k := 1) (st' := (25, [(0, .ref v0), (1, .ref v1), (2, .int v2), (3, .int v3)], [.int v3, .ref p7, .int x6.1], x6.2)) rfl ?_
          replace h := Option.bind_eq_some_iff.mp h
          obtain ⟨x8, ex8, h⟩ := h
          refine tb_e_lI rfl (Or.inl ⟨rfl, rfl⟩) ex8 ?_
          refine tb_Es (k := 1) (st' := (27, [(0, .ref v0), (1, .ref v1), (2, .int v2), (3, .int v3)], [.int 1, .int x8, .int x6.1], x6.2)) rfl ?_
          refine tb_b_cne rfl (fun hc => ?_) (fun hc => ?_)
          · rw [if_pos hc] at h
            refine tb_Es (k := 2) (st' := (31, [(0, .ref v0), (1, .ref v1), (2, .int v2), (3, .int v3)], [.int 1, .int x6.1], x6.2)) rfl ?_
            refine tb_b_ceq rfl (fun hc => ?_) (fun hc => ?_)
            · rw [if_pos hc] at h
              refine tb_Es (k := 3) (st' := (3, [(0, .ref v0), (1, .ref v1), (2, .int v2), (3, .int (v3 + 1))], [], x6.2)) rfl ?_
              exact ih v0 v1 v2 (v3 + 1) x6.2 _ h r hx
            · rw [if_neg hc] at h
              refine tb_Es (k := 1) (st' := (33, [], [], x6.2)) rfl ?_
              exact dj_n_fit_j31 (fl_n_fit_2 n)  x6.2 _ h r hx (fun v0_ v1_ v2_ v3_ w_ h_ => ih v0_ v1_ v2_ v3_ w_ _ h_ r hx)
          · rw [if_neg hc] at h
            refine tb_Es (k := 1) (st' := (31, [(0, .ref v0), (1, .ref v1), (2, .int v2), (3, .int v3)], [.int 0, .int x6.1], x6.2)) rfl ?_
            refine tb_b_ceq rfl (fun hc => ?_) (fun hc => ?_)
            · rw [if_pos hc] at h
              refine tb_Es (k := 3) (st' := (3, [(0, .ref v0), (1, .ref v1), (2, .int v2), (3, .int (v3 + 1))], [], x6.2)) rfl ?_
              exact ih v0 v1 v2 (v3 + 1) x6.2 _ h r hx
            · rw [if_neg hc] at h
              refine tb_Es (k := 1) (st' := (33, [], [], x6.2)) rfl ?_
              exact dj_n_fit_j31 (fl_n_fit_2 n)  x6.2 _ h r hx (fun v0_ v1_ v2_ v3_ w_ h_ => ih v0_ v1_ v2_ v3_ w_ _ h_ r hx)
        · rw [if_neg hc] at h
          refine tb_Es (k := 3) (st' := (3, [(0, .ref v0), (1, .ref v1), (2, .int v2), (3, .int (v3 + 1))], [], w)) rfl ?_
          exact ih v0 v1 v2 (v3 + 1) w _ h r hx
      · rw [if_neg hc] at h
        refine tb_Es (k := 1) (st' := (38, [], [], w)) rfl ?_
        exact dj_n_fit_j35 (fl_n_fit_2 n)  w _ h r hx (fun v0_ v1_ v2_ v3_ w_ h_ => ih v0_ v1_ v2_ v3_ w_ _ h_ r hx)
    · rw [if_neg hc] at h
      refine tb_Es (k := 1) (st' := (38, [], [], w)) rfl ?_
      exact dj_n_fit_j35 (fl_n_fit_2 n)  w _ h r hx (fun v0_ v1_ v2_ v3_ w_ h_ => ih v0_ v1_ v2_ v3_ w_ _ h_ r hx)
def fb_n_fit (a0 : Nat) (a1 : Nat) (a2 : Int32) (w : tb_Hp) : Option (Int32 × tb_Hp) := (fl_n_fit_2 1048576 a0 a1 a2 0 w).bind fun o9 => some o9
set_option maxHeartbeats 4000000 in
set_option maxRecDepth 20000 in
theorem dc_n_fit {a0 : Nat} {a1 : Nat} {a2 : Int32} {w : tb_Hp} {o : Int32 × tb_Hp} (h : fb_n_fit a0 a1 a2 w = some o) : tb_Ev tb_P 2 142 (0, tb_ent [.ref a0, .ref a1, .int a2], [], w) (some (.int o.1), o.2) := by
  unfold fb_n_fit at h
  obtain ⟨r, hr⟩ : ∃ r : Option Value × tb_Hp, r = (some (.int o.1), o.2) := ⟨_, rfl⟩
  rw [← hr]
  show tb_Ev tb_P 2 142 (0, [(0, .ref a0), (1, .ref a1), (2, .int a2)], [], w) r
  refine tb_Es (k := 3) (st' := (3, [(0, .ref a0), (1, .ref a1), (2, .int a2), (3, .int 0)], [], w)) rfl ?_
  replace h := Option.bind_eq_some_iff.mp h
  obtain ⟨o9, eo9, h⟩ := h
  refine dl_n_fit_2 _ a0 a1 a2 0 w _ eo9 r ?_
  obtain rfl := Option.some.inj h
  exact hr
/-! TannerBunting$Street.allLean()I -/
def fl_s_allLean_4 : Nat → Nat → Int32 → Int32 → tb_Hp → Option (Int32 × tb_Hp)
  | 0, _, _, _, _ => none
  | n + 1, v0, v1, v2, w => (tb_on 17 v0 w (fb_s_houses v0 w)).bind fun x1 => (if v2 < x1.1 then (tb_on 17 v0 x1.2 (fb_s_stands v0 v2 x1.2)).bind fun x2 => (if x2.1 = 0 then fl_s_allLean_4 n v0 v1 (v2 + 1) x2.2 else (tb_gN 17 6 v0 x2.2).bind fun p3 => (tb_lI [1, 9] p3 v2 x2.2).bind fun x4 => fl_s_allLean_4 n v0 (v1 + x4) (v2 + 1) x2.2) else some ((v1, x1.2)))
set_option maxHeartbeats 4000000 in
set_option maxRecDepth 20000 in
theorem dl_s_allLean_4 : ∀ (n : Nat) (v0 : Nat) (v1 : Int32) (v2 : Int32) (w : tb_Hp) (o : Int32 × tb_Hp), fl_s_allLean_4 n v0 v1 v2 w = some o → ∀ (r : Option Value × tb_Hp), tb_Ev tb_P 2 151 (23, [(1, .int o.1)], [], o.2) r → tb_Ev tb_P 2 151 (5, [(0, .ref v0), (1, .int v1), (2, .int v2)], [], w) r := by
  intro n
  induction n with
  | zero =>
    intro v0 v1 v2 w o h
    cases h
  | succ n ih =>
    intro v0 v1 v2 w o h r hx
    unfold fl_s_allLean_4 at h
    refine tb_Es (k := 2) (st' := (7, [(0, .ref v0), (1, .int v1), (2, .int v2)], [.ref v0, .int v2], w)) rfl ?_
    replace h := Option.bind_eq_some_iff.mp h
    obtain ⟨x1, ex1, h⟩ := h
    obtain ⟨hkx1, hcall⟩ := tb_on_some ex1
    refine tb_e_cv (v := some (.int x1.1)) rfl (Or.inl ⟨_, rfl⟩) rfl rfl (Nat.le_of_ble_eq_true rfl) rfl (Nat.le_of_ble_eq_true rfl) hkx1 ((dc_s_houses hcall).up (by decide)) ?_
    refine tb_b_cge rfl (fun hc => ?_) (fun hc => ?_)
    · rw [if_pos hc] at h
      refine tb_Es (k := 2) (st' := (11, [(0, .ref v0), (1, .int v1), (2, .int v2)], [.int v2, .ref v0], x1.2)) rfl ?_
      replace h := Option.bind_eq_some_iff.mp h
      obtain ⟨x2, ex2, h⟩ := h
      obtain ⟨hkx2, hcall⟩ := tb_on_some ex2
      refine tb_e_cv (v := some (.int x2.1)) rfl (Or.inl ⟨_, rfl⟩) rfl rfl (Nat.le_of_ble_eq_true rfl) rfl (Nat.le_of_ble_eq_true rfl) hkx2 ((dc_s_stands hcall).up (by decide)) ?_
      refine tb_b_ieq rfl (fun hc => ?_) (fun hc => ?_)
      · rw [if_pos hc] at h
        refine tb_Es (k := 3) (st' := (5, [(0, .ref v0), (1, .int v1), (2, .int (v2 + 1))], [], x2.2)) rfl ?_
        exact ih v0 v1 (v2 + 1) x2.2 _ h r hx
      · rw [if_neg hc] at h
        refine tb_Es (k := 2) (st' := (15, [(0, .ref v0), (1, .int v1), (2, .int v2)], [.ref v0, .int v1], x2.2)) rfl ?_
        replace h := Option.bind_eq_some_iff.mp h
        obtain ⟨p3, ep3, h⟩ := h
        refine tb_e_gN rfl ep3 ?_
        refine tb_Es (k := 1) (st' := (17, [(0, .ref v0), (1, .int v1), (2, .int v2)], [.int v2, .ref p3, .int v1], x2.2)) rfl ?_
        replace h := Option.bind_eq_some_iff.mp h
        obtain ⟨x4, ex4, h⟩ := h
        refine tb_e_lI rfl (Or.inl ⟨rfl, rfl⟩) ex4 ?_
        refine tb_Es (k := 5) (st' := (5, [(0, .ref v0), (1, .int (v1 + x4)), (2, .int (v2 + 1))], [], x2.2)) rfl ?_
        exact ih v0 (v1 + x4) (v2 + 1) x2.2 _ h r hx
    · rw [if_neg hc] at h
      refine tb_Es (k := 1) (st' := (23, [(1, .int v1)], [], x1.2)) rfl ?_
      obtain rfl := Option.some.inj h
      exact hx
def fb_s_allLean (a0 : Nat) (w : tb_Hp) : Option (Int32 × tb_Hp) := (fl_s_allLean_4 1048576 a0 0 0 w).bind fun o5 => some (o5.1, o5.2)
set_option maxHeartbeats 4000000 in
set_option maxRecDepth 20000 in
theorem dc_s_allLean {a0 : Nat} {w : tb_Hp} {o : Int32 × tb_Hp} (h : fb_s_allLean a0 w = some o) : tb_Ev tb_P 2 151 (0, tb_ent [.ref a0], [], w) (some (.int o.1), o.2) := by
  unfold fb_s_allLean at h
  obtain ⟨r, hr⟩ : ∃ r : Option Value × tb_Hp, r = (some (.int o.1), o.2) := ⟨_, rfl⟩
  rw [← hr]
  show tb_Ev tb_P 2 151 (0, [(0, .ref a0)], [], w) r
  refine tb_Es (k := 5) (st' := (5, [(0, .ref a0), (1, .int 0), (2, .int 0)], [], w)) rfl ?_
  replace h := Option.bind_eq_some_iff.mp h
  obtain ⟨o5, eo5, h⟩ := h
  refine dl_s_allLean_4 _ a0 0 0 w _ eo5 r ?_
  refine tb_Es (k := 1) (st' := (24, [(1, .int o5.1)], [.int o5.1], o5.2)) rfl ?_
  obtain rfl := Option.some.inj h
  subst hr
  exact tb_Er rfl rfl
/-! TannerBunting$Story.countStanding()V -/
def fl_so_countStanding_2 : Nat → Nat → Int32 → tb_Hp → Option (tb_Hp)
  | 0, _, _, _ => none
  | n + 1, v0, v1, w => (tb_gN 16 4 v0 w).bind fun p1 => (tb_al p1 w).bind fun x2 => (if v1 < x2 then (tb_gN 16 3 v0 w).bind fun p3 => (tb_on 17 p3 w (fb_s_stands p3 v1 w)).bind fun x4 => (if x4.1 = 0 then fl_so_countStanding_2 n v0 (v1 + 1) x4.2 else (tb_gN 16 4 v0 x4.2).bind fun p5 => (tb_lI [1, 9] p5 v1 x4.2).bind fun x6 => (tb_tI p5 v1 (x6 + 1) x4.2).bind fun w7 => fl_so_countStanding_2 n v0 (v1 + 1) w7) else some (w))
set_option maxHeartbeats 4000000 in
set_option maxRecDepth 20000 in
theorem dl_so_countStanding_2 : ∀ (n : Nat) (v0 : Nat) (v1 : Int32) (w : tb_Hp) (o : tb_Hp), fl_so_countStanding_2 n v0 v1 w = some o → ∀ (r : Option Value × tb_Hp), tb_Ev tb_P 2 156 (24, [], [], o) r → tb_Ev tb_P 2 156 (3, [(0, .ref v0), (1, .int v1)], [], w) r := by
  intro n
  induction n with
  | zero =>
    intro v0 v1 w o h
    cases h
  | succ n ih =>
    intro v0 v1 w o h r hx
    unfold fl_so_countStanding_2 at h
    refine tb_Es (k := 2) (st' := (5, [(0, .ref v0), (1, .int v1)], [.ref v0, .int v1], w)) rfl ?_
    replace h := Option.bind_eq_some_iff.mp h
    obtain ⟨p1, ep1, h⟩ := h
    refine tb_e_gN rfl ep1 ?_
    replace h := Option.bind_eq_some_iff.mp h
    obtain ⟨x2, ex2, h⟩ := h
    refine tb_e_al rfl ex2 ?_
    refine tb_b_cge rfl (fun hc => ?_) (fun hc => ?_)
    · rw [if_pos hc] at h
      refine tb_Es (k := 1) (st' := (9, [(0, .ref v0), (1, .int v1)], [.ref v0], w)) rfl ?_
      replace h := Option.bind_eq_some_iff.mp h
      obtain ⟨p3, ep3, h⟩ := h
      refine tb_e_gN rfl ep3 ?_
      refine tb_Es (k := 1) (st' := (11, [(0, .ref v0), (1, .int v1)], [.int v1, .ref p3], w)) rfl ?_
      replace h := Option.bind_eq_some_iff.mp h
      obtain ⟨x4, ex4, h⟩ := h
      obtain ⟨hkx4, hcall⟩ := tb_on_some ex4
      refine tb_e_cv (v := some (.int x4.1)) rfl (Or.inl ⟨_, rfl⟩) rfl rfl (Nat.le_of_ble_eq_true rfl) rfl (Nat.le_of_ble_eq_true rfl) hkx4 ((dc_s_stands hcall).up (by decide)) ?_
      refine tb_b_ieq rfl (fun hc => ?_) (fun hc => ?_)
      · rw [if_pos hc] at h
        refine tb_Es (k := 3) (st' := (3, [(0, .ref v0), (1, .int (v1 + 1))], [], x4.2)) rfl ?_
        exact ih v0 (v1 + 1) x4.2 _ h r hx
      · rw [if_neg hc] at h
        refine tb_Es (k := 1) (st' := (14, [(0, .ref v0), (1, .int v1)], [.ref v0], x4.2)) rfl ?_
        replace h := Option.bind_eq_some_iff.mp h
        obtain ⟨p5, ep5, h⟩ := h
        refine tb_e_gN rfl ep5 ?_
        refine tb_Es (k := 2) (st' := (17, [(0, .ref v0), (1, .int v1)], [.int v1, .ref p5, .int v1, .ref p5], x4.2)) rfl ?_
        replace h := Option.bind_eq_some_iff.mp h
        obtain ⟨x6, ex6, h⟩ := h
        refine tb_e_lI rfl (Or.inl ⟨rfl, rfl⟩) ex6 ?_
        refine tb_Es (k := 2) (st' := (20, [(0, .ref v0), (1, .int v1)], [.int (x6 + 1), .int v1, .ref p5], x4.2)) rfl ?_
        replace h := Option.bind_eq_some_iff.mp h
        obtain ⟨w7, ew7, h⟩ := h
        refine tb_e_tI rfl ew7 ?_
        refine tb_Es (k := 3) (st' := (3, [(0, .ref v0), (1, .int (v1 + 1))], [], w7)) rfl ?_
        exact ih v0 (v1 + 1) w7 _ h r hx
    · rw [if_neg hc] at h
      refine tb_Es (k := 1) (st' := (24, [], [], w)) rfl ?_
      obtain rfl := Option.some.inj h
      exact hx
def fb_so_countStanding (a0 : Nat) (w : tb_Hp) : Option (tb_Hp) := (fl_so_countStanding_2 1048576 a0 0 w).bind fun o8 => some o8
set_option maxHeartbeats 4000000 in
set_option maxRecDepth 20000 in
theorem dc_so_countStanding {a0 : Nat} {w : tb_Hp} {o : tb_Hp} (h : fb_so_countStanding a0 w = some o) : tb_Ev tb_P 2 156 (0, tb_ent [.ref a0], [], w) (none, o) := by
  unfold fb_so_countStanding at h
  obtain ⟨r, hr⟩ : ∃ r : Option Value × tb_Hp, r = (none, o) := ⟨_, rfl⟩
  rw [← hr]
  show tb_Ev tb_P 2 156 (0, [(0, .ref a0)], [], w) r
  refine tb_Es (k := 3) (st' := (3, [(0, .ref a0), (1, .int 0)], [], w)) rfl ?_
  replace h := Option.bind_eq_some_iff.mp h
  obtain ⟨o8, eo8, h⟩ := h
  refine dl_so_countStanding_2 _ a0 0 w _ eo8 r ?_
  obtain rfl := Option.some.inj h
  subst hr
  exact tb_Er rfl rfl
/-! TannerBunting$Story.bestParting(I)I -/
def fl_so_bestParting_4 : Nat → Nat → Int32 → Int32 → Int32 → tb_Hp → Option (Int32 × tb_Hp)
  | 0, _, _, _, _, _ => none
  | n + 1, v0, v1, v2, v3, w => (if v3 < v1 then (tb_on 16 v0 w (fb_so_mostAlike v0 v3 w)).bind fun x1 => (tb_on 16 v0 x1.2 (fb_so_mostAlike v0 v2 x1.2)).bind fun x2 => (if x1.1 < x2.1 then fl_so_bestParting_4 n v0 v1 v3 (v3 + 1) x2.2 else fl_so_bestParting_4 n v0 v1 v2 (v3 + 1) x2.2) else some ((v2, w)))
set_option maxHeartbeats 4000000 in
set_option maxRecDepth 20000 in
theorem dl_so_bestParting_4 : ∀ (n : Nat) (v0 : Nat) (v1 : Int32) (v2 : Int32) (v3 : Int32) (w : tb_Hp) (o : Int32 × tb_Hp), fl_so_bestParting_4 n v0 v1 v2 v3 w = some o → ∀ (r : Option Value × tb_Hp), tb_Ev tb_P 2 158 (20, [(2, .int o.1)], [], o.2) r → tb_Ev tb_P 2 158 (5, [(0, .ref v0), (1, .int v1), (2, .int v2), (3, .int v3)], [], w) r := by
  intro n
  induction n with
  | zero =>
    intro v0 v1 v2 v3 w o h
    cases h
  | succ n ih =>
    intro v0 v1 v2 v3 w o h r hx
    unfold fl_so_bestParting_4 at h
    refine tb_Es (k := 2) (st' := (7, [(0, .ref v0), (1, .int v1), (2, .int v2), (3, .int v3)], [.int v1, .int v3], w)) rfl ?_
    refine tb_b_cge rfl (fun hc => ?_) (fun hc => ?_)
    · rw [if_pos hc] at h
      refine tb_Es (k := 2) (st' := (10, [(0, .ref v0), (1, .int v1), (2, .int v2), (3, .int v3)], [.int v3, .ref v0], w)) rfl ?_
      replace h := Option.bind_eq_some_iff.mp h
      obtain ⟨x1, ex1, h⟩ := h
      obtain ⟨hkx1, hcall⟩ := tb_on_some ex1
      refine tb_e_cv (v := some (.int x1.1)) rfl (Or.inl ⟨_, rfl⟩) rfl rfl (Nat.le_of_ble_eq_true rfl) rfl (Nat.le_of_ble_eq_true rfl) hkx1 ((dc_so_mostAlike hcall).up (by decide)) ?_
      refine tb_Es (k := 2) (st' := (13, [(0, .ref v0), (1, .int v1), (2, .int v2), (3, .int v3)], [.int v2, .ref v0, .int x1.1], x1.2)) rfl ?_
      replace h := Option.bind_eq_some_iff.mp h
      obtain ⟨x2, ex2, h⟩ := h
      obtain ⟨hkx2, hcall⟩ := tb_on_some ex2
      refine tb_e_cv (v := some (.int x2.1)) rfl (Or.inl ⟨_, rfl⟩) rfl rfl (Nat.le_of_ble_eq_true rfl) rfl (Nat.le_of_ble_eq_true rfl) hkx2 ((dc_so_mostAlike hcall).up (by decide)) ?_
      refine tb_b_cge rfl (fun hc => ?_) (fun hc => ?_)
      · rw [if_pos hc] at h
        refine tb_Es (k := 5) (st' := (5, [(0, .ref v0), (1, .int v1), (2, .int v3), (3, .int (v3 + 1))], [], x2.2)) rfl ?_
        exact ih v0 v1 v3 (v3 + 1) x2.2 _ h r hx
      · rw [if_neg hc] at h
        refine tb_Es (k := 3) (st' := (5, [(0, .ref v0), (1, .int v1), (2, .int v2), (3, .int (v3 + 1))], [], x2.2)) rfl ?_
        exact ih v0 v1 v2 (v3 + 1) x2.2 _ h r hx
    · rw [if_neg hc] at h
      refine tb_Es (k := 1) (st' := (20, [(2, .int v2)], [], w)) rfl ?_
      obtain rfl := Option.some.inj h
      exact hx
def fb_so_bestParting (a0 : Nat) (a1 : Int32) (w : tb_Hp) : Option (Int32 × tb_Hp) := (fl_so_bestParting_4 1048576 a0 a1 0 1 w).bind fun o3 => some (o3.1, o3.2)
set_option maxHeartbeats 4000000 in
set_option maxRecDepth 20000 in
theorem dc_so_bestParting {a0 : Nat} {a1 : Int32} {w : tb_Hp} {o : Int32 × tb_Hp} (h : fb_so_bestParting a0 a1 w = some o) : tb_Ev tb_P 2 158 (0, tb_ent [.ref a0, .int a1], [], w) (some (.int o.1), o.2) := by
  unfold fb_so_bestParting at h
  obtain ⟨r, hr⟩ : ∃ r : Option Value × tb_Hp, r = (some (.int o.1), o.2) := ⟨_, rfl⟩
  rw [← hr]
  show tb_Ev tb_P 2 158 (0, [(0, .ref a0), (1, .int a1)], [], w) r
  refine tb_Es (k := 5) (st' := (5, [(0, .ref a0), (1, .int a1), (2, .int 0), (3, .int 1)], [], w)) rfl ?_
  replace h := Option.bind_eq_some_iff.mp h
  obtain ⟨o3, eo3, h⟩ := h
  refine dl_so_bestParting_4 _ a0 a1 0 1 w _ eo3 r ?_
  refine tb_Es (k := 1) (st' := (21, [(2, .int o3.1)], [.int o3.1], o3.2)) rfl ?_
  obtain rfl := Option.some.inj h
  subst hr
  exact tb_Er rfl rfl
/-! TannerBunting$Years.snowOnce(I)V -/
def fb_yr_snowOnce (a0 : Nat) (a1 : Int32) (w : tb_Hp) : Option (tb_Hp) := (tb_on 20 a0 w (fb_yr_draw a0 w)).bind fun x1 => (if (x1.1 - x1.1 / 100 * 100) < a1 then (tb_gN 20 0 a0 x1.2).bind fun p2 => (tb_on 17 p2 x1.2 (fb_s_houses p2 x1.2)).bind fun x3 => (if 0 < x3.1 then (tb_on 20 a0 x3.2 (fb_yr_draw a0 x3.2)).bind fun x4 => (tb_gN 20 0 a0 x4.2).bind fun p5 => (tb_on 17 p5 x4.2 (fb_s_houses p5 x4.2)).bind fun x6 => if x6.1 = 0 then none else (tb_gN 20 0 a0 x6.2).bind fun p7 => (tb_gN 20 0 a0 x6.2).bind fun p8 => (tb_on 17 p8 x6.2 (fb_s_leanOf p8 (x4.1 - x4.1 / x6.1 * x6.1) x6.2)).bind fun x9 => (tb_on 17 p7 x9.2 (fb_s_setLean p7 (x4.1 - x4.1 / x6.1 * x6.1) (x9.1 + 1) x9.2)).bind fun x10 => some x10 else some x3.2) else some x1.2)
set_option maxHeartbeats 4000000 in
set_option maxRecDepth 20000 in
theorem dc_yr_snowOnce {a0 : Nat} {a1 : Int32} {w : tb_Hp} {o : tb_Hp} (h : fb_yr_snowOnce a0 a1 w = some o) : tb_Ev tb_P 2 163 (0, tb_ent [.ref a0, .int a1], [], w) (none, o) := by
  unfold fb_yr_snowOnce at h
  obtain ⟨r, hr⟩ : ∃ r : Option Value × tb_Hp, r = (none, o) := ⟨_, rfl⟩
  rw [← hr]
  show tb_Ev tb_P 2 163 (0, [(0, .ref a0), (1, .int a1)], [], w) r
  refine tb_Es (k := 1) (st' := (1, [(0, .ref a0), (1, .int a1)], [.ref a0], w)) rfl ?_
  replace h := Option.bind_eq_some_iff.mp h
  obtain ⟨x1, ex1, h⟩ := h
  obtain ⟨hkx1, hcall⟩ := tb_on_some ex1
  refine tb_e_cv (v := some (.int x1.1)) rfl (Or.inl ⟨_, rfl⟩) rfl rfl (Nat.le_of_ble_eq_true rfl) rfl (Nat.le_of_ble_eq_true rfl) hkx1 ((dc_yr_draw hcall).up (by decide)) ?_
  refine tb_Es (k := 1) (st' := (3, [(0, .ref a0), (1, .int a1)], [.int 100, .int x1.1], x1.2)) rfl ?_
  refine tb_e_irem rfl (by decide) ?_
  refine tb_Es (k := 1) (st' := (5, [(0, .ref a0), (1, .int a1)], [.int a1, .int (x1.1 - x1.1 / 100 * 100)], x1.2)) rfl ?_
  refine tb_b_cge rfl (fun hc => ?_) (fun hc => ?_)
  · rw [if_pos hc] at h
    refine tb_Es (k := 1) (st' := (7, [(0, .ref a0), (1, .int a1)], [.ref a0], x1.2)) rfl ?_
    replace h := Option.bind_eq_some_iff.mp h
    obtain ⟨p2, ep2, h⟩ := h
    refine tb_e_gN rfl ep2 ?_
    replace h := Option.bind_eq_some_iff.mp h
    obtain ⟨x3, ex3, h⟩ := h
    obtain ⟨hkx3, hcall⟩ := tb_on_some ex3
    refine tb_e_cv (v := some (.int x3.1)) rfl (Or.inl ⟨_, rfl⟩) rfl rfl (Nat.le_of_ble_eq_true rfl) rfl (Nat.le_of_ble_eq_true rfl) hkx3 ((dc_s_houses hcall).up (by decide)) ?_
    refine tb_b_ile rfl (fun hc => ?_) (fun hc => ?_)
    · rw [if_pos hc] at h
      refine tb_Es (k := 1) (st' := (11, [(0, .ref a0), (1, .int a1)], [.ref a0], x3.2)) rfl ?_
      replace h := Option.bind_eq_some_iff.mp h
      obtain ⟨x4, ex4, h⟩ := h
      obtain ⟨hkx4, hcall⟩ := tb_on_some ex4
      refine tb_e_cv (v := some (.int x4.1)) rfl (Or.inl ⟨_, rfl⟩) rfl rfl (Nat.le_of_ble_eq_true rfl) rfl (Nat.le_of_ble_eq_true rfl) hkx4 ((dc_yr_draw hcall).up (by decide)) ?_
      refine tb_Es (k := 1) (st' := (13, [(0, .ref a0), (1, .int a1)], [.ref a0, .int x4.1], x4.2)) rfl ?_
      replace h := Option.bind_eq_some_iff.mp h
      obtain ⟨p5, ep5, h⟩ := h
      refine tb_e_gN rfl ep5 ?_
      replace h := Option.bind_eq_some_iff.mp h
      obtain ⟨x6, ex6, h⟩ := h
      obtain ⟨hkx6, hcall⟩ := tb_on_some ex6
      refine tb_e_cv (v := some (.int x6.1)) rfl (Or.inl ⟨_, rfl⟩) rfl rfl (Nat.le_of_ble_eq_true rfl) rfl (Nat.le_of_ble_eq_true rfl) hkx6 ((dc_s_houses hcall).up (by decide)) ?_
      by_cases hz : x6.1 = 0
      · rw [if_pos hz] at h
        cases h
      rw [if_neg hz] at h
      refine tb_e_irem rfl hz ?_
      refine tb_Es (k := 2) (st' := (18, [(2, .int (x4.1 - x4.1 / x6.1 * x6.1)), (0, .ref a0), (1, .int a1)], [.ref a0], x6.2)) rfl ?_
      replace h := Option.bind_eq_some_iff.mp h
      obtain ⟨p7, ep7, h⟩ := h
      refine tb_e_gN rfl ep7 ?_
      refine tb_Es (k := 2) (st' := (21, [(2, .int (x4.1 - x4.1 / x6.1 * x6.1)), (0, .ref a0), (1, .int a1)], [.ref a0, .int (x4.1 - x4.1 / x6.1 * x6.1), .ref p7], x6.2)) rfl ?_
      replace h := Option.bind_eq_some_iff.mp h
      obtain ⟨p8, ep8, h⟩ := h
      refine tb_e_gN rfl ep8 ?_
      refine tb_Es (k := 1) (st' := (23, [(2, .int (x4.1 - x4.1 / x6.1 * x6.1)), (0, .ref a0), (1, .int a1)], [.int (x4.1 - x4.1 / x6.1 * x6.1), .ref p8, .int (x4.1 - x4.1 / x6.1 * x6.1), .ref p7], x6.2)) rfl ?_
      replace h := Option.bind_eq_some_iff.mp h
      obtain ⟨x9, ex9, h⟩ := h
      obtain ⟨hkx9, hcall⟩ := tb_on_some ex9
      refine tb_e_cv (v := some (.int x9.1)) rfl (Or.inl ⟨_, rfl⟩) rfl rfl (Nat.le_of_ble_eq_true rfl) rfl (Nat.le_of_ble_eq_true rfl) hkx9 ((dc_s_leanOf hcall).up (by decide)) ?_
      refine tb_Es (k := 2) (st' := (26, [(2, .int (x4.1 - x4.1 / x6.1 * x6.1)), (0, .ref a0), (1, .int a1)], [.int (x9.1 + 1), .int (x4.1 - x4.1 / x6.1 * x6.1), .ref p7], x9.2)) rfl ?_
      replace h := Option.bind_eq_some_iff.mp h
      obtain ⟨x10, ex10, h⟩ := h
      obtain ⟨hkx10, hcall⟩ := tb_on_some ex10
      refine tb_e_cv (v := none) rfl (Or.inl ⟨_, rfl⟩) rfl rfl (Nat.le_of_ble_eq_true rfl) rfl (Nat.le_of_ble_eq_true rfl) hkx10 ((dc_s_setLean hcall).up (by decide)) ?_
      obtain rfl := Option.some.inj h
      subst hr
      exact tb_Er rfl rfl
    · rw [if_neg hc] at h
      obtain rfl := Option.some.inj h
      subst hr
      exact tb_Er rfl rfl
  · rw [if_neg hc] at h
    obtain rfl := Option.some.inj h
    subst hr
    exact tb_Er rfl rfl
/-! TannerBunting.image(I)I -/
def fj_x_image_j25 (v0 : Nat) (v2 : Nat) (w : tb_Hp) : Option (Int32 × tb_Hp) := (tb_gN 21 5 v0 w).bind fun p10 => (tb_on 15 v2 w (fb_sc_copyFrom v2 p10 w)).bind fun x11 => (tb_gN 21 5 v0 x11).bind fun p12 => (tb_gN 15 0 p12 x11).bind fun p13 => (tb_gI 17 2 p13 x11).bind fun x14 => some (x14, x11)
set_option maxHeartbeats 4000000 in
set_option maxRecDepth 20000 in
theorem dj_x_image_j25 (v0 : Nat) (v2 : Nat) (w : tb_Hp) (o : Int32 × tb_Hp) (h : fj_x_image_j25 v0 v2 w = some o) (r : Option Value × tb_Hp) (hr : r = (some (.int o.1), o.2)) : tb_Ev tb_P 2 166 (26, [(0, .ref v0), (2, .ref v2)], [], w) r := by
  unfold fj_x_image_j25 at h
  refine tb_Es (k := 2) (st' := (28, [(0, .ref v0), (2, .ref v2)], [.ref v0, .ref v2], w)) rfl ?_
  replace h := Option.bind_eq_some_iff.mp h
  obtain ⟨p10, ep10, h⟩ := h
  refine tb_e_gN rfl ep10 ?_
  replace h := Option.bind_eq_some_iff.mp h
  obtain ⟨x11, ex11, h⟩ := h
  obtain ⟨hkx11, hcall⟩ := tb_on_some ex11
  refine tb_e_cv (v := none) rfl (Or.inl ⟨_, rfl⟩) rfl rfl (Nat.le_of_ble_eq_true rfl) rfl (Nat.le_of_ble_eq_true rfl) hkx11 ((dc_sc_copyFrom hcall).up (by decide)) ?_
  refine tb_Es (k := 1) (st' := (31, [(0, .ref v0), (2, .ref v2)], [.ref v0], x11)) rfl ?_
  replace h := Option.bind_eq_some_iff.mp h
  obtain ⟨p12, ep12, h⟩ := h
  refine tb_e_gN rfl ep12 ?_
  replace h := Option.bind_eq_some_iff.mp h
  obtain ⟨p13, ep13, h⟩ := h
  refine tb_e_gN rfl ep13 ?_
  replace h := Option.bind_eq_some_iff.mp h
  obtain ⟨x14, ex14, h⟩ := h
  refine tb_e_gI rfl ex14 ?_
  obtain rfl := Option.some.inj h
  subst hr
  exact tb_Er rfl rfl
def fb_x_image (a0 : Nat) (a1 : Int32) (w : tb_Hp) : Option (Int32 × tb_Hp) := (if a1 < 0 then some (-1, w) else (tb_gN 21 6 a0 w).bind fun p1 => (tb_al p1 w).bind fun x2 => (if a1 < x2 then (tb_gN 21 6 a0 w).bind fun p3 => (tb_lQ p3 a1 w).bind fun x4 => (match x4 with | none => (tb_on 15 w.1.length (tb_new w 15 5) (fb_sc_init w.1.length (tb_new w 15 5))).bind fun x7 => (tb_gN 21 6 a0 x7).bind fun p8 => (tb_tR tb_P.2.2.1 p8 a1 w.1.length x7).bind fun w9 => fj_x_image_j25 a0 w.1.length w9 | some q5 => fj_x_image_j25 a0 q5 w) else some (-1, w)))
set_option maxHeartbeats 4000000 in
set_option maxRecDepth 20000 in
theorem dc_x_image {a0 : Nat} {a1 : Int32} {w : tb_Hp} {o : Int32 × tb_Hp} (h : fb_x_image a0 a1 w = some o) : tb_Ev tb_P 2 166 (0, tb_ent [.ref a0, .int a1], [], w) (some (.int o.1), o.2) := by
  unfold fb_x_image at h
  obtain ⟨r, hr⟩ : ∃ r : Option Value × tb_Hp, r = (some (.int o.1), o.2) := ⟨_, rfl⟩
  rw [← hr]
  show tb_Ev tb_P 2 166 (0, [(0, .ref a0), (1, .int a1)], [], w) r
  refine tb_Es (k := 1) (st' := (1, [(0, .ref a0), (1, .int a1)], [.int a1], w)) rfl ?_
  refine tb_b_ilt rfl (fun hc => ?_) (fun hc => ?_)
  · rw [if_pos hc] at h
    refine tb_Es (k := 1) (st' := (8, [(0, .ref a0), (1, .int a1)], [.int (-1)], w)) rfl ?_
    obtain rfl := Option.some.inj h
    subst hr
    exact tb_Er rfl rfl
  · rw [if_neg hc] at h
    refine tb_Es (k := 2) (st' := (4, [(0, .ref a0), (1, .int a1)], [.ref a0, .int a1], w)) rfl ?_
    replace h := Option.bind_eq_some_iff.mp h
    obtain ⟨p1, ep1, h⟩ := h
    refine tb_e_gN rfl ep1 ?_
    replace h := Option.bind_eq_some_iff.mp h
    obtain ⟨x2, ex2, h⟩ := h
    refine tb_e_al rfl ex2 ?_
    refine tb_b_clt rfl (fun hc => ?_) (fun hc => ?_)
    · rw [if_pos hc] at h
      refine tb_Es (k := 1) (st' := (10, [(0, .ref a0), (1, .int a1)], [.ref a0], w)) rfl ?_
      replace h := Option.bind_eq_some_iff.mp h
      obtain ⟨p3, ep3, h⟩ := h
      refine tb_e_gN rfl ep3 ?_
      refine tb_Es (k := 1) (st' := (12, [(0, .ref a0), (1, .int a1)], [.int a1, .ref p3], w)) rfl ?_
      replace h := Option.bind_eq_some_iff.mp h
      obtain ⟨x4, ex4, h⟩ := h
      refine tb_e_lQ rfl ex4 ?_
      refine tb_q_astore (k := 2) (L' := [(2, va_rf x4), (0, .ref a0), (1, .int a1)]) rfl (Or.inr ⟨_, rfl, rfl⟩) (by decide) (by simp [tb_s1, tb_catq, tb_cR, tb_cI, tb_cJ]) ?_
      refine tb_q_aload (k := 2) rfl (Or.inr ⟨_, rfl, rfl⟩) rfl ?_
      refine tb_b_nonnull rfl (fun hc => ?_) (fun q5 hc => ?_)
      · subst hc
        dsimp only at h
        refine tb_Es (k := 2) (st' := (18, [(2, .null), (0, .ref a0), (1, .int a1)], [.ref w.1.length, .ref w.1.length], (tb_new w 15 5))) rfl ?_
        replace h := Option.bind_eq_some_iff.mp h
        obtain ⟨x7, ex7, h⟩ := h
        obtain ⟨hkx7, hcall⟩ := tb_on_some ex7
        refine tb_e_cv (v := none) rfl (Or.inr ⟨_, rfl⟩) rfl rfl (Nat.le_of_ble_eq_true rfl) rfl (Nat.le_of_ble_eq_true rfl) hkx7 ((dc_sc_init hcall).up (by decide)) ?_
        refine tb_Es (k := 2) (st' := (21, [(2, .ref w.1.length), (0, .ref a0), (1, .int a1)], [.ref a0], x7)) rfl ?_
        replace h := Option.bind_eq_some_iff.mp h
        obtain ⟨p8, ep8, h⟩ := h
        refine tb_e_gN rfl ep8 ?_
        refine tb_Es (k := 2) (st' := (24, [(2, .ref w.1.length), (0, .ref a0), (1, .int a1)], [.ref w.1.length, .int a1, .ref p8], x7)) rfl ?_
        replace h := Option.bind_eq_some_iff.mp h
        obtain ⟨w9, ew9, h⟩ := h
        refine tb_e_tR rfl ew9 ?_
        refine tb_Es (k := 1) (st' := (26, [(0, .ref a0), (2, .ref w.1.length)], [], w9)) rfl ?_
        exact dj_x_image_j25 a0 w.1.length w9 _ h r hr
      · subst hc
        dsimp only at h
        refine tb_Es (k := 1) (st' := (26, [(0, .ref a0), (2, .ref q5)], [], w)) rfl ?_
        exact dj_x_image_j25 a0 q5 w _ h r hr
    · rw [if_neg hc] at h
      refine tb_Es (k := 1) (st' := (8, [(0, .ref a0), (1, .int a1)], [.int (-1)], w)) rfl ?_
      obtain rfl := Option.some.inj h
      subst hr
      exact tb_Er rfl rfl
/-! TannerBunting.back(I)I -/
def fb_x_back (a0 : Nat) (a1 : Int32) (w : tb_Hp) : Option (Int32 × tb_Hp) := (if a1 < 0 then some (-1, w) else (tb_gN 21 6 a0 w).bind fun p1 => (tb_al p1 w).bind fun x2 => (if a1 < x2 then (tb_gN 21 6 a0 w).bind fun p3 => (tb_lQ p3 a1 w).bind fun x4 => (match x4 with | none => some (-1, w) | some q5 => (tb_gN 21 5 a0 w).bind fun p6 => (tb_on 15 p6 w (fb_sc_copyFrom p6 q5 w)).bind fun x7 => (tb_gN 21 7 a0 x7).bind fun p8 => (tb_on 13 p8 x7 (fb_p_clear p8 x7)).bind fun x9 => (tb_gN 21 5 a0 x9).bind fun p10 => (tb_gN 15 0 p10 x9).bind fun p11 => (tb_gI 17 2 p11 x9).bind fun x12 => some (x12, x9)) else some (-1, w)))
set_option maxHeartbeats 4000000 in
set_option maxRecDepth 20000 in
theorem dc_x_back {a0 : Nat} {a1 : Int32} {w : tb_Hp} {o : Int32 × tb_Hp} (h : fb_x_back a0 a1 w = some o) : tb_Ev tb_P 2 169 (0, tb_ent [.ref a0, .int a1], [], w) (some (.int o.1), o.2) := by
  unfold fb_x_back at h
  obtain ⟨r, hr⟩ : ∃ r : Option Value × tb_Hp, r = (some (.int o.1), o.2) := ⟨_, rfl⟩
  rw [← hr]
  show tb_Ev tb_P 2 169 (0, [(0, .ref a0), (1, .int a1)], [], w) r
  refine tb_Es (k := 1) (st' := (1, [(0, .ref a0), (1, .int a1)], [.int a1], w)) rfl ?_
  refine tb_b_ilt rfl (fun hc => ?_) (fun hc => ?_)
  · rw [if_pos hc] at h
    refine tb_Es (k := 1) (st' := (8, [(0, .ref a0), (1, .int a1)], [.int (-1)], w)) rfl ?_
    obtain rfl := Option.some.inj h
    subst hr
    exact tb_Er rfl rfl
  · rw [if_neg hc] at h
    refine tb_Es (k := 2) (st' := (4, [(0, .ref a0), (1, .int a1)], [.ref a0, .int a1], w)) rfl ?_
    replace h := Option.bind_eq_some_iff.mp h
    obtain ⟨p1, ep1, h⟩ := h
    refine tb_e_gN rfl ep1 ?_
    replace h := Option.bind_eq_some_iff.mp h
    obtain ⟨x2, ex2, h⟩ := h
    refine tb_e_al rfl ex2 ?_
    refine tb_b_clt rfl (fun hc => ?_) (fun hc => ?_)
    · rw [if_pos hc] at h
      refine tb_Es (k := 1) (st' := (10, [(0, .ref a0), (1, .int a1)], [.ref a0], w)) rfl ?_
      replace h := Option.bind_eq_some_iff.mp h
      obtain ⟨p3, ep3, h⟩ := h
      refine tb_e_gN rfl ep3 ?_
      refine tb_Es (k := 1) (st' := (12, [(0, .ref a0), (1, .int a1)], [.int a1, .ref p3], w)) rfl ?_
      replace h := Option.bind_eq_some_iff.mp h
      obtain ⟨x4, ex4, h⟩ := h
      refine tb_e_lQ rfl ex4 ?_
      refine tb_q_astore (k := 2) (L' := [(2, va_rf x4), (0, .ref a0), (1, .int a1)]) rfl (Or.inr ⟨_, rfl, rfl⟩) (by decide) (by simp [tb_s1, tb_catq, tb_cR, tb_cI, tb_cJ]) ?_
      refine tb_q_aload (k := 2) rfl (Or.inr ⟨_, rfl, rfl⟩) rfl ?_
      refine tb_b_nonnull rfl (fun hc => ?_) (fun q5 hc => ?_)
      · subst hc
        dsimp only at h
        refine tb_Es (k := 1) (st' := (17, [(2, .null), (0, .ref a0), (1, .int a1)], [.int (-1)], w)) rfl ?_
        obtain rfl := Option.some.inj h
        subst hr
        exact tb_Er rfl rfl
      · subst hc
        dsimp only at h
        refine tb_Es (k := 1) (st' := (19, [(2, .ref q5), (0, .ref a0), (1, .int a1)], [.ref a0], w)) rfl ?_
        replace h := Option.bind_eq_some_iff.mp h
        obtain ⟨p6, ep6, h⟩ := h
        refine tb_e_gN rfl ep6 ?_
        refine tb_Es (k := 1) (st' := (21, [(2, .ref q5), (0, .ref a0), (1, .int a1)], [.ref q5, .ref p6], w)) rfl ?_
        replace h := Option.bind_eq_some_iff.mp h
        obtain ⟨x7, ex7, h⟩ := h
        obtain ⟨hkx7, hcall⟩ := tb_on_some ex7
        refine tb_e_cv (v := none) rfl (Or.inl ⟨_, rfl⟩) rfl rfl (Nat.le_of_ble_eq_true rfl) rfl (Nat.le_of_ble_eq_true rfl) hkx7 ((dc_sc_copyFrom hcall).up (by decide)) ?_
        refine tb_Es (k := 1) (st' := (23, [(2, .ref q5), (0, .ref a0), (1, .int a1)], [.ref a0], x7)) rfl ?_
        replace h := Option.bind_eq_some_iff.mp h
        obtain ⟨p8, ep8, h⟩ := h
        refine tb_e_gN rfl ep8 ?_
        replace h := Option.bind_eq_some_iff.mp h
        obtain ⟨x9, ex9, h⟩ := h
        obtain ⟨hkx9, hcall⟩ := tb_on_some ex9
        refine tb_e_cv (v := none) rfl (Or.inl ⟨_, rfl⟩) rfl rfl (Nat.le_of_ble_eq_true rfl) rfl (Nat.le_of_ble_eq_true rfl) hkx9 ((dc_p_clear hcall).up (by decide)) ?_
        refine tb_Es (k := 1) (st' := (26, [(2, .ref q5), (0, .ref a0), (1, .int a1)], [.ref a0], x9)) rfl ?_
        replace h := Option.bind_eq_some_iff.mp h
        obtain ⟨p10, ep10, h⟩ := h
        refine tb_e_gN rfl ep10 ?_
        replace h := Option.bind_eq_some_iff.mp h
        obtain ⟨p11, ep11, h⟩ := h
        refine tb_e_gN rfl ep11 ?_
        replace h := Option.bind_eq_some_iff.mp h
        obtain ⟨x12, ex12, h⟩ := h
        refine tb_e_gI rfl ex12 ?_
        obtain rfl := Option.some.inj h
        subst hr
        exact tb_Er rfl rfl
    · rw [if_neg hc] at h
      refine tb_Es (k := 1) (st' := (8, [(0, .ref a0), (1, .int a1)], [.int (-1)], w)) rfl ?_
      obtain rfl := Option.some.inj h
      subst hr
      exact tb_Er rfl rfl
/-! TannerBuntingModel.isStreetWord()Z -/
def fb_m_isStreetWord (a0 : Nat) (w : tb_Hp) : Option (Int32 × tb_Hp) := (tb_on 22 a0 w (fb_m_isWord a0 126943972648308 w)).bind fun x1 => (if x1.1 = 0 then (tb_on 22 a0 x1.2 (fb_m_isWord a0 448546567013 x1.2)).bind fun x2 => (if x2.1 = 0 then (tb_on 22 a0 x2.2 (fb_m_isWord a0 1818848869 x2.2)).bind fun x3 => (if x3.1 = 0 then some (0, x3.2) else some (1, x3.2)) else some (1, x2.2)) else some (1, x1.2))
set_option maxHeartbeats 4000000 in
set_option maxRecDepth 20000 in
theorem dc_m_isStreetWord {a0 : Nat} {w : tb_Hp} {o : Int32 × tb_Hp} (h : fb_m_isStreetWord a0 w = some o) : tb_Ev tb_P 2 178 (0, tb_ent [.ref a0], [], w) (some (.int o.1), o.2) := by
  unfold fb_m_isStreetWord at h
  obtain ⟨r, hr⟩ : ∃ r : Option Value × tb_Hp, r = (some (.int o.1), o.2) := ⟨_, rfl⟩
  rw [← hr]
  show tb_Ev tb_P 2 178 (0, [(0, .ref a0)], [], w) r
  refine tb_Es (k := 2) (st' := (2, [(0, .ref a0)], [.long 126943972648308, .ref a0], w)) rfl ?_
  replace h := Option.bind_eq_some_iff.mp h
  obtain ⟨x1, ex1, h⟩ := h
  obtain ⟨hkx1, hcall⟩ := tb_on_some ex1
  refine tb_e_cv (v := some (.int x1.1)) rfl (Or.inl ⟨_, rfl⟩) rfl rfl (Nat.le_of_ble_eq_true rfl) rfl (Nat.le_of_ble_eq_true rfl) hkx1 ((dc_m_isWord hcall).up (by decide)) ?_
  refine tb_b_ine rfl (fun hc => ?_) (fun hc => ?_)
  · rw [if_pos hc] at h
    refine tb_Es (k := 2) (st' := (6, [(0, .ref a0)], [.long 448546567013, .ref a0], x1.2)) rfl ?_
    replace h := Option.bind_eq_some_iff.mp h
    obtain ⟨x2, ex2, h⟩ := h
    obtain ⟨hkx2, hcall⟩ := tb_on_some ex2
    refine tb_e_cv (v := some (.int x2.1)) rfl (Or.inl ⟨_, rfl⟩) rfl rfl (Nat.le_of_ble_eq_true rfl) rfl (Nat.le_of_ble_eq_true rfl) hkx2 ((dc_m_isWord hcall).up (by decide)) ?_
    refine tb_b_ine rfl (fun hc => ?_) (fun hc => ?_)
    · rw [if_pos hc] at h
      refine tb_Es (k := 2) (st' := (10, [(0, .ref a0)], [.long 1818848869, .ref a0], x2.2)) rfl ?_
      replace h := Option.bind_eq_some_iff.mp h
      obtain ⟨x3, ex3, h⟩ := h
      obtain ⟨hkx3, hcall⟩ := tb_on_some ex3
      refine tb_e_cv (v := some (.int x3.1)) rfl (Or.inl ⟨_, rfl⟩) rfl rfl (Nat.le_of_ble_eq_true rfl) rfl (Nat.le_of_ble_eq_true rfl) hkx3 ((dc_m_isWord hcall).up (by decide)) ?_
      refine tb_b_ieq rfl (fun hc => ?_) (fun hc => ?_)
      · rw [if_pos hc] at h
        refine tb_Es (k := 1) (st' := (15, [(0, .ref a0)], [.int 0], x3.2)) rfl ?_
        obtain rfl := Option.some.inj h
        subst hr
        exact tb_Er rfl rfl
      · rw [if_neg hc] at h
        refine tb_Es (k := 2) (st' := (15, [(0, .ref a0)], [.int 1], x3.2)) rfl ?_
        obtain rfl := Option.some.inj h
        subst hr
        exact tb_Er rfl rfl
    · rw [if_neg hc] at h
      refine tb_Es (k := 2) (st' := (15, [(0, .ref a0)], [.int 1], x2.2)) rfl ?_
      obtain rfl := Option.some.inj h
      subst hr
      exact tb_Er rfl rfl
  · rw [if_neg hc] at h
    refine tb_Es (k := 2) (st' := (15, [(0, .ref a0)], [.int 1], x1.2)) rfl ?_
    obtain rfl := Option.some.inj h
    subst hr
    exact tb_Er rfl rfl
/-! TannerBuntingModel.cellHere(III)Z -/
def fb_m_cellHere (a0 : Nat) (a1 : Int32) (a2 : Int32) (a3 : Int32) (w : tb_Hp) : Option (Int32 × tb_Hp) := (tb_on 22 a0 w (fb_m_numberHere a0 a2 a3 w)).bind fun x1 => (if x1.1 = 0 then some (0, x1.2) else (tb_gN 22 7 a0 x1.2).bind fun p2 => (tb_gI 22 10 a0 x1.2).bind fun x3 => (tb_tI p2 a1 x3 x1.2).bind fun w4 => some (1, w4))
set_option maxHeartbeats 4000000 in
set_option maxRecDepth 20000 in
theorem dc_m_cellHere {a0 : Nat} {a1 : Int32} {a2 : Int32} {a3 : Int32} {w : tb_Hp} {o : Int32 × tb_Hp} (h : fb_m_cellHere a0 a1 a2 a3 w = some o) : tb_Ev tb_P 2 185 (0, tb_ent [.ref a0, .int a1, .int a2, .int a3], [], w) (some (.int o.1), o.2) := by
  unfold fb_m_cellHere at h
  obtain ⟨r, hr⟩ : ∃ r : Option Value × tb_Hp, r = (some (.int o.1), o.2) := ⟨_, rfl⟩
  rw [← hr]
  show tb_Ev tb_P 2 185 (0, [(0, .ref a0), (1, .int a1), (2, .int a2), (3, .int a3)], [], w) r
  refine tb_Es (k := 3) (st' := (3, [(0, .ref a0), (1, .int a1), (2, .int a2), (3, .int a3)], [.int a3, .int a2, .ref a0], w)) rfl ?_
  replace h := Option.bind_eq_some_iff.mp h
  obtain ⟨x1, ex1, h⟩ := h
  obtain ⟨hkx1, hcall⟩ := tb_on_some ex1
  refine tb_e_cv (v := some (.int x1.1)) rfl (Or.inl ⟨_, rfl⟩) rfl rfl (Nat.le_of_ble_eq_true rfl) rfl (Nat.le_of_ble_eq_true rfl) hkx1 ((dc_m_numberHere hcall).up (by decide)) ?_
  refine tb_b_ine rfl (fun hc => ?_) (fun hc => ?_)
  · rw [if_pos hc] at h
    refine tb_Es (k := 1) (st' := (6, [(0, .ref a0), (1, .int a1), (2, .int a2), (3, .int a3)], [.int 0], x1.2)) rfl ?_
    obtain rfl := Option.some.inj h
    subst hr
    exact tb_Er rfl rfl
  · rw [if_neg hc] at h
    refine tb_Es (k := 1) (st' := (8, [(0, .ref a0), (1, .int a1), (2, .int a2), (3, .int a3)], [.ref a0], x1.2)) rfl ?_
    replace h := Option.bind_eq_some_iff.mp h
    obtain ⟨p2, ep2, h⟩ := h
    refine tb_e_gN rfl ep2 ?_
    refine tb_Es (k := 2) (st' := (11, [(0, .ref a0), (1, .int a1), (2, .int a2), (3, .int a3)], [.ref a0, .int a1, .ref p2], x1.2)) rfl ?_
    replace h := Option.bind_eq_some_iff.mp h
    obtain ⟨x3, ex3, h⟩ := h
    refine tb_e_gI rfl ex3 ?_
    replace h := Option.bind_eq_some_iff.mp h
    obtain ⟨w4, ew4, h⟩ := h
    refine tb_e_tI rfl ew4 ?_
    refine tb_Es (k := 1) (st' := (14, [(0, .ref a0), (1, .int a1), (2, .int a2), (3, .int a3)], [.int 1], w4)) rfl ?_
    obtain rfl := Option.some.inj h
    subst hr
    exact tb_Er rfl rfl
/-! TannerBuntingModel.wordHere()I -/
def fb_m_wordHere (a0 : Nat) (w : tb_Hp) : Option (Int32 × tb_Hp) := (tb_on 22 a0 w (fb_m_isWord a0 1818848869 w)).bind fun x1 => (if x1.1 = 0 then (tb_on 22 a0 x1.2 (fb_m_isWord a0 7300196 x1.2)).bind fun x2 => (if x2.1 = 0 then (tb_on 22 a0 x2.2 (fb_m_isWord a0 1702258030 x2.2)).bind fun x3 => (if x3.1 = 0 then (tb_on 22 a0 x3.2 (fb_m_isWord a0 1886743660 x3.2)).bind fun x4 => (if x4.1 = 0 then (tb_on 22 a0 x4.2 (fb_m_isWord a0 30510766623777892 x4.2)).bind fun x5 => (if x5.1 = 0 then (tb_on 22 a0 x5.2 (fb_m_isWord a0 7810756255520548206 x5.2)).bind fun x6 => (if x6.1 = 0 then (tb_on 22 a0 x6.2 (fb_m_isWord a0 28832972109997156 x6.2)).bind fun x7 => (if x7.1 = 0 then (tb_on 22 a0 x7.2 (fb_m_isWord a0 7381240859992679790 x7.2)).bind fun x8 => (if x8.1 = 0 then (tb_on 22 a0 x8.2 (fb_m_isWord a0 30064 x8.2)).bind fun x9 => (if x9.1 = 0 then (tb_on 22 a0 x9.2 (fb_m_isWord a0 8319381538419076711 x9.2)).bind fun x10 => (if x10.1 = 0 then (tb_on 22 a0 x10.2 (fb_m_isWord a0 439720633715 x10.2)).bind fun x11 => (if x11.1 = 0 then (tb_on 22 a0 x11.2 (fb_m_isWord a0 2036687218 x11.2)).bind fun x12 => (if x12.1 = 0 then some (-1, x12.2) else some (11, x12.2)) else some (10, x11.2)) else some (9, x10.2)) else some (8, x9.2)) else some (7, x8.2)) else some (6, x7.2)) else some (5, x6.2)) else some (4, x5.2)) else some (3, x4.2)) else some (2, x3.2)) else some (1, x2.2)) else some (0, x1.2))
set_option maxHeartbeats 4000000 in
set_option maxRecDepth 20000 in
theorem dc_m_wordHere {a0 : Nat} {w : tb_Hp} {o : Int32 × tb_Hp} (h : fb_m_wordHere a0 w = some o) : tb_Ev tb_P 2 197 (0, tb_ent [.ref a0], [], w) (some (.int o.1), o.2) := by
  unfold fb_m_wordHere at h
  obtain ⟨r, hr⟩ : ∃ r : Option Value × tb_Hp, r = (some (.int o.1), o.2) := ⟨_, rfl⟩
  rw [← hr]
  show tb_Ev tb_P 2 197 (0, [(0, .ref a0)], [], w) r
  refine tb_Es (k := 2) (st' := (2, [(0, .ref a0)], [.long 1818848869, .ref a0], w)) rfl ?_
  replace h := Option.bind_eq_some_iff.mp h
  obtain ⟨x1, ex1, h⟩ := h
  obtain ⟨hkx1, hcall⟩ := tb_on_some ex1
  refine tb_e_cv (v := some (.int x1.1)) rfl (Or.inl ⟨_, rfl⟩) rfl rfl (Nat.le_of_ble_eq_true rfl) rfl (Nat.le_of_ble_eq_true rfl) hkx1 ((dc_m_isWord hcall).up (by decide)) ?_
  refine tb_b_ieq rfl (fun hc => ?_) (fun hc => ?_)
  · rw [if_pos hc] at h
    refine tb_Es (k := 2) (st' := (8, [(0, .ref a0)], [.long 7300196, .ref a0], x1.2)) rfl ?_
    replace h := Option.bind_eq_some_iff.mp h
    obtain ⟨x2, ex2, h⟩ := h
    obtain ⟨hkx2, hcall⟩ := tb_on_some ex2
    refine tb_e_cv (v := some (.int x2.1)) rfl (Or.inl ⟨_, rfl⟩) rfl rfl (Nat.le_of_ble_eq_true rfl) rfl (Nat.le_of_ble_eq_true rfl) hkx2 ((dc_m_isWord hcall).up (by decide)) ?_
    refine tb_b_ieq rfl (fun hc => ?_) (fun hc => ?_)
    · rw [if_pos hc] at h
      refine tb_Es (k := 2) (st' := (14, [(0, .ref a0)], [.long 1702258030, .ref a0], x2.2)) rfl ?_
      replace h := Option.bind_eq_some_iff.mp h
      obtain ⟨x3, ex3, h⟩ := h
      obtain ⟨hkx3, hcall⟩ := tb_on_some ex3
      refine tb_e_cv (v := some (.int x3.1)) rfl (Or.inl ⟨_, rfl⟩) rfl rfl (Nat.le_of_ble_eq_true rfl) rfl (Nat.le_of_ble_eq_true rfl) hkx3 ((dc_m_isWord hcall).up (by decide)) ?_
      refine tb_b_ieq rfl (fun hc => ?_) (fun hc => ?_)
      · rw [if_pos hc] at h
        refine tb_Es (k := 2) (st' := (20, [(0, .ref a0)], [.long 1886743660, .ref a0], x3.2)) rfl ?_
        replace h := Option.bind_eq_some_iff.mp h
        obtain ⟨x4, ex4, h⟩ := h
        obtain ⟨hkx4, hcall⟩ := tb_on_some ex4
        refine tb_e_cv (v := some (.int x4.1)) rfl (Or.inl ⟨_, rfl⟩) rfl rfl (Nat.le_of_ble_eq_true rfl) rfl (Nat.le_of_ble_eq_true rfl) hkx4 ((dc_m_isWord hcall).up (by decide)) ?_
        refine tb_b_ieq rfl (fun hc => ?_) (fun hc => ?_)
        · rw [if_pos hc] at h
          refine tb_Es (k := 2) (st' := (26, [(0, .ref a0)], [.long 30510766623777892, .ref a0], x4.2)) rfl ?_
          replace h := Option.bind_eq_some_iff.mp h
          obtain ⟨x5, ex5, h⟩ := h
          obtain ⟨hkx5, hcall⟩ := tb_on_some ex5
          refine tb_e_cv (v := some (.int x5.1)) rfl (Or.inl ⟨_, rfl⟩) rfl rfl (Nat.le_of_ble_eq_true rfl) rfl (Nat.le_of_ble_eq_true rfl) hkx5 ((dc_m_isWord hcall).up (by decide)) ?_
          refine tb_b_ieq rfl (fun hc => ?_) (fun hc => ?_)
          · rw [if_pos hc] at h
            refine tb_Es (k := 2) (st' := (32, [(0, .ref a0)], [.long 7810756255520548206, .ref a0], x5.2)) rfl ?_
            replace h := Option.bind_eq_some_iff.mp h
            obtain ⟨x6, ex6, h⟩ := h
            obtain ⟨hkx6, hcall⟩ := tb_on_some ex6
            refine tb_e_cv (v := some (.int x6.1)) rfl (Or.inl ⟨_, rfl⟩) rfl rfl (Nat.le_of_ble_eq_true rfl) rfl (Nat.le_of_ble_eq_true rfl) hkx6 ((dc_m_isWord hcall).up (by decide)) ?_
            refine tb_b_ieq rfl (fun hc => ?_) (fun hc => ?_)
            · rw [if_pos hc] at h
              refine tb_Es (k := 2) (st' := (38, [(0, .ref a0)], [.long 28832972109997156, .ref a0], x6.2)) rfl ?_
              replace h := Option.bind_eq_some_iff.mp h
              obtain ⟨x7, ex7, h⟩ := h
              obtain ⟨hkx7, hcall⟩ := tb_on_some ex7
              refine tb_e_cv (v := some (.int x7.1)) rfl (Or.inl ⟨_, rfl⟩) rfl rfl (Nat.le_of_ble_eq_true rfl) rfl (Nat.le_of_ble_eq_true rfl) hkx7 ((dc_m_isWord hcall).up (by decide)) ?_
              refine tb_b_ieq rfl (fun hc => ?_) (fun hc => ?_)
              · rw [if_pos hc] at h
                refine tb_Es (k := 2) (st' := (44, [(0, .ref a0)], [.long 7381240859992679790, .ref a0], x7.2)) rfl ?_
                replace h := Option.bind_eq_some_iff.mp h
                obtain ⟨x8, ex8, h⟩ := h
                obtain ⟨hkx8, hcall⟩ := tb_on_some ex8
                refine tb_e_cv (v := some (.int x8.1)) rfl (Or.inl ⟨_, rfl⟩) rfl rfl (Nat.le_of_ble_eq_true rfl) rfl (Nat.le_of_ble_eq_true rfl) hkx8 ((dc_m_isWord hcall).up (by decide)) ?_
                refine tb_b_ieq rfl (fun hc => ?_) (fun hc => ?_)
                · rw [if_pos hc] at h
                  refine tb_Es (k := 2) (st' := (50, [(0, .ref a0)], [.long 30064, .ref a0], x8.2)) rfl ?_
                  replace h := Option.bind_eq_some_iff.mp h
                  obtain ⟨x9, ex9, h⟩ := h
                  obtain ⟨hkx9, hcall⟩ := tb_on_some ex9
                  refine tb_e_cv (v := some (.int x9.1)) rfl (Or.inl ⟨_, rfl⟩) rfl rfl (Nat.le_of_ble_eq_true rfl) rfl (Nat.le_of_ble_eq_true rfl) hkx9 ((dc_m_isWord hcall).up (by decide)) ?_
                  refine tb_b_ieq rfl (fun hc => ?_) (fun hc => ?_)
                  · rw [if_pos hc] at h
                    refine tb_Es (k := 2) (st' := (56, [(0, .ref a0)], [.long 8319381538419076711, .ref a0], x9.2)) rfl ?_
                    replace h := Option.bind_eq_some_iff.mp h
                    obtain ⟨x10, ex10, h⟩ := h
                    obtain ⟨hkx10, hcall⟩ := tb_on_some ex10
                    refine tb_e_cv (v := some (.int x10.1)) rfl (Or.inl ⟨_, rfl⟩) rfl rfl (Nat.le_of_ble_eq_true rfl) rfl (Nat.le_of_ble_eq_true rfl) hkx10 ((dc_m_isWord hcall).up (by decide)) ?_
                    refine tb_b_ieq rfl (fun hc => ?_) (fun hc => ?_)
                    · rw [if_pos hc] at h
                      refine tb_Es (k := 2) (st' := (62, [(0, .ref a0)], [.long 439720633715, .ref a0], x10.2)) rfl ?_
                      replace h := Option.bind_eq_some_iff.mp h
                      obtain ⟨x11, ex11, h⟩ := h
                      obtain ⟨hkx11, hcall⟩ := tb_on_some ex11
                      refine tb_e_cv (v := some (.int x11.1)) rfl (Or.inl ⟨_, rfl⟩) rfl rfl (Nat.le_of_ble_eq_true rfl) rfl (Nat.le_of_ble_eq_true rfl) hkx11 ((dc_m_isWord hcall).up (by decide)) ?_
                      refine tb_b_ieq rfl (fun hc => ?_) (fun hc => ?_)
                      · rw [if_pos hc] at h
                        refine tb_Es (k := 2) (st' := (68, [(0, .ref a0)], [.long 2036687218, .ref a0], x11.2)) rfl ?_
                        replace h := Option.bind_eq_some_iff.mp h
                        obtain ⟨x12, ex12, h⟩ := h
                        obtain ⟨hkx12, hcall⟩ := tb_on_some ex12
                        refine tb_e_cv (v := some (.int x12.1)) rfl (Or.inl ⟨_, rfl⟩) rfl rfl (Nat.le_of_ble_eq_true rfl) rfl (Nat.le_of_ble_eq_true rfl) hkx12 ((dc_m_isWord hcall).up (by decide)) ?_
                        refine tb_b_ieq rfl (fun hc => ?_) (fun hc => ?_)
                        · rw [if_pos hc] at h
                          refine tb_Es (k := 1) (st' := (73, [(0, .ref a0)], [.int (-1)], x12.2)) rfl ?_
                          obtain rfl := Option.some.inj h
                          subst hr
                          exact tb_Er rfl rfl
                        · rw [if_neg hc] at h
                          refine tb_Es (k := 2) (st' := (73, [(0, .ref a0)], [.int 11], x12.2)) rfl ?_
                          obtain rfl := Option.some.inj h
                          subst hr
                          exact tb_Er rfl rfl
                      · rw [if_neg hc] at h
                        refine tb_Es (k := 2) (st' := (73, [(0, .ref a0)], [.int 10], x11.2)) rfl ?_
                        obtain rfl := Option.some.inj h
                        subst hr
                        exact tb_Er rfl rfl
                    · rw [if_neg hc] at h
                      refine tb_Es (k := 1) (st' := (59, [(0, .ref a0)], [.int 9], x10.2)) rfl ?_
                      obtain rfl := Option.some.inj h
                      subst hr
                      exact tb_Er rfl rfl
                  · rw [if_neg hc] at h
                    refine tb_Es (k := 1) (st' := (53, [(0, .ref a0)], [.int 8], x9.2)) rfl ?_
                    obtain rfl := Option.some.inj h
                    subst hr
                    exact tb_Er rfl rfl
                · rw [if_neg hc] at h
                  refine tb_Es (k := 1) (st' := (47, [(0, .ref a0)], [.int 7], x8.2)) rfl ?_
                  obtain rfl := Option.some.inj h
                  subst hr
                  exact tb_Er rfl rfl
              · rw [if_neg hc] at h
                refine tb_Es (k := 1) (st' := (41, [(0, .ref a0)], [.int 6], x7.2)) rfl ?_
                obtain rfl := Option.some.inj h
                subst hr
                exact tb_Er rfl rfl
            · rw [if_neg hc] at h
              refine tb_Es (k := 1) (st' := (35, [(0, .ref a0)], [.int 5], x6.2)) rfl ?_
              obtain rfl := Option.some.inj h
              subst hr
              exact tb_Er rfl rfl
          · rw [if_neg hc] at h
            refine tb_Es (k := 1) (st' := (29, [(0, .ref a0)], [.int 4], x5.2)) rfl ?_
            obtain rfl := Option.some.inj h
            subst hr
            exact tb_Er rfl rfl
        · rw [if_neg hc] at h
          refine tb_Es (k := 1) (st' := (23, [(0, .ref a0)], [.int 3], x4.2)) rfl ?_
          obtain rfl := Option.some.inj h
          subst hr
          exact tb_Er rfl rfl
      · rw [if_neg hc] at h
        refine tb_Es (k := 1) (st' := (17, [(0, .ref a0)], [.int 2], x3.2)) rfl ?_
        obtain rfl := Option.some.inj h
        subst hr
        exact tb_Er rfl rfl
    · rw [if_neg hc] at h
      refine tb_Es (k := 1) (st' := (11, [(0, .ref a0)], [.int 1], x2.2)) rfl ?_
      obtain rfl := Option.some.inj h
      subst hr
      exact tb_Er rfl rfl
  · rw [if_neg hc] at h
    refine tb_Es (k := 1) (st' := (5, [(0, .ref a0)], [.int 0], x1.2)) rfl ?_
    obtain rfl := Option.some.inj h
    subst hr
    exact tb_Er rfl rfl
