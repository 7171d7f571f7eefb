/-! TannerBunting.newLine(III)I -/
def fj_x_newLine_j18 (v0 : Nat) (v1 : Int32) (v2 : Int32) (v3 : Int32) (s0 : Int32) (w : tb_Hp) : Option (Int32 × tb_Hp) := (tb_gN 21 5 v0 w).bind fun p2 => (tb_on 15 p2 w (fb_sc_isEmpty p2 w)).bind fun x3 => (if x3.1 = 0 then (if s0 = 0 then some (-2, x3.2) else (tb_gN 21 10 v0 x3.2).bind fun p4 => (tb_gN 21 5 v0 x3.2).bind fun p5 => (tb_gN 15 0 p5 x3.2).bind fun p6 => (tb_on 21 v0 x3.2 (fb_x_ruleInForce v0 x3.2)).bind fun x7 => (tb_on 20 p4 x7.2 (fb_yr_findNewLine p4 p6 x7.1 v1 v2 x7.2)).bind fun x8 => (if v3 = 0 then (tb_gN 21 10 v0 x8).bind fun p9 => (tb_gI 20 2 p9 x8).bind fun x10 => some (x10, x8) else (if v3 = 1 then (tb_gN 21 10 v0 x8).bind fun p11 => (tb_gI 20 3 p11 x8).bind fun x12 => some (x12, x8) else (tb_gN 21 10 v0 x8).bind fun p13 => (tb_gI 20 4 p13 x8).bind fun x14 => some (x14, x8)))) else some (-2, x3.2))
set_option maxHeartbeats 4000000 in
set_option maxRecDepth 20000 in
theorem dj_x_newLine_j18 (v0 : Nat) (v1 : Int32) (v2 : Int32) (v3 : Int32) (s0 : Int32) (w : tb_Hp) (o : Int32 × tb_Hp) (h : fj_x_newLine_j18 v0 v1 v2 v3 s0 w = some o) (r : Option Value × tb_Hp) (hr : r = (some (.int o.1), o.2)) : tb_Ev tb_P 7 134 (19, [(0, .ref v0), (1, .int v1), (2, .int v2), (3, .int v3)], [.int s0], w) r := by
  unfold fj_x_newLine_j18 at h
  refine tb_Es (k := 2) (st' := (21, [(4, .int s0), (0, .ref v0), (1, .int v1), (2, .int v2), (3, .int v3)], [.ref v0], w)) rfl ?_
  obtain ⟨p2, ep2, h⟩ := Option.bind_eq_some_iff.mp h
  refine tb_e_gN rfl ep2 ?_
  obtain ⟨x3, ex3, h⟩ := Option.bind_eq_some_iff.mp h
  obtain ⟨hkx3, hcall⟩ := tb_on_some ex3
  refine tb_e_cv (v := some (.int x3.1)) rfl (Or.inl ⟨_, rfl⟩) rfl rfl (Nat.le_of_ble_eq_true rfl) rfl (Nat.le_of_ble_eq_true rfl) hkx3 ((dc_sc_isEmpty hcall).up (by decide)) ?_
  refine tb_b_ine rfl (fun hc => ?_) (fun hc => ?_)
  · rw [if_pos hc] at h
    refine tb_Es (k := 1) (st' := (25, [(4, .int s0), (0, .ref v0), (1, .int v1), (2, .int v2), (3, .int v3)], [.int s0], x3.2)) rfl ?_
    refine tb_b_ine rfl (fun hc => ?_) (fun hc => ?_)
    · rw [if_pos hc] at h
      refine tb_Es (k := 1) (st' := (27, [(4, .int s0), (0, .ref v0), (1, .int v1), (2, .int v2), (3, .int v3)], [.int (-2)], x3.2)) rfl ?_
      cases h
      subst hr
      exact tb_Er rfl rfl
    · rw [if_neg hc] at h
      refine tb_Es (k := 1) (st' := (29, [(4, .int s0), (0, .ref v0), (1, .int v1), (2, .int v2), (3, .int v3)], [.ref v0], x3.2)) rfl ?_
      obtain ⟨p4, ep4, h⟩ := Option.bind_eq_some_iff.mp h
      refine tb_e_gN rfl ep4 ?_
      refine tb_Es (k := 1) (st' := (31, [(4, .int s0), (0, .ref v0), (1, .int v1), (2, .int v2), (3, .int v3)], [.ref v0, .ref p4], x3.2)) rfl ?_
      obtain ⟨p5, ep5, h⟩ := Option.bind_eq_some_iff.mp h
      refine tb_e_gN rfl ep5 ?_
      obtain ⟨p6, ep6, h⟩ := Option.bind_eq_some_iff.mp h
      refine tb_e_gN rfl ep6 ?_
      refine tb_Es (k := 1) (st' := (34, [(4, .int s0), (0, .ref v0), (1, .int v1), (2, .int v2), (3, .int v3)], [.ref v0, .ref p6, .ref p4], x3.2)) rfl ?_
      obtain ⟨x7, ex7, h⟩ := Option.bind_eq_some_iff.mp h
      obtain ⟨hkx7, hcall⟩ := tb_on_some ex7
      refine tb_e_cv (v := some (va_rf x7.1)) rfl (Or.inl ⟨_, rfl⟩) rfl rfl (Nat.le_of_ble_eq_true rfl) rfl (Nat.le_of_ble_eq_true rfl) hkx7 ((dc_x_ruleInForce hcall).up (by decide)) ?_
      refine tb_Es (k := 2) (st' := (37, [(4, .int s0), (0, .ref v0), (1, .int v1), (2, .int v2), (3, .int v3)], [.int v2, .int v1, va_rf x7.1, .ref p6, .ref p4], x7.2)) rfl ?_
      obtain ⟨x8, ex8, h⟩ := Option.bind_eq_some_iff.mp h
      obtain ⟨hkx8, hcall⟩ := tb_on_some ex8
      refine tb_e_cv (v := none) rfl (Or.inl ⟨_, rfl⟩) rfl rfl (Nat.le_of_ble_eq_true rfl) rfl (by simp [tb_catq, Value.category]; try decide) hkx8 ((dc_yr_findNewLine hcall).up (by decide)) ?_
      refine tb_Es (k := 1) (st' := (39, [(4, .int s0), (0, .ref v0), (1, .int v1), (2, .int v2), (3, .int v3)], [.int v3], x8)) rfl ?_
      refine tb_w_lks rfl ?_
      refine tb_w_one (k := 0) (by decide) (fun hc => ?_) (fun hc => ?_)
      · rw [if_pos hc] at h
        refine tb_Es (k := 1) (st' := (41, [(4, .int s0), (0, .ref v0), (1, .int v1), (2, .int v2), (3, .int v3)], [.ref v0], x8)) rfl ?_
        obtain ⟨p9, ep9, h⟩ := Option.bind_eq_some_iff.mp h
        refine tb_e_gN rfl ep9 ?_
        obtain ⟨x10, ex10, h⟩ := Option.bind_eq_some_iff.mp h
        refine tb_e_gI rfl ex10 ?_
        cases h
        subst hr
        exact tb_Er rfl rfl
      rw [if_neg hc] at h
      refine tb_w_one (k := 1) (by decide) (fun hc => ?_) (fun hc => ?_)
      · rw [if_pos hc] at h
        refine tb_Es (k := 1) (st' := (45, [(4, .int s0), (0, .ref v0), (1, .int v1), (2, .int v2), (3, .int v3)], [.ref v0], x8)) rfl ?_
        obtain ⟨p11, ep11, h⟩ := Option.bind_eq_some_iff.mp h
        refine tb_e_gN rfl ep11 ?_
        obtain ⟨x12, ex12, h⟩ := Option.bind_eq_some_iff.mp h
        refine tb_e_gI rfl ex12 ?_
        cases h
        subst hr
        exact tb_Er rfl rfl
      rw [if_neg hc] at h
      refine tb_w_end ?_
      refine tb_Es (k := 1) (st' := (49, [(4, .int s0), (0, .ref v0), (1, .int v1), (2, .int v2), (3, .int v3)], [.ref v0], x8)) rfl ?_
      obtain ⟨p13, ep13, h⟩ := Option.bind_eq_some_iff.mp h
      refine tb_e_gN rfl ep13 ?_
      obtain ⟨x14, ex14, h⟩ := Option.bind_eq_some_iff.mp h
      refine tb_e_gI rfl ex14 ?_
      cases h
      subst hr
      exact tb_Er rfl rfl
  · rw [if_neg hc] at h
    refine tb_Es (k := 1) (st' := (27, [(4, .int s0), (0, .ref v0), (1, .int v1), (2, .int v2), (3, .int v3)], [.int (-2)], x3.2)) rfl ?_
    cases h
    subst hr
    exact tb_Er rfl rfl
def fb_x_newLine (a0 : Nat) (a1 : Int32) (a2 : Int32) (a3 : Int32) (w : tb_Hp) : Option (Int32 × tb_Hp) := (fb_x_within a1 1 40 w).bind fun x1 => (if x1.1 = 0 then fj_x_newLine_j18 a0 a1 a2 a3 0 x1.2 else (fb_x_within a2 1 40 x1.2).bind fun x15 => (if x15.1 = 0 then fj_x_newLine_j18 a0 a1 a2 a3 0 x15.2 else (fb_x_within a3 0 2 x15.2).bind fun x16 => (if x16.1 = 0 then fj_x_newLine_j18 a0 a1 a2 a3 0 x16.2 else fj_x_newLine_j18 a0 a1 a2 a3 1 x16.2)))
set_option maxHeartbeats 4000000 in
set_option maxRecDepth 20000 in
theorem dc_x_newLine {a0 : Nat} {a1 : Int32} {a2 : Int32} {a3 : Int32} {w : tb_Hp} {o : Int32 × tb_Hp} (h : fb_x_newLine a0 a1 a2 a3 w = some o) : tb_Ev tb_P 7 134 (0, tb_ent [.ref a0, .int a1, .int a2, .int a3], [], w) (some (.int o.1), o.2) := by
  unfold fb_x_newLine at h
  obtain ⟨r, hr⟩ : ∃ r : Option Value × tb_Hp, r = (some (.int o.1), o.2) := ⟨_, rfl⟩
  rw [← hr]
  show tb_Ev tb_P 7 134 (0, [(0, .ref a0), (1, .int a1), (2, .int a2), (3, .int a3)], [], w) r
  refine tb_Es (k := 3) (st' := (3, [(0, .ref a0), (1, .int a1), (2, .int a2), (3, .int a3)], [.int 40, .int 1, .int a1], w)) rfl ?_
  obtain ⟨x1, ex1, h⟩ := Option.bind_eq_some_iff.mp h
  have hcall := ex1
  refine tb_e_cs (v := some (.int x1.1)) rfl rfl rfl (Nat.le_of_ble_eq_true rfl) rfl (Nat.le_of_ble_eq_true rfl) ((dc_x_within hcall).up (by decide)) ?_
  refine tb_b_ieq rfl (fun hc => ?_) (fun hc => ?_)
  · rw [if_pos hc] at h
    refine tb_Es (k := 2) (st' := (19, [(0, .ref a0), (1, .int a1), (2, .int a2), (3, .int a3)], [.int 0], x1.2)) rfl ?_
    exact dj_x_newLine_j18 a0 a1 a2 a3 0 x1.2 _ h r hr
  · rw [if_neg hc] at h
    refine tb_Es (k := 3) (st' := (8, [(0, .ref a0), (1, .int a1), (2, .int a2), (3, .int a3)], [.int 40, .int 1, .int a2], x1.2)) rfl ?_
    obtain ⟨x15, ex15, h⟩ := Option.bind_eq_some_iff.mp h
    have hcall := ex15
    refine tb_e_cs (v := some (.int x15.1)) rfl rfl rfl (Nat.le_of_ble_eq_true rfl) rfl (Nat.le_of_ble_eq_true rfl) ((dc_x_within hcall).up (by decide)) ?_
    refine tb_b_ieq rfl (fun hc => ?_) (fun hc => ?_)
    · rw [if_pos hc] at h
      refine tb_Es (k := 2) (st' := (19, [(0, .ref a0), (1, .int a1), (2, .int a2), (3, .int a3)], [.int 0], x15.2)) rfl ?_
      exact dj_x_newLine_j18 a0 a1 a2 a3 0 x15.2 _ h r hr
    · rw [if_neg hc] at h
      refine tb_Es (k := 3) (st' := (13, [(0, .ref a0), (1, .int a1), (2, .int a2), (3, .int a3)], [.int 2, .int 0, .int a3], x15.2)) rfl ?_
      obtain ⟨x16, ex16, h⟩ := Option.bind_eq_some_iff.mp h
      have hcall := ex16
      refine tb_e_cs (v := some (.int x16.1)) rfl rfl rfl (Nat.le_of_ble_eq_true rfl) rfl (Nat.le_of_ble_eq_true rfl) ((dc_x_within hcall).up (by decide)) ?_
      refine tb_b_ieq rfl (fun hc => ?_) (fun hc => ?_)
      · rw [if_pos hc] at h
        refine tb_Es (k := 2) (st' := (19, [(0, .ref a0), (1, .int a1), (2, .int a2), (3, .int a3)], [.int 0], x16.2)) rfl ?_
        exact dj_x_newLine_j18 a0 a1 a2 a3 0 x16.2 _ h r hr
      · rw [if_neg hc] at h
        refine tb_Es (k := 3) (st' := (19, [(0, .ref a0), (1, .int a1), (2, .int a2), (3, .int a3)], [.int 1], x16.2)) rfl ?_
        exact dj_x_newLine_j18 a0 a1 a2 a3 1 x16.2 _ h r hr
/-! TannerBunting.pulled(II)I -/
def fb_x_pulled (a0 : Nat) (a1 : Int32) (a2 : Int32) (w : tb_Hp) : Option (Int32 × tb_Hp) := (tb_gN 21 5 a0 w).bind fun p1 => (tb_gN 15 1 p1 w).bind fun p2 => (tb_on 17 p2 w (fb_s_isLine p2 a1 w)).bind fun x3 => (if x3.1 = 0 then some (-1, x3.2) else (fb_x_within a2 0 1 x3.2).bind fun x4 => (if x4.1 = 0 then some (-1, x4.2) else (tb_gN 21 11 a0 x4.2).bind fun p5 => (tb_gN 21 5 a0 x4.2).bind fun p6 => (tb_on 21 a0 x4.2 (fb_x_ruleInForce a0 x4.2)).bind fun x7 => (tb_on 16 p5 x7.2 (fb_so_findPulls p5 p6 x7.1 a1 x7.2)).bind fun x8 => (if a2 = 0 then (tb_gN 21 11 a0 x8).bind fun p9 => (tb_gI 16 0 p9 x8).bind fun x10 => some (x10, x8) else (tb_gN 21 11 a0 x8).bind fun p11 => (tb_gI 16 1 p11 x8).bind fun x12 => some (x12, x8))))
set_option maxHeartbeats 4000000 in
set_option maxRecDepth 20000 in
theorem dc_x_pulled {a0 : Nat} {a1 : Int32} {a2 : Int32} {w : tb_Hp} {o : Int32 × tb_Hp} (h : fb_x_pulled a0 a1 a2 w = some o) : tb_Ev tb_P 7 137 (0, tb_ent [.ref a0, .int a1, .int a2], [], w) (some (.int o.1), o.2) := by
  unfold fb_x_pulled at h
  obtain ⟨r, hr⟩ : ∃ r : Option Value × tb_Hp, r = (some (.int o.1), o.2) := ⟨_, rfl⟩
  rw [← hr]
  show tb_Ev tb_P 7 137 (0, [(0, .ref a0), (1, .int a1), (2, .int a2)], [], w) r
  refine tb_Es (k := 1) (st' := (1, [(0, .ref a0), (1, .int a1), (2, .int a2)], [.ref a0], w)) rfl ?_
  obtain ⟨p1, ep1, h⟩ := Option.bind_eq_some_iff.mp h
  refine tb_e_gN rfl ep1 ?_
  obtain ⟨p2, ep2, h⟩ := Option.bind_eq_some_iff.mp h
  refine tb_e_gN rfl ep2 ?_
  refine tb_Es (k := 1) (st' := (4, [(0, .ref a0), (1, .int a1), (2, .int a2)], [.int a1, .ref p2], w)) rfl ?_
  obtain ⟨x3, ex3, h⟩ := Option.bind_eq_some_iff.mp h
  obtain ⟨hkx3, hcall⟩ := tb_on_some ex3
  refine tb_e_cv (v := some (.int x3.1)) rfl (Or.inl ⟨_, rfl⟩) rfl rfl (Nat.le_of_ble_eq_true rfl) rfl (Nat.le_of_ble_eq_true rfl) hkx3 ((dc_s_isLine hcall).up (by decide)) ?_
  refine tb_b_ieq rfl (fun hc => ?_) (fun hc => ?_)
  · rw [if_pos hc] at h
    refine tb_Es (k := 1) (st' := (12, [(0, .ref a0), (1, .int a1), (2, .int a2)], [.int (-1)], x3.2)) rfl ?_
    cases h
    subst hr
    exact tb_Er rfl rfl
  · rw [if_neg hc] at h
    refine tb_Es (k := 3) (st' := (9, [(0, .ref a0), (1, .int a1), (2, .int a2)], [.int 1, .int 0, .int a2], x3.2)) rfl ?_
    obtain ⟨x4, ex4, h⟩ := Option.bind_eq_some_iff.mp h
    have hcall := ex4
    refine tb_e_cs (v := some (.int x4.1)) rfl rfl rfl (Nat.le_of_ble_eq_true rfl) rfl (Nat.le_of_ble_eq_true rfl) ((dc_x_within hcall).up (by decide)) ?_
    refine tb_b_ine rfl (fun hc => ?_) (fun hc => ?_)
    · rw [if_pos hc] at h
      refine tb_Es (k := 1) (st' := (12, [(0, .ref a0), (1, .int a1), (2, .int a2)], [.int (-1)], x4.2)) rfl ?_
      cases h
      subst hr
      exact tb_Er rfl rfl
    · rw [if_neg hc] at h
      refine tb_Es (k := 1) (st' := (14, [(0, .ref a0), (1, .int a1), (2, .int a2)], [.ref a0], x4.2)) rfl ?_
      obtain ⟨p5, ep5, h⟩ := Option.bind_eq_some_iff.mp h
      refine tb_e_gN rfl ep5 ?_
      refine tb_Es (k := 1) (st' := (16, [(0, .ref a0), (1, .int a1), (2, .int a2)], [.ref a0, .ref p5], x4.2)) rfl ?_
      obtain ⟨p6, ep6, h⟩ := Option.bind_eq_some_iff.mp h
      refine tb_e_gN rfl ep6 ?_
      refine tb_Es (k := 1) (st' := (18, [(0, .ref a0), (1, .int a1), (2, .int a2)], [.ref a0, .ref p6, .ref p5], x4.2)) rfl ?_
      obtain ⟨x7, ex7, h⟩ := Option.bind_eq_some_iff.mp h
      obtain ⟨hkx7, hcall⟩ := tb_on_some ex7
      refine tb_e_cv (v := some (va_rf x7.1)) rfl (Or.inl ⟨_, rfl⟩) rfl rfl (Nat.le_of_ble_eq_true rfl) rfl (Nat.le_of_ble_eq_true rfl) hkx7 ((dc_x_ruleInForce hcall).up (by decide)) ?_
      refine tb_Es (k := 1) (st' := (20, [(0, .ref a0), (1, .int a1), (2, .int a2)], [.int a1, va_rf x7.1, .ref p6, .ref p5], x7.2)) rfl ?_
      obtain ⟨x8, ex8, h⟩ := Option.bind_eq_some_iff.mp h
      obtain ⟨hkx8, hcall⟩ := tb_on_some ex8
      refine tb_e_cv (v := none) rfl (Or.inl ⟨_, rfl⟩) rfl rfl (Nat.le_of_ble_eq_true rfl) rfl (by simp [tb_catq, Value.category]; try decide) hkx8 ((dc_so_findPulls hcall).up (by decide)) ?_
      refine tb_Es (k := 1) (st' := (22, [(0, .ref a0), (1, .int a1), (2, .int a2)], [.int a2], x8)) rfl ?_
      refine tb_b_ine rfl (fun hc => ?_) (fun hc => ?_)
      · rw [if_pos hc] at h
        refine tb_Es (k := 1) (st' := (24, [(0, .ref a0), (1, .int a1), (2, .int a2)], [.ref a0], x8)) rfl ?_
        obtain ⟨p9, ep9, h⟩ := Option.bind_eq_some_iff.mp h
        refine tb_e_gN rfl ep9 ?_
        obtain ⟨x10, ex10, h⟩ := Option.bind_eq_some_iff.mp h
        refine tb_e_gI rfl ex10 ?_
        refine tb_Es (k := 1) (st' := (30, [(0, .ref a0), (1, .int a1), (2, .int a2)], [.int x10], x8)) rfl ?_
        cases h
        subst hr
        exact tb_Er rfl rfl
      · rw [if_neg hc] at h
        refine tb_Es (k := 1) (st' := (28, [(0, .ref a0), (1, .int a1), (2, .int a2)], [.ref a0], x8)) rfl ?_
        obtain ⟨p11, ep11, h⟩ := Option.bind_eq_some_iff.mp h
        refine tb_e_gN rfl ep11 ?_
        obtain ⟨x12, ex12, h⟩ := Option.bind_eq_some_iff.mp h
        refine tb_e_gI rfl ex12 ?_
        cases h
        subst hr
        exact tb_Er rfl rfl
/-! TannerBunting.ruled(I)I -/
def fb_x_ruled (a0 : Nat) (a1 : Int32) (w : tb_Hp) : Option (Int32 × tb_Hp) := (tb_gN 21 5 a0 w).bind fun p1 => (tb_on 15 p1 w (fb_sc_isEmpty p1 w)).bind fun x2 => (if x2.1 = 0 then (fb_x_within a1 0 1 x2.2).bind fun x3 => (if x3.1 = 0 then some (-3, x3.2) else (tb_gN 21 11 a0 x3.2).bind fun p4 => (tb_gN 21 5 a0 x3.2).bind fun p5 => (tb_gN 21 3 a0 x3.2).bind fun p6 => (tb_gI 21 4 a0 x3.2).bind fun x7 => (tb_on 16 p4 x3.2 (fb_so_findRules p4 p5 p6 x7 (-1) x3.2)).bind fun x8 => (if a1 = 0 then (tb_gN 21 11 a0 x8).bind fun p9 => (tb_gI 16 0 p9 x8).bind fun x10 => some (x10, x8) else (tb_gN 21 11 a0 x8).bind fun p11 => (tb_gI 16 1 p11 x8).bind fun x12 => some (x12, x8))) else some (-3, x2.2))
set_option maxHeartbeats 4000000 in
set_option maxRecDepth 20000 in
theorem dc_x_ruled {a0 : Nat} {a1 : Int32} {w : tb_Hp} {o : Int32 × tb_Hp} (h : fb_x_ruled a0 a1 w = some o) : tb_Ev tb_P 7 154 (0, tb_ent [.ref a0, .int a1], [], w) (some (.int o.1), o.2) := by
  unfold fb_x_ruled at h
  obtain ⟨r, hr⟩ : ∃ r : Option Value × tb_Hp, r = (some (.int o.1), o.2) := ⟨_, rfl⟩
  rw [← hr]
  show tb_Ev tb_P 7 154 (0, [(0, .ref a0), (1, .int a1)], [], w) r
  refine tb_Es (k := 1) (st' := (1, [(0, .ref a0), (1, .int a1)], [.ref a0], w)) rfl ?_
  obtain ⟨p1, ep1, h⟩ := Option.bind_eq_some_iff.mp h
  refine tb_e_gN rfl ep1 ?_
  obtain ⟨x2, ex2, h⟩ := Option.bind_eq_some_iff.mp h
  obtain ⟨hkx2, hcall⟩ := tb_on_some ex2
  refine tb_e_cv (v := some (.int x2.1)) rfl (Or.inl ⟨_, rfl⟩) rfl rfl (Nat.le_of_ble_eq_true rfl) rfl (Nat.le_of_ble_eq_true rfl) hkx2 ((dc_sc_isEmpty hcall).up (by decide)) ?_
  refine tb_b_ine rfl (fun hc => ?_) (fun hc => ?_)
  · rw [if_pos hc] at h
    refine tb_Es (k := 3) (st' := (7, [(0, .ref a0), (1, .int a1)], [.int 1, .int 0, .int a1], x2.2)) rfl ?_
    obtain ⟨x3, ex3, h⟩ := Option.bind_eq_some_iff.mp h
    have hcall := ex3
    refine tb_e_cs (v := some (.int x3.1)) rfl rfl rfl (Nat.le_of_ble_eq_true rfl) rfl (Nat.le_of_ble_eq_true rfl) ((dc_x_within hcall).up (by decide)) ?_
    refine tb_b_ine rfl (fun hc => ?_) (fun hc => ?_)
    · rw [if_pos hc] at h
      refine tb_Es (k := 1) (st' := (10, [(0, .ref a0), (1, .int a1)], [.int (-3)], x3.2)) rfl ?_
      cases h
      subst hr
      exact tb_Er rfl rfl
    · rw [if_neg hc] at h
      refine tb_Es (k := 1) (st' := (12, [(0, .ref a0), (1, .int a1)], [.ref a0], x3.2)) rfl ?_
      obtain ⟨p4, ep4, h⟩ := Option.bind_eq_some_iff.mp h
      refine tb_e_gN rfl ep4 ?_
      refine tb_Es (k := 1) (st' := (14, [(0, .ref a0), (1, .int a1)], [.ref a0, .ref p4], x3.2)) rfl ?_
      obtain ⟨p5, ep5, h⟩ := Option.bind_eq_some_iff.mp h
      refine tb_e_gN rfl ep5 ?_
      refine tb_Es (k := 1) (st' := (16, [(0, .ref a0), (1, .int a1)], [.ref a0, .ref p5, .ref p4], x3.2)) rfl ?_
      obtain ⟨p6, ep6, h⟩ := Option.bind_eq_some_iff.mp h
      refine tb_e_gN rfl ep6 ?_
      refine tb_Es (k := 1) (st' := (18, [(0, .ref a0), (1, .int a1)], [.ref a0, .ref p6, .ref p5, .ref p4], x3.2)) rfl ?_
      obtain ⟨x7, ex7, h⟩ := Option.bind_eq_some_iff.mp h
      refine tb_e_gI rfl ex7 ?_
      refine tb_Es (k := 1) (st' := (20, [(0, .ref a0), (1, .int a1)], [.int (-1), .int x7, .ref p6, .ref p5, .ref p4], x3.2)) rfl ?_
      obtain ⟨x8, ex8, h⟩ := Option.bind_eq_some_iff.mp h
      obtain ⟨hkx8, hcall⟩ := tb_on_some ex8
      refine tb_e_cv (v := none) rfl (Or.inl ⟨_, rfl⟩) rfl rfl (Nat.le_of_ble_eq_true rfl) rfl (Nat.le_of_ble_eq_true rfl) hkx8 ((dc_so_findRules hcall).up (by decide)) ?_
      refine tb_Es (k := 1) (st' := (22, [(0, .ref a0), (1, .int a1)], [.int a1], x8)) rfl ?_
      refine tb_b_ine rfl (fun hc => ?_) (fun hc => ?_)
      · rw [if_pos hc] at h
        refine tb_Es (k := 1) (st' := (24, [(0, .ref a0), (1, .int a1)], [.ref a0], x8)) rfl ?_
        obtain ⟨p9, ep9, h⟩ := Option.bind_eq_some_iff.mp h
        refine tb_e_gN rfl ep9 ?_
        obtain ⟨x10, ex10, h⟩ := Option.bind_eq_some_iff.mp h
        refine tb_e_gI rfl ex10 ?_
        refine tb_Es (k := 1) (st' := (30, [(0, .ref a0), (1, .int a1)], [.int x10], x8)) rfl ?_
        cases h
        subst hr
        exact tb_Er rfl rfl
      · rw [if_neg hc] at h
        refine tb_Es (k := 1) (st' := (28, [(0, .ref a0), (1, .int a1)], [.ref a0], x8)) rfl ?_
        obtain ⟨p11, ep11, h⟩ := Option.bind_eq_some_iff.mp h
        refine tb_e_gN rfl ep11 ?_
        obtain ⟨x12, ex12, h⟩ := Option.bind_eq_some_iff.mp h
        refine tb_e_gI rfl ex12 ?_
        cases h
        subst hr
        exact tb_Er rfl rfl
  · rw [if_neg hc] at h
    refine tb_Es (k := 1) (st' := (10, [(0, .ref a0), (1, .int a1)], [.int (-3)], x2.2)) rfl ?_
    cases h
    subst hr
    exact tb_Er rfl rfl
/-! TannerBunting.look(II)I -/
def fb_x_look (a0 : Nat) (a1 : Int32) (a2 : Int32) (w : tb_Hp) : Option (Int32 × tb_Hp) := (tb_gN 21 5 a0 w).bind fun p1 => (tb_on 15 p1 w (fb_sc_isEmpty p1 w)).bind fun x2 => (if x2.1 = 0 then (fb_x_within a1 0 60 x2.2).bind fun x3 => (if x3.1 = 0 then some (-1, x3.2) else (fb_x_within a2 0 1 x3.2).bind fun x4 => (if x4.1 = 0 then some (-1, x4.2) else (tb_gN 21 11 a0 x4.2).bind fun p5 => (tb_gN 21 5 a0 x4.2).bind fun p6 => (tb_gN 21 3 a0 x4.2).bind fun p7 => (tb_gI 21 4 a0 x4.2).bind fun x8 => (tb_on 16 p5 x4.2 (fb_so_findRules p5 p6 p7 x8 a1 x4.2)).bind fun x9 => (tb_gN 21 11 a0 x9).bind fun p10 => (tb_gI 16 0 p10 x9).bind fun x11 => (if x11 = 0 then some (-2, x9) else (tb_gN 21 11 a0 x9).bind fun p12 => (tb_gN 21 5 a0 x9).bind fun p13 => (tb_gN 15 1 p13 x9).bind fun p14 => (tb_on 17 p14 x9 (fb_s_houses p14 x9)).bind fun x15 => (tb_on 16 p12 x15.2 (fb_so_bestParting p12 x15.1 x15.2)).bind fun x16 => (if a2 = 0 then some (x16.1, x16.2) else (tb_gN 21 11 a0 x16.2).bind fun p17 => (tb_on 16 p17 x16.2 (fb_so_mostAlike p17 x16.1 x16.2)).bind fun x18 => some (x18.1, x18.2))))) else some (-1, x2.2))
set_option maxHeartbeats 4000000 in
set_option maxRecDepth 20000 in
theorem dc_x_look {a0 : Nat} {a1 : Int32} {a2 : Int32} {w : tb_Hp} {o : Int32 × tb_Hp} (h : fb_x_look a0 a1 a2 w = some o) : tb_Ev tb_P 7 157 (0, tb_ent [.ref a0, .int a1, .int a2], [], w) (some (.int o.1), o.2) := by
  unfold fb_x_look at h
  obtain ⟨r, hr⟩ : ∃ r : Option Value × tb_Hp, r = (some (.int o.1), o.2) := ⟨_, rfl⟩
  rw [← hr]
  show tb_Ev tb_P 7 157 (0, [(0, .ref a0), (1, .int a1), (2, .int a2)], [], w) r
  refine tb_Es (k := 1) (st' := (1, [(0, .ref a0), (1, .int a1), (2, .int a2)], [.ref a0], w)) rfl ?_
  obtain ⟨p1, ep1, h⟩ := Option.bind_eq_some_iff.mp h
  refine tb_e_gN rfl ep1 ?_
  obtain ⟨x2, ex2, h⟩ := Option.bind_eq_some_iff.mp h
  obtain ⟨hkx2, hcall⟩ := tb_on_some ex2
  refine tb_e_cv (v := some (.int x2.1)) rfl (Or.inl ⟨_, rfl⟩) rfl rfl (Nat.le_of_ble_eq_true rfl) rfl (Nat.le_of_ble_eq_true rfl) hkx2 ((dc_sc_isEmpty hcall).up (by decide)) ?_
  refine tb_b_ine rfl (fun hc => ?_) (fun hc => ?_)
  · rw [if_pos hc] at h
    refine tb_Es (k := 3) (st' := (7, [(0, .ref a0), (1, .int a1), (2, .int a2)], [.int 60, .int 0, .int a1], x2.2)) rfl ?_
    obtain ⟨x3, ex3, h⟩ := Option.bind_eq_some_iff.mp h
    have hcall := ex3
    refine tb_e_cs (v := some (.int x3.1)) rfl rfl rfl (Nat.le_of_ble_eq_true rfl) rfl (Nat.le_of_ble_eq_true rfl) ((dc_x_within hcall).up (by decide)) ?_
    refine tb_b_ieq rfl (fun hc => ?_) (fun hc => ?_)
    · rw [if_pos hc] at h
      refine tb_Es (k := 1) (st' := (15, [(0, .ref a0), (1, .int a1), (2, .int a2)], [.int (-1)], x3.2)) rfl ?_
      cases h
      subst hr
      exact tb_Er rfl rfl
    · rw [if_neg hc] at h
      refine tb_Es (k := 3) (st' := (12, [(0, .ref a0), (1, .int a1), (2, .int a2)], [.int 1, .int 0, .int a2], x3.2)) rfl ?_
      obtain ⟨x4, ex4, h⟩ := Option.bind_eq_some_iff.mp h
      have hcall := ex4
      refine tb_e_cs (v := some (.int x4.1)) rfl rfl rfl (Nat.le_of_ble_eq_true rfl) rfl (Nat.le_of_ble_eq_true rfl) ((dc_x_within hcall).up (by decide)) ?_
      refine tb_b_ine rfl (fun hc => ?_) (fun hc => ?_)
      · rw [if_pos hc] at h
        refine tb_Es (k := 1) (st' := (15, [(0, .ref a0), (1, .int a1), (2, .int a2)], [.int (-1)], x4.2)) rfl ?_
        cases h
        subst hr
        exact tb_Er rfl rfl
      · rw [if_neg hc] at h
        refine tb_Es (k := 1) (st' := (17, [(0, .ref a0), (1, .int a1), (2, .int a2)], [.ref a0], x4.2)) rfl ?_
        obtain ⟨p5, ep5, h⟩ := Option.bind_eq_some_iff.mp h
        refine tb_e_gN rfl ep5 ?_
        refine tb_Es (k := 1) (st' := (19, [(0, .ref a0), (1, .int a1), (2, .int a2)], [.ref a0, .ref p5], x4.2)) rfl ?_
        obtain ⟨p6, ep6, h⟩ := Option.bind_eq_some_iff.mp h
        refine tb_e_gN rfl ep6 ?_
        refine tb_Es (k := 1) (st' := (21, [(0, .ref a0), (1, .int a1), (2, .int a2)], [.ref a0, .ref p6, .ref p5], x4.2)) rfl ?_
        obtain ⟨p7, ep7, h⟩ := Option.bind_eq_some_iff.mp h
        refine tb_e_gN rfl ep7 ?_
        refine tb_Es (k := 1) (st' := (23, [(0, .ref a0), (1, .int a1), (2, .int a2)], [.ref a0, .ref p7, .ref p6, .ref p5], x4.2)) rfl ?_
        obtain ⟨x8, ex8, h⟩ := Option.bind_eq_some_iff.mp h
        refine tb_e_gI rfl ex8 ?_
        refine tb_Es (k := 1) (st' := (25, [(0, .ref a0), (1, .int a1), (2, .int a2)], [.int a1, .int x8, .ref p7, .ref p6, .ref p5], x4.2)) rfl ?_
        obtain ⟨x9, ex9, h⟩ := Option.bind_eq_some_iff.mp h
        obtain ⟨hkx9, hcall⟩ := tb_on_some ex9
        refine tb_e_cv (v := none) rfl (Or.inl ⟨_, rfl⟩) rfl rfl (Nat.le_of_ble_eq_true rfl) rfl (Nat.le_of_ble_eq_true rfl) hkx9 ((dc_so_findRules hcall).up (by decide)) ?_
        refine tb_Es (k := 1) (st' := (27, [(0, .ref a0), (1, .int a1), (2, .int a2)], [.ref a0], x9)) rfl ?_
        obtain ⟨p10, ep10, h⟩ := Option.bind_eq_some_iff.mp h
        refine tb_e_gN rfl ep10 ?_
        obtain ⟨x11, ex11, h⟩ := Option.bind_eq_some_iff.mp h
        refine tb_e_gI rfl ex11 ?_
        refine tb_b_ine rfl (fun hc => ?_) (fun hc => ?_)
        · rw [if_pos hc] at h
          refine tb_Es (k := 1) (st' := (31, [(0, .ref a0), (1, .int a1), (2, .int a2)], [.int (-2)], x9)) rfl ?_
          cases h
          subst hr
          exact tb_Er rfl rfl
        · rw [if_neg hc] at h
          refine tb_Es (k := 1) (st' := (33, [(0, .ref a0), (1, .int a1), (2, .int a2)], [.ref a0], x9)) rfl ?_
          obtain ⟨p12, ep12, h⟩ := Option.bind_eq_some_iff.mp h
          refine tb_e_gN rfl ep12 ?_
          refine tb_Es (k := 1) (st' := (35, [(0, .ref a0), (1, .int a1), (2, .int a2)], [.ref a0, .ref p12], x9)) rfl ?_
          obtain ⟨p13, ep13, h⟩ := Option.bind_eq_some_iff.mp h
          refine tb_e_gN rfl ep13 ?_
          obtain ⟨p14, ep14, h⟩ := Option.bind_eq_some_iff.mp h
          refine tb_e_gN rfl ep14 ?_
          obtain ⟨x15, ex15, h⟩ := Option.bind_eq_some_iff.mp h
          obtain ⟨hkx15, hcall⟩ := tb_on_some ex15
          refine tb_e_cv (v := some (.int x15.1)) rfl (Or.inl ⟨_, rfl⟩) rfl rfl (Nat.le_of_ble_eq_true rfl) rfl (Nat.le_of_ble_eq_true rfl) hkx15 ((dc_s_houses hcall).up (by decide)) ?_
          obtain ⟨x16, ex16, h⟩ := Option.bind_eq_some_iff.mp h
          obtain ⟨hkx16, hcall⟩ := tb_on_some ex16
          refine tb_e_cv (v := some (.int x16.1)) rfl (Or.inl ⟨_, rfl⟩) rfl rfl (Nat.le_of_ble_eq_true rfl) rfl (Nat.le_of_ble_eq_true rfl) hkx16 ((dc_so_bestParting hcall).up (by decide)) ?_
          refine tb_Es (k := 2) (st' := (41, [(3, .int x16.1), (0, .ref a0), (1, .int a1), (2, .int a2)], [.int a2], x16.2)) rfl ?_
          refine tb_b_ine rfl (fun hc => ?_) (fun hc => ?_)
          · rw [if_pos hc] at h
            refine tb_Es (k := 2) (st' := (48, [(3, .int x16.1), (0, .ref a0), (1, .int a1), (2, .int a2)], [.int x16.1], x16.2)) rfl ?_
            cases h
            subst hr
            exact tb_Er rfl rfl
          · rw [if_neg hc] at h
            refine tb_Es (k := 1) (st' := (45, [(3, .int x16.1), (0, .ref a0), (1, .int a1), (2, .int a2)], [.ref a0], x16.2)) rfl ?_
            obtain ⟨p17, ep17, h⟩ := Option.bind_eq_some_iff.mp h
            refine tb_e_gN rfl ep17 ?_
            refine tb_Es (k := 1) (st' := (47, [(3, .int x16.1), (0, .ref a0), (1, .int a1), (2, .int a2)], [.int x16.1, .ref p17], x16.2)) rfl ?_
            obtain ⟨x18, ex18, h⟩ := Option.bind_eq_some_iff.mp h
            obtain ⟨hkx18, hcall⟩ := tb_on_some ex18
            refine tb_e_cv (v := some (.int x18.1)) rfl (Or.inl ⟨_, rfl⟩) rfl rfl (Nat.le_of_ble_eq_true rfl) rfl (Nat.le_of_ble_eq_true rfl) hkx18 ((dc_so_mostAlike hcall).up (by decide)) ?_
            cases h
            subst hr
            exact tb_Er rfl rfl
  · rw [if_neg hc] at h
    refine tb_Es (k := 1) (st' := (15, [(0, .ref a0), (1, .int a1), (2, .int a2)], [.int (-1)], x2.2)) rfl ?_
    cases h
    subst hr
    exact tb_Er rfl rfl
/-! TannerBuntingModel.fact()Z -/
def fj_m_fact_j42 (k : Nat → Int32 → tb_Hp → Option (Int32 × tb_Hp)) (v0 : Nat) (w : tb_Hp) : Option (Int32 × tb_Hp) := (tb_on 22 v0 w (fb_m_compare v0 w)).bind fun x1 => (tb_z x1.1 x1.2).bind fun z2 => some (z2)
set_option maxHeartbeats 4000000 in
set_option maxRecDepth 20000 in
theorem dj_m_fact_j42 (k : Nat → Int32 → tb_Hp → Option (Int32 × tb_Hp)) (v0 : Nat) (w : tb_Hp) (o : Int32 × tb_Hp) (h : fj_m_fact_j42 k v0 w = some o) (r : Option Value × tb_Hp) (hx : r = (some (.int o.1), o.2)) (hk : ∀ (v0 : Nat) (v1 : Int32) (w : tb_Hp), k v0 v1 w = some o → tb_Ev tb_P 7 200 (3, [(0, .ref v0), (1, .int v1)], [], w) r) : tb_Ev tb_P 7 200 (46, [(0, .ref v0)], [], w) r := by
  unfold fj_m_fact_j42 at h
  refine tb_Es (k := 1) (st' := (47, [(0, .ref v0)], [.ref v0], w)) rfl ?_
  obtain ⟨x1, ex1, h⟩ := Option.bind_eq_some_iff.mp h
  obtain ⟨hkx1, hcall⟩ := tb_on_some ex1
  refine tb_e_cv (v := some (.int x1.1)) rfl (Or.inl ⟨_, rfl⟩) rfl rfl (Nat.le_of_ble_eq_true rfl) rfl (Nat.le_of_ble_eq_true rfl) hkx1 ((dc_m_compare hcall).up (by decide)) ?_
  obtain ⟨z2, ez2, h⟩ := Option.bind_eq_some_iff.mp h
  cases h
  try dsimp only at hx
  subst hx
  exact tb_r_z rfl ez2
def fj_m_fact_j31 (k : Nat → Int32 → tb_Hp → Option (Int32 × tb_Hp)) (w : tb_Hp) : Option (Int32 × tb_Hp) := some ((0, w))
set_option maxHeartbeats 4000000 in
set_option maxRecDepth 20000 in
theorem dj_m_fact_j31 (k : Nat → Int32 → tb_Hp → Option (Int32 × tb_Hp)) (w : tb_Hp) (o : Int32 × tb_Hp) (h : fj_m_fact_j31 k  w = some o) (r : Option Value × tb_Hp) (hx : r = (some (.int o.1), o.2)) (hk : ∀ (v0 : Nat) (v1 : Int32) (w : tb_Hp), k v0 v1 w = some o → tb_Ev tb_P 7 200 (3, [(0, .ref v0), (1, .int v1)], [], w) r) : tb_Ev tb_P 7 200 (34, [], [], w) r := by
  unfold fj_m_fact_j31 at h
  refine tb_Es (k := 1) (st' := (35, [], [.int 0], w)) rfl ?_
  cases h
  try dsimp only at hx
  subst hx
  exact tb_Er rfl rfl
def fj_m_fact_j17 (k : Nat → Int32 → tb_Hp → Option (Int32 × tb_Hp)) (w : tb_Hp) : Option (Int32 × tb_Hp) := some ((0, w))
set_option maxHeartbeats 4000000 in
set_option maxRecDepth 20000 in
theorem dj_m_fact_j17 (k : Nat → Int32 → tb_Hp → Option (Int32 × tb_Hp)) (w : tb_Hp) (o : Int32 × tb_Hp) (h : fj_m_fact_j17 k  w = some o) (r : Option Value × tb_Hp) (hx : r = (some (.int o.1), o.2)) (hk : ∀ (v0 : Nat) (v1 : Int32) (w : tb_Hp), k v0 v1 w = some o → tb_Ev tb_P 7 200 (3, [(0, .ref v0), (1, .int v1)], [], w) r) : tb_Ev tb_P 7 200 (19, [], [], w) r := by
  unfold fj_m_fact_j17 at h
  refine tb_Es (k := 1) (st' := (20, [], [.int 0], w)) rfl ?_
  cases h
  try dsimp only at hx
  subst hx
  exact tb_Er rfl rfl
def fl_m_fact_2 : Nat → Nat → Int32 → tb_Hp → Option (Int32 × tb_Hp)
  | 0, _, _, _ => none
  | n + 1, v0, v1, w => (if v1 = 0 then fj_m_fact_j42 (fl_m_fact_2 n) v0 w else (tb_on 22 v0 w (fb_m_see v0 w)).bind fun x3 => (tb_on 22 v0 x3.2 (fb_m_isWord v0 7237492 x3.2)).bind fun x4 => (if x4.1 = 0 then (if x3.1 = 91 then (tb_on 22 v0 x4.2 (fb_m_opens v0 91 x4.2)).bind fun x5 => (if x5.1 = 0 then fj_m_fact_j31 (fl_m_fact_2 n)  x5.2 else (tb_gI 22 8 v0 x5.2).bind fun x6 => (tb_pI 22 8 v0 (x6 + 1) x5.2).bind fun w7 => fl_m_fact_2 n v0 1 w7) else fl_m_fact_2 n v0 0 x4.2) else (tb_on 22 v0 x4.2 (fb_m_opens v0 11 x4.2)).bind fun x8 => (if x8.1 = 0 then fj_m_fact_j17 (fl_m_fact_2 n)  x8.2 else (tb_on 22 v0 x8.2 (fb_m_passWord v0 x8.2)).bind fun x9 => fl_m_fact_2 n v0 1 x9)))
set_option maxHeartbeats 4000000 in
set_option maxRecDepth 20000 in
theorem dl_m_fact_2 : ∀ (n : Nat) (v0 : Nat) (v1 : Int32) (w : tb_Hp) (o : Int32 × tb_Hp), fl_m_fact_2 n v0 v1 w = some o → ∀ (r : Option Value × tb_Hp), r = (some (.int o.1), o.2) → tb_Ev tb_P 7 200 (3, [(0, .ref v0), (1, .int v1)], [], w) r := by
  intro n
  induction n with
  | zero =>
    intro v0 v1 w o h
    cases h
  | succ n ih =>
    intro v0 v1 w o h r hx
    unfold fl_m_fact_2 at h
    refine tb_Es (k := 1) (st' := (4, [(0, .ref v0), (1, .int v1)], [.int v1], w)) rfl ?_
    refine tb_b_ieq rfl (fun hc => ?_) (fun hc => ?_)
    · rw [if_pos hc] at h
      refine tb_Es (k := 1) (st' := (46, [(0, .ref v0)], [], w)) rfl ?_
      exact dj_m_fact_j42 (fl_m_fact_2 n) v0 w _ h r hx (fun v0_ v1_ w_ h_ => ih v0_ v1_ w_ _ h_ r hx)
    · rw [if_neg hc] at h
      refine tb_Es (k := 3) (st' := (8, [(1, .int 0), (0, .ref v0)], [.ref v0], w)) rfl ?_
      obtain ⟨x3, ex3, h⟩ := Option.bind_eq_some_iff.mp h
      obtain ⟨hkx3, hcall⟩ := tb_on_some ex3
      refine tb_e_cv (v := some (.int x3.1)) rfl (Or.inl ⟨_, rfl⟩) rfl rfl (Nat.le_of_ble_eq_true rfl) rfl (Nat.le_of_ble_eq_true rfl) hkx3 ((dc_m_see hcall).up (by decide)) ?_
      refine tb_Es (k := 3) (st' := (12, [(2, .int x3.1), (1, .int 0), (0, .ref v0)], [.long 7237492, .ref v0], x3.2)) rfl ?_
      obtain ⟨x4, ex4, h⟩ := Option.bind_eq_some_iff.mp h
      obtain ⟨hkx4, hcall⟩ := tb_on_some ex4
      refine tb_e_cv (v := some (.int x4.1)) rfl (Or.inl ⟨_, rfl⟩) rfl rfl (Nat.le_of_ble_eq_true rfl) rfl (Nat.le_of_ble_eq_true rfl) hkx4 ((dc_m_isWord hcall).up (by decide)) ?_
      refine tb_b_ieq rfl (fun hc => ?_) (fun hc => ?_)
      · rw [if_pos hc] at h
        refine tb_Es (k := 2) (st' := (28, [(2, .int x3.1), (1, .int 0), (0, .ref v0)], [.int 91, .int x3.1], x4.2)) rfl ?_
        refine tb_b_cne rfl (fun hc => ?_) (fun hc => ?_)
        · rw [if_pos hc] at h
          refine tb_Es (k := 2) (st' := (31, [(2, .int x3.1), (1, .int 0), (0, .ref v0)], [.int 91, .ref v0], x4.2)) rfl ?_
          obtain ⟨x5, ex5, h⟩ := Option.bind_eq_some_iff.mp h
          obtain ⟨hkx5, hcall⟩ := tb_on_some ex5
          refine tb_e_cv (v := some (.int x5.1)) rfl (Or.inl ⟨_, rfl⟩) rfl rfl (Nat.le_of_ble_eq_true rfl) rfl (Nat.le_of_ble_eq_true rfl) hkx5 ((dc_m_opens hcall).up (by decide)) ?_
          refine tb_b_ine rfl (fun hc => ?_) (fun hc => ?_)
          · rw [if_pos hc] at h
            refine tb_Es (k := 1) (st' := (34, [], [], x5.2)) rfl ?_
            exact dj_m_fact_j31 (fl_m_fact_2 n)  x5.2 _ h r hx (fun v0_ v1_ w_ h_ => ih v0_ v1_ w_ _ h_ r hx)
          · rw [if_neg hc] at h
            refine tb_Es (k := 2) (st' := (38, [(2, .int x3.1), (1, .int 0), (0, .ref v0)], [.ref v0, .ref v0], x5.2)) rfl ?_
            obtain ⟨x6, ex6, h⟩ := Option.bind_eq_some_iff.mp h
            refine tb_e_gI rfl ex6 ?_
            refine tb_Es (k := 2) (st' := (41, [(2, .int x3.1), (1, .int 0), (0, .ref v0)], [.int (x6 + 1), .ref v0], x5.2)) rfl ?_
            obtain ⟨w7, ew7, h⟩ := Option.bind_eq_some_iff.mp h
            refine tb_e_pI rfl ew7 ?_
            refine tb_Es (k := 4) (st' := (3, [(0, .ref v0), (1, .int 1)], [], w7)) rfl ?_
            exact ih v0 1 w7 _ h r hx
        · rw [if_neg hc] at h
          refine tb_Es (k := 2) (st' := (3, [(0, .ref v0), (1, .int 0)], [], x4.2)) rfl ?_
          exact ih v0 0 x4.2 _ h r hx
      · rw [if_neg hc] at h
        refine tb_Es (k := 2) (st' := (16, [(2, .int x3.1), (1, .int 0), (0, .ref v0)], [.int 11, .ref v0], x4.2)) rfl ?_
        obtain ⟨x8, ex8, h⟩ := Option.bind_eq_some_iff.mp h
        obtain ⟨hkx8, hcall⟩ := tb_on_some ex8
        refine tb_e_cv (v := some (.int x8.1)) rfl (Or.inl ⟨_, rfl⟩) rfl rfl (Nat.le_of_ble_eq_true rfl) rfl (Nat.le_of_ble_eq_true rfl) hkx8 ((dc_m_opens hcall).up (by decide)) ?_
        refine tb_b_ine rfl (fun hc => ?_) (fun hc => ?_)
        · rw [if_pos hc] at h
          refine tb_Es (k := 1) (st' := (19, [], [], x8.2)) rfl ?_
          exact dj_m_fact_j17 (fl_m_fact_2 n)  x8.2 _ h r hx (fun v0_ v1_ w_ h_ => ih v0_ v1_ w_ _ h_ r hx)
        · rw [if_neg hc] at h
          refine tb_Es (k := 1) (st' := (22, [(2, .int x3.1), (1, .int 0), (0, .ref v0)], [.ref v0], x8.2)) rfl ?_
          obtain ⟨x9, ex9, h⟩ := Option.bind_eq_some_iff.mp h
          obtain ⟨hkx9, hcall⟩ := tb_on_some ex9
          refine tb_e_cv (v := none) rfl (Or.inl ⟨_, rfl⟩) rfl rfl (Nat.le_of_ble_eq_true rfl) rfl (Nat.le_of_ble_eq_true rfl) hkx9 ((dc_m_passWord hcall).up (by decide)) ?_
          refine tb_Es (k := 5) (st' := (3, [(0, .ref v0), (1, .int 1)], [], x9)) rfl ?_
          exact ih v0 1 x9 _ h r hx
def fb_m_fact (a0 : Nat) (w : tb_Hp) : Option (Int32 × tb_Hp) := (fl_m_fact_2 1048576 a0 1 w).bind fun o10 => some o10
set_option maxHeartbeats 4000000 in
set_option maxRecDepth 20000 in
theorem dc_m_fact {a0 : Nat} {w : tb_Hp} {o : Int32 × tb_Hp} (h : fb_m_fact a0 w = some o) : tb_Ev tb_P 7 200 (0, tb_ent [.ref a0], [], w) (some (.int o.1), o.2) := by
  unfold fb_m_fact at h
  obtain ⟨r, hr⟩ : ∃ r : Option Value × tb_Hp, r = (some (.int o.1), o.2) := ⟨_, rfl⟩
  rw [← hr]
  show tb_Ev tb_P 7 200 (0, [(0, .ref a0)], [], w) r
  refine tb_Es (k := 3) (st' := (3, [(0, .ref a0), (1, .int 1)], [], w)) rfl ?_
  obtain ⟨o10, eo10, h⟩ := Option.bind_eq_some_iff.mp h
  refine dl_m_fact_2 _ a0 1 w _ eo10 r ?_
  cases h
  exact hr
/-! TannerBuntingModel.year()I -/
def fb_m_year (a0 : Nat) (w : tb_Hp) : Option (Int32 × tb_Hp) := (tb_on 22 a0 w (fb_m_isStreet a0 w)).bind fun x1 => (if x1.1 = 0 then some (-1, x1.2) else (tb_gN 22 20 a0 x1.2).bind fun p2 => (tb_lI [1, 9] p2 10 x1.2).bind fun x3 => (if x3 = 999 then some (-1, x1.2) else (tb_on 22 a0 x1.2 (fb_m_keepsAct a0 x1.2)).bind fun x4 => (tb_on 22 a0 x4 (fb_m_passes a0 x4)).bind fun x5 => some (x5.1, x5.2)))
set_option maxHeartbeats 4000000 in
set_option maxRecDepth 20000 in
theorem dc_m_year {a0 : Nat} {w : tb_Hp} {o : Int32 × tb_Hp} (h : fb_m_year a0 w = some o) : tb_Ev tb_P 7 223 (0, tb_ent [.ref a0], [], w) (some (.int o.1), o.2) := by
  unfold fb_m_year at h
  obtain ⟨r, hr⟩ : ∃ r : Option Value × tb_Hp, r = (some (.int o.1), o.2) := ⟨_, rfl⟩
  rw [← hr]
  show tb_Ev tb_P 7 223 (0, [(0, .ref a0)], [], w) r
  refine tb_Es (k := 1) (st' := (1, [(0, .ref a0)], [.ref a0], w)) rfl ?_
  obtain ⟨x1, ex1, h⟩ := Option.bind_eq_some_iff.mp h
  obtain ⟨hkx1, hcall⟩ := tb_on_some ex1
  refine tb_e_cv (v := some (.int x1.1)) rfl (Or.inl ⟨_, rfl⟩) rfl rfl (Nat.le_of_ble_eq_true rfl) rfl (Nat.le_of_ble_eq_true rfl) hkx1 ((dc_m_isStreet hcall).up (by decide)) ?_
  refine tb_b_ieq rfl (fun hc => ?_) (fun hc => ?_)
  · rw [if_pos hc] at h
    refine tb_Es (k := 1) (st' := (10, [(0, .ref a0)], [.int (-1)], x1.2)) rfl ?_
    cases h
    subst hr
    exact tb_Er rfl rfl
  · rw [if_neg hc] at h
    refine tb_Es (k := 1) (st' := (4, [(0, .ref a0)], [.ref a0], x1.2)) rfl ?_
    obtain ⟨p2, ep2, h⟩ := Option.bind_eq_some_iff.mp h
    refine tb_e_gN rfl ep2 ?_
    refine tb_Es (k := 1) (st' := (6, [(0, .ref a0)], [.int 10, .ref p2], x1.2)) rfl ?_
    obtain ⟨x3, ex3, h⟩ := Option.bind_eq_some_iff.mp h
    refine tb_e_lI rfl (Or.inl ⟨rfl, rfl⟩) ex3 ?_
    refine tb_Es (k := 1) (st' := (8, [(0, .ref a0)], [.int 999, .int x3], x1.2)) rfl ?_
    refine tb_b_cne rfl (fun hc => ?_) (fun hc => ?_)
    · rw [if_pos hc] at h
      refine tb_Es (k := 1) (st' := (10, [(0, .ref a0)], [.int (-1)], x1.2)) rfl ?_
      cases h
      subst hr
      exact tb_Er rfl rfl
    · rw [if_neg hc] at h
      refine tb_Es (k := 1) (st' := (12, [(0, .ref a0)], [.ref a0], x1.2)) rfl ?_
      obtain ⟨x4, ex4, h⟩ := Option.bind_eq_some_iff.mp h
      obtain ⟨hkx4, hcall⟩ := tb_on_some ex4
      refine tb_e_cv (v := none) rfl (Or.inl ⟨_, rfl⟩) rfl rfl (Nat.le_of_ble_eq_true rfl) rfl (Nat.le_of_ble_eq_true rfl) hkx4 ((dc_m_keepsAct hcall).up (by decide)) ?_
      refine tb_Es (k := 1) (st' := (14, [(0, .ref a0)], [.ref a0], x4)) rfl ?_
      obtain ⟨x5, ex5, h⟩ := Option.bind_eq_some_iff.mp h
      obtain ⟨hkx5, hcall⟩ := tb_on_some ex5
      refine tb_e_cv (v := some (.int x5.1)) rfl (Or.inl ⟨_, rfl⟩) rfl rfl (Nat.le_of_ble_eq_true rfl) rfl (Nat.le_of_ble_eq_true rfl) hkx5 ((dc_m_passes hcall).up (by decide)) ?_
      cases h
      subst hr
      exact tb_Er rfl rfl
/-! TannerBuntingModel.passesAll(I)V -/
def fl_m_passesAll_2 : Nat → Nat → Int32 → Int32 → tb_Hp → Option (tb_Hp)
  | 0, _, _, _, _ => none
  | n + 1, v0, v1, v2, w => (if v2 < v1 then (tb_on 22 v0 w (fb_m_passes v0 w)).bind fun x1 => fl_m_passesAll_2 n v0 v1 (v2 + 1) x1.2 else some (w))
set_option maxHeartbeats 4000000 in
set_option maxRecDepth 20000 in
theorem dl_m_passesAll_2 : ∀ (n : Nat) (v0 : Nat) (v1 : Int32) (v2 : Int32) (w : tb_Hp) (o : tb_Hp), fl_m_passesAll_2 n v0 v1 v2 w = some o → ∀ (r : Option Value × tb_Hp), tb_Ev tb_P 7 254 (12, [], [], o) r → tb_Ev tb_P 7 254 (3, [(0, .ref v0), (1, .int v1), (2, .int v2)], [], w) r := by
  intro n
  induction n with
  | zero =>
    intro v0 v1 v2 w o h
    cases h
  | succ n ih =>
    intro v0 v1 v2 w o h r hx
    unfold fl_m_passesAll_2 at h
    refine tb_Es (k := 2) (st' := (5, [(0, .ref v0), (1, .int v1), (2, .int v2)], [.int v1, .int v2], w)) rfl ?_
    refine tb_b_cge rfl (fun hc => ?_) (fun hc => ?_)
    · rw [if_pos hc] at h
      refine tb_Es (k := 1) (st' := (7, [(0, .ref v0), (1, .int v1), (2, .int v2)], [.ref v0], w)) rfl ?_
      obtain ⟨x1, ex1, h⟩ := Option.bind_eq_some_iff.mp h
      obtain ⟨hkx1, hcall⟩ := tb_on_some ex1
      refine tb_e_cv (v := some (.int x1.1)) rfl (Or.inl ⟨_, rfl⟩) rfl rfl (Nat.le_of_ble_eq_true rfl) rfl (Nat.le_of_ble_eq_true rfl) hkx1 ((dc_m_passes hcall).up (by decide)) ?_
      refine tb_Es (k := 4) (st' := (3, [(0, .ref v0), (1, .int v1), (2, .int (v2 + 1))], [], x1.2)) rfl ?_
      exact ih v0 v1 (v2 + 1) x1.2 _ h r hx
    · rw [if_neg hc] at h
      refine tb_Es (k := 1) (st' := (12, [], [], w)) rfl ?_
      cases h
      exact hx
def fb_m_passesAll (a0 : Nat) (a1 : Int32) (w : tb_Hp) : Option (tb_Hp) := (fl_m_passesAll_2 1048576 a0 a1 0 w).bind fun o2 => some o2
set_option maxHeartbeats 4000000 in
set_option maxRecDepth 20000 in
theorem dc_m_passesAll {a0 : Nat} {a1 : Int32} {w : tb_Hp} {o : tb_Hp} (h : fb_m_passesAll a0 a1 w = some o) : tb_Ev tb_P 7 254 (0, tb_ent [.ref a0, .int a1], [], w) (none, o) := by
  unfold fb_m_passesAll at h
  obtain ⟨r, hr⟩ : ∃ r : Option Value × tb_Hp, r = (none, o) := ⟨_, rfl⟩
  rw [← hr]
  show tb_Ev tb_P 7 254 (0, [(0, .ref a0), (1, .int a1)], [], w) r
  refine tb_Es (k := 3) (st' := (3, [(0, .ref a0), (1, .int a1), (2, .int 0)], [], w)) rfl ?_
  obtain ⟨o2, eo2, h⟩ := Option.bind_eq_some_iff.mp h
  refine dl_m_passesAll_2 _ a0 a1 0 w _ eo2 r ?_
  cases h
  subst hr
  exact tb_Er rfl rfl
/-! TannerBuntingModel.falls(I)I -/
def fl_m_falls_17 : Nat → Nat → Int32 → Int32 → Int32 → tb_Hp → Option (Nat × Int32 × tb_Hp)
  | 0, _, _, _, _, _ => none
  | n + 1, v0, v1, v2, v3, w => (if v3 < 200 then (if v2 < 0 then (tb_on 22 v0 w (fb_m_passes v0 w)).bind fun x4 => (if x4.1 = 0 then fl_m_falls_17 n v0 v1 v2 (v3 + 1) x4.2 else (if v1 = 0 then (tb_gN 22 20 v0 x4.2).bind fun p5 => (tb_lI [1, 9] p5 10 x4.2).bind fun x6 => fl_m_falls_17 n v0 v1 (x6 - 1) (v3 + 1) x4.2 else (fb_m_leastOf x4.1 x4.2).bind fun x7 => fl_m_falls_17 n v0 v1 x7.1 (v3 + 1) x7.2)) else some ((v0, v2, w))) else some ((v0, v2, w)))
set_option maxHeartbeats 4000000 in
set_option maxRecDepth 20000 in
theorem dl_m_falls_17 : ∀ (n : Nat) (v0 : Nat) (v1 : Int32) (v2 : Int32) (v3 : Int32) (w : tb_Hp) (o : Nat × Int32 × tb_Hp), fl_m_falls_17 n v0 v1 v2 v3 w = some o → ∀ (r : Option Value × tb_Hp), tb_Ev tb_P 7 257 (43, [(0, .ref o.1), (2, .int o.2.1)], [], o.2.2) r → tb_Ev tb_P 7 257 (18, [(0, .ref v0), (1, .int v1), (2, .int v2), (3, .int v3)], [], w) r := by
  intro n
  induction n with
  | zero =>
    intro v0 v1 v2 v3 w o h
    cases h
  | succ n ih =>
    intro v0 v1 v2 v3 w o h r hx
    unfold fl_m_falls_17 at h
    refine tb_Es (k := 2) (st' := (20, [(0, .ref v0), (1, .int v1), (2, .int v2), (3, .int v3)], [.int 200, .int v3], w)) rfl ?_
    refine tb_b_cge rfl (fun hc => ?_) (fun hc => ?_)
    · rw [if_pos hc] at h
      refine tb_Es (k := 1) (st' := (22, [(0, .ref v0), (1, .int v1), (2, .int v2), (3, .int v3)], [.int v2], w)) rfl ?_
      refine tb_b_ige rfl (fun hc => ?_) (fun hc => ?_)
      · rw [if_pos hc] at h
        refine tb_Es (k := 1) (st' := (24, [(0, .ref v0), (1, .int v1), (2, .int v2), (3, .int v3)], [.ref v0], w)) rfl ?_
        obtain ⟨x4, ex4, h⟩ := Option.bind_eq_some_iff.mp h
        obtain ⟨hkx4, hcall⟩ := tb_on_some ex4
        refine tb_e_cv (v := some (.int x4.1)) rfl (Or.inl ⟨_, rfl⟩) rfl rfl (Nat.le_of_ble_eq_true rfl) rfl (Nat.le_of_ble_eq_true rfl) hkx4 ((dc_m_passes hcall).up (by decide)) ?_
        refine tb_Es (k := 2) (st' := (27, [(4, .int x4.1), (0, .ref v0), (1, .int v1), (2, .int v2), (3, .int v3)], [.int x4.1], x4.2)) rfl ?_
        refine tb_b_ieq rfl (fun hc => ?_) (fun hc => ?_)
        · rw [if_pos hc] at h
          refine tb_Es (k := 3) (st' := (18, [(0, .ref v0), (1, .int v1), (2, .int v2), (3, .int (v3 + 1))], [], x4.2)) rfl ?_
          exact ih v0 v1 v2 (v3 + 1) x4.2 _ h r hx
        · rw [if_neg hc] at h
          refine tb_Es (k := 1) (st' := (29, [(4, .int x4.1), (0, .ref v0), (1, .int v1), (2, .int v2), (3, .int v3)], [.int v1], x4.2)) rfl ?_
          refine tb_b_ine rfl (fun hc => ?_) (fun hc => ?_)
          · rw [if_pos hc] at h
            refine tb_Es (k := 1) (st' := (31, [(4, .int x4.1), (0, .ref v0), (1, .int v1), (2, .int v2), (3, .int v3)], [.ref v0], x4.2)) rfl ?_
            obtain ⟨p5, ep5, h⟩ := Option.bind_eq_some_iff.mp h
            refine tb_e_gN rfl ep5 ?_
            refine tb_Es (k := 1) (st' := (33, [(4, .int x4.1), (0, .ref v0), (1, .int v1), (2, .int v2), (3, .int v3)], [.int 10, .ref p5], x4.2)) rfl ?_
            obtain ⟨x6, ex6, h⟩ := Option.bind_eq_some_iff.mp h
            refine tb_e_lI rfl (Or.inl ⟨rfl, rfl⟩) ex6 ?_
            refine tb_Es (k := 7) (st' := (18, [(0, .ref v0), (1, .int v1), (2, .int (x6 - 1)), (3, .int (v3 + 1))], [], x4.2)) rfl ?_
            exact ih v0 v1 (x6 - 1) (v3 + 1) x4.2 _ h r hx
          · rw [if_neg hc] at h
            refine tb_Es (k := 1) (st' := (38, [(4, .int x4.1), (0, .ref v0), (1, .int v1), (2, .int v2), (3, .int v3)], [.int x4.1], x4.2)) rfl ?_
            obtain ⟨x7, ex7, h⟩ := Option.bind_eq_some_iff.mp h
            have hcall := ex7
            refine tb_e_cs (v := some (.int x7.1)) rfl rfl rfl (Nat.le_of_ble_eq_true rfl) rfl (Nat.le_of_ble_eq_true rfl) ((dc_m_leastOf hcall).up (by decide)) ?_
            refine tb_Es (k := 4) (st' := (18, [(0, .ref v0), (1, .int v1), (2, .int x7.1), (3, .int (v3 + 1))], [], x7.2)) rfl ?_
            exact ih v0 v1 x7.1 (v3 + 1) x7.2 _ h r hx
      · rw [if_neg hc] at h
        refine tb_Es (k := 1) (st' := (43, [(0, .ref v0), (2, .int v2)], [], w)) rfl ?_
        cases h
        exact hx
    · rw [if_neg hc] at h
      refine tb_Es (k := 1) (st' := (43, [(0, .ref v0), (2, .int v2)], [], w)) rfl ?_
      cases h
      exact hx
def fb_m_falls (a0 : Nat) (a1 : Int32) (w : tb_Hp) : Option (Int32 × tb_Hp) := (tb_on 22 a0 w (fb_m_isStreet a0 w)).bind fun x1 => (if x1.1 = 0 then some (-1, x1.2) else (fb_m_in (Int32.toInt64 a1) 0 1 x1.2).bind fun x2 => (if x2.1 = 0 then some (-1, x2.2) else (tb_on 22 a0 x2.2 (fb_m_keeps a0 x2.2)).bind fun x3 => (fl_m_falls_17 1048576 a0 a1 (-2) 0 x3).bind fun o8 => (tb_on 22 o8.1 o8.2.2 (fb_m_laysBack o8.1 o8.2.2)).bind fun x9 => some (o8.2.1, x9)))
set_option maxHeartbeats 4000000 in
set_option maxRecDepth 20000 in
theorem dc_m_falls {a0 : Nat} {a1 : Int32} {w : tb_Hp} {o : Int32 × tb_Hp} (h : fb_m_falls a0 a1 w = some o) : tb_Ev tb_P 7 257 (0, tb_ent [.ref a0, .int a1], [], w) (some (.int o.1), o.2) := by
  unfold fb_m_falls at h
  obtain ⟨r, hr⟩ : ∃ r : Option Value × tb_Hp, r = (some (.int o.1), o.2) := ⟨_, rfl⟩
  rw [← hr]
  show tb_Ev tb_P 7 257 (0, [(0, .ref a0), (1, .int a1)], [], w) r
  refine tb_Es (k := 1) (st' := (1, [(0, .ref a0), (1, .int a1)], [.ref a0], w)) rfl ?_
  obtain ⟨x1, ex1, h⟩ := Option.bind_eq_some_iff.mp h
  obtain ⟨hkx1, hcall⟩ := tb_on_some ex1
  refine tb_e_cv (v := some (.int x1.1)) rfl (Or.inl ⟨_, rfl⟩) rfl rfl (Nat.le_of_ble_eq_true rfl) rfl (Nat.le_of_ble_eq_true rfl) hkx1 ((dc_m_isStreet hcall).up (by decide)) ?_
  refine tb_b_ieq rfl (fun hc => ?_) (fun hc => ?_)
  · rw [if_pos hc] at h
    refine tb_Es (k := 1) (st' := (10, [(0, .ref a0), (1, .int a1)], [.int (-1)], x1.2)) rfl ?_
    cases h
    subst hr
    exact tb_Er rfl rfl
  · rw [if_neg hc] at h
    refine tb_Es (k := 4) (st' := (7, [(0, .ref a0), (1, .int a1)], [.long 1, .long 0, .long (Int32.toInt64 a1)], x1.2)) rfl ?_
    obtain ⟨x2, ex2, h⟩ := Option.bind_eq_some_iff.mp h
    have hcall := ex2
    refine tb_e_cs (v := some (.int x2.1)) rfl rfl rfl (Nat.le_of_ble_eq_true rfl) rfl (Nat.le_of_ble_eq_true rfl) ((dc_m_in hcall).up (by decide)) ?_
    refine tb_b_ine rfl (fun hc => ?_) (fun hc => ?_)
    · rw [if_pos hc] at h
      refine tb_Es (k := 1) (st' := (10, [(0, .ref a0), (1, .int a1)], [.int (-1)], x2.2)) rfl ?_
      cases h
      subst hr
      exact tb_Er rfl rfl
    · rw [if_neg hc] at h
      refine tb_Es (k := 3) (st' := (14, [(2, .int (-2)), (0, .ref a0), (1, .int a1)], [.ref a0], x2.2)) rfl ?_
      obtain ⟨x3, ex3, h⟩ := Option.bind_eq_some_iff.mp h
      obtain ⟨hkx3, hcall⟩ := tb_on_some ex3
      refine tb_e_cv (v := none) rfl (Or.inl ⟨_, rfl⟩) rfl rfl (Nat.le_of_ble_eq_true rfl) rfl (Nat.le_of_ble_eq_true rfl) hkx3 ((dc_m_keeps hcall).up (by decide)) ?_
      refine tb_Es (k := 3) (st' := (18, [(0, .ref a0), (1, .int a1), (2, .int (-2)), (3, .int 0)], [], x3)) rfl ?_
      obtain ⟨o8, eo8, h⟩ := Option.bind_eq_some_iff.mp h
      refine dl_m_falls_17 _ a0 a1 (-2) 0 x3 _ eo8 r ?_
      refine tb_Es (k := 1) (st' := (44, [(0, .ref o8.1), (2, .int o8.2.1)], [.ref o8.1], o8.2.2)) rfl ?_
      obtain ⟨x9, ex9, h⟩ := Option.bind_eq_some_iff.mp h
      obtain ⟨hkx9, hcall⟩ := tb_on_some ex9
      refine tb_e_cv (v := none) rfl (Or.inl ⟨_, rfl⟩) rfl rfl (Nat.le_of_ble_eq_true rfl) rfl (Nat.le_of_ble_eq_true rfl) hkx9 ((dc_m_laysBack hcall).up (by decide)) ?_
      refine tb_Es (k := 1) (st' := (46, [(0, .ref o8.1), (2, .int o8.2.1)], [.int o8.2.1], x9)) rfl ?_
      cases h
      subst hr
      exact tb_Er rfl rfl
/-! TannerBuntingModel.lasts(I)I -/
def fl_m_lasts_12 : Nat → Nat → Int32 → Int32 → Int32 → tb_Hp → Option (Nat × Int32 × tb_Hp)
  | 0, _, _, _, _, _ => none
  | n + 1, v0, v1, v2, v3, w => (if v3 < 200 then (if v2 < 0 then (tb_on 22 v0 w (fb_m_passes v0 w)).bind fun x3 => (fb_m_isOf x3.1 v1 x3.2).bind fun x4 => (if x4.1 = 0 then fl_m_lasts_12 n v0 v1 v2 (v3 + 1) x4.2 else (tb_gN 22 20 v0 x4.2).bind fun p5 => (tb_lI [1, 9] p5 10 x4.2).bind fun x6 => fl_m_lasts_12 n v0 v1 (x6 - 1) (v3 + 1) x4.2) else some ((v0, v2, w))) else some ((v0, v2, w)))
set_option maxHeartbeats 4000000 in
set_option maxRecDepth 20000 in
theorem dl_m_lasts_12 : ∀ (n : Nat) (v0 : Nat) (v1 : Int32) (v2 : Int32) (v3 : Int32) (w : tb_Hp) (o : Nat × Int32 × tb_Hp), fl_m_lasts_12 n v0 v1 v2 v3 w = some o → ∀ (r : Option Value × tb_Hp), tb_Ev tb_P 7 259 (33, [(0, .ref o.1), (2, .int o.2.1)], [], o.2.2) r → tb_Ev tb_P 7 259 (13, [(0, .ref v0), (1, .int v1), (2, .int v2), (3, .int v3)], [], w) r := by
  intro n
  induction n with
  | zero =>
    intro v0 v1 v2 v3 w o h
    cases h
  | succ n ih =>
    intro v0 v1 v2 v3 w o h r hx
    unfold fl_m_lasts_12 at h
    refine tb_Es (k := 2) (st' := (15, [(0, .ref v0), (1, .int v1), (2, .int v2), (3, .int v3)], [.int 200, .int v3], w)) rfl ?_
    refine tb_b_cge rfl (fun hc => ?_) (fun hc => ?_)
    · rw [if_pos hc] at h
      refine tb_Es (k := 1) (st' := (17, [(0, .ref v0), (1, .int v1), (2, .int v2), (3, .int v3)], [.int v2], w)) rfl ?_
      refine tb_b_ige rfl (fun hc => ?_) (fun hc => ?_)
      · rw [if_pos hc] at h
        refine tb_Es (k := 1) (st' := (19, [(0, .ref v0), (1, .int v1), (2, .int v2), (3, .int v3)], [.ref v0], w)) rfl ?_
        obtain ⟨x3, ex3, h⟩ := Option.bind_eq_some_iff.mp h
        obtain ⟨hkx3, hcall⟩ := tb_on_some ex3
        refine tb_e_cv (v := some (.int x3.1)) rfl (Or.inl ⟨_, rfl⟩) rfl rfl (Nat.le_of_ble_eq_true rfl) rfl (Nat.le_of_ble_eq_true rfl) hkx3 ((dc_m_passes hcall).up (by decide)) ?_
        refine tb_Es (k := 1) (st' := (21, [(0, .ref v0), (1, .int v1), (2, .int v2), (3, .int v3)], [.int v1, .int x3.1], x3.2)) rfl ?_
        obtain ⟨x4, ex4, h⟩ := Option.bind_eq_some_iff.mp h
        have hcall := ex4
        refine tb_e_cs (v := some (.int x4.1)) rfl rfl rfl (Nat.le_of_ble_eq_true rfl) rfl (Nat.le_of_ble_eq_true rfl) ((dc_m_isOf hcall).up (by decide)) ?_
        refine tb_b_ieq rfl (fun hc => ?_) (fun hc => ?_)
        · rw [if_pos hc] at h
          refine tb_Es (k := 3) (st' := (13, [(0, .ref v0), (1, .int v1), (2, .int v2), (3, .int (v3 + 1))], [], x4.2)) rfl ?_
          exact ih v0 v1 v2 (v3 + 1) x4.2 _ h r hx
        · rw [if_neg hc] at h
          refine tb_Es (k := 1) (st' := (24, [(0, .ref v0), (1, .int v1), (2, .int v2), (3, .int v3)], [.ref v0], x4.2)) rfl ?_
          obtain ⟨p5, ep5, h⟩ := Option.bind_eq_some_iff.mp h
          refine tb_e_gN rfl ep5 ?_
          refine tb_Es (k := 1) (st' := (26, [(0, .ref v0), (1, .int v1), (2, .int v2), (3, .int v3)], [.int 10, .ref p5], x4.2)) rfl ?_
          obtain ⟨x6, ex6, h⟩ := Option.bind_eq_some_iff.mp h
          refine tb_e_lI rfl (Or.inl ⟨rfl, rfl⟩) ex6 ?_
          refine tb_Es (k := 6) (st' := (13, [(0, .ref v0), (1, .int v1), (2, .int (x6 - 1)), (3, .int (v3 + 1))], [], x4.2)) rfl ?_
          exact ih v0 v1 (x6 - 1) (v3 + 1) x4.2 _ h r hx
      · rw [if_neg hc] at h
        refine tb_Es (k := 1) (st' := (33, [(0, .ref v0), (2, .int v2)], [], w)) rfl ?_
        cases h
        exact hx
    · rw [if_neg hc] at h
      refine tb_Es (k := 1) (st' := (33, [(0, .ref v0), (2, .int v2)], [], w)) rfl ?_
      cases h
      exact hx
def fb_m_lasts (a0 : Nat) (a1 : Int32) (w : tb_Hp) : Option (Int32 × tb_Hp) := (tb_on 22 a0 w (fb_m_isStanding a0 a1 w)).bind fun x1 => (if x1.1 = 0 then some (-1, x1.2) else (tb_on 22 a0 x1.2 (fb_m_keeps a0 x1.2)).bind fun x2 => (fl_m_lasts_12 1048576 a0 a1 (-2) 0 x2).bind fun o7 => (tb_on 22 o7.1 o7.2.2 (fb_m_laysBack o7.1 o7.2.2)).bind fun x8 => some (o7.2.1, x8))
set_option maxHeartbeats 4000000 in
set_option maxRecDepth 20000 in
theorem dc_m_lasts {a0 : Nat} {a1 : Int32} {w : tb_Hp} {o : Int32 × tb_Hp} (h : fb_m_lasts a0 a1 w = some o) : tb_Ev tb_P 7 259 (0, tb_ent [.ref a0, .int a1], [], w) (some (.int o.1), o.2) := by
  unfold fb_m_lasts at h
  obtain ⟨r, hr⟩ : ∃ r : Option Value × tb_Hp, r = (some (.int o.1), o.2) := ⟨_, rfl⟩
  rw [← hr]
  show tb_Ev tb_P 7 259 (0, [(0, .ref a0), (1, .int a1)], [], w) r
  refine tb_Es (k := 2) (st' := (2, [(0, .ref a0), (1, .int a1)], [.int a1, .ref a0], w)) rfl ?_
  obtain ⟨x1, ex1, h⟩ := Option.bind_eq_some_iff.mp h
  obtain ⟨hkx1, hcall⟩ := tb_on_some ex1
  refine tb_e_cv (v := some (.int x1.1)) rfl (Or.inl ⟨_, rfl⟩) rfl rfl (Nat.le_of_ble_eq_true rfl) rfl (Nat.le_of_ble_eq_true rfl) hkx1 ((dc_m_isStanding hcall).up (by decide)) ?_
  refine tb_b_ine rfl (fun hc => ?_) (fun hc => ?_)
  · rw [if_pos hc] at h
    refine tb_Es (k := 1) (st' := (5, [(0, .ref a0), (1, .int a1)], [.int (-1)], x1.2)) rfl ?_
    cases h
    subst hr
    exact tb_Er rfl rfl
  · rw [if_neg hc] at h
    refine tb_Es (k := 3) (st' := (9, [(2, .int (-2)), (0, .ref a0), (1, .int a1)], [.ref a0], x1.2)) rfl ?_
    obtain ⟨x2, ex2, h⟩ := Option.bind_eq_some_iff.mp h
    obtain ⟨hkx2, hcall⟩ := tb_on_some ex2
    refine tb_e_cv (v := none) rfl (Or.inl ⟨_, rfl⟩) rfl rfl (Nat.le_of_ble_eq_true rfl) rfl (Nat.le_of_ble_eq_true rfl) hkx2 ((dc_m_keeps hcall).up (by decide)) ?_
    refine tb_Es (k := 3) (st' := (13, [(0, .ref a0), (1, .int a1), (2, .int (-2)), (3, .int 0)], [], x2)) rfl ?_
    obtain ⟨o7, eo7, h⟩ := Option.bind_eq_some_iff.mp h
    refine dl_m_lasts_12 _ a0 a1 (-2) 0 x2 _ eo7 r ?_
    refine tb_Es (k := 1) (st' := (34, [(0, .ref o7.1), (2, .int o7.2.1)], [.ref o7.1], o7.2.2)) rfl ?_
    obtain ⟨x8, ex8, h⟩ := Option.bind_eq_some_iff.mp h
    obtain ⟨hkx8, hcall⟩ := tb_on_some ex8
    refine tb_e_cv (v := none) rfl (Or.inl ⟨_, rfl⟩) rfl rfl (Nat.le_of_ble_eq_true rfl) rfl (Nat.le_of_ble_eq_true rfl) hkx8 ((dc_m_laysBack hcall).up (by decide)) ?_
    refine tb_Es (k := 1) (st' := (36, [(0, .ref o7.1), (2, .int o7.2.1)], [.int o7.2.1], x8)) rfl ?_
    cases h
    subst hr
    exact tb_Er rfl rfl
/-! TannerBuntingModel.needed()I -/
def fl_m_needed_11 : Nat → Nat → Int32 → Int32 → tb_Hp → Option (Int32 × tb_Hp)
  | 0, _, _, _, _ => none
  | n + 1, v0, v1, v2, w => (tb_gN 22 20 v0 w).bind fun p3 => (tb_lI [1, 9] p3 11 w).bind fun x4 => (if v2 < x4 then (tb_on 22 v0 w (fb_m_isUp v0 v2 w)).bind fun x5 => (if x5.1 = 0 then fl_m_needed_11 n v0 (v1 ||| 0) (v2 + 1) x5.2 else (tb_on 22 v0 x5.2 (fb_m_fallBy v0 (1 <<< (v2 &&& 31)) x5.2)).bind fun x6 => (if x6.1 = 0 then fl_m_needed_11 n v0 (v1 ||| 0) (v2 + 1) x6.2 else fl_m_needed_11 n v0 (v1 ||| (1 <<< (v2 &&& 31))) (v2 + 1) x6.2)) else some ((v1, w)))
set_option maxHeartbeats 4000000 in
set_option maxRecDepth 20000 in
theorem dl_m_needed_11 : ∀ (n : Nat) (v0 : Nat) (v1 : Int32) (v2 : Int32) (w : tb_Hp) (o : Int32 × tb_Hp), fl_m_needed_11 n v0 v1 v2 w = some o → ∀ (r : Option Value × tb_Hp), tb_Ev tb_P 7 261 (39, [(1, .int o.1)], [], o.2) r → tb_Ev tb_P 7 261 (12, [(0, .ref v0), (1, .int v1), (2, .int v2)], [], w) r := by
  intro n
  induction n with
  | zero =>
    intro v0 v1 v2 w o h
    cases h
  | succ n ih =>
    intro v0 v1 v2 w o h r hx
    unfold fl_m_needed_11 at h
    refine tb_Es (k := 2) (st' := (14, [(0, .ref v0), (1, .int v1), (2, .int v2)], [.ref v0, .int v2], w)) rfl ?_
    obtain ⟨p3, ep3, h⟩ := Option.bind_eq_some_iff.mp h
    refine tb_e_gN rfl ep3 ?_
    refine tb_Es (k := 1) (st' := (16, [(0, .ref v0), (1, .int v1), (2, .int v2)], [.int 11, .ref p3, .int v2], w)) rfl ?_
    obtain ⟨x4, ex4, h⟩ := Option.bind_eq_some_iff.mp h
    refine tb_e_lI rfl (Or.inl ⟨rfl, rfl⟩) ex4 ?_
    refine tb_b_cge rfl (fun hc => ?_) (fun hc => ?_)
    · rw [if_pos hc] at h
      refine tb_Es (k := 3) (st' := (21, [(0, .ref v0), (1, .int v1), (2, .int v2)], [.int v2, .ref v0, .int v1], w)) rfl ?_
      obtain ⟨x5, ex5, h⟩ := Option.bind_eq_some_iff.mp h
      obtain ⟨hkx5, hcall⟩ := tb_on_some ex5
      refine tb_e_cv (v := some (.int x5.1)) rfl (Or.inl ⟨_, rfl⟩) rfl rfl (Nat.le_of_ble_eq_true rfl) rfl (Nat.le_of_ble_eq_true rfl) hkx5 ((dc_m_isUp hcall).up (by decide)) ?_
      refine tb_b_ieq rfl (fun hc => ?_) (fun hc => ?_)
      · rw [if_pos hc] at h
        refine tb_Es (k := 6) (st' := (12, [(0, .ref v0), (1, .int (v1 ||| 0)), (2, .int (v2 + 1))], [], x5.2)) rfl ?_
        exact ih v0 (v1 ||| 0) (v2 + 1) x5.2 _ h r hx
      · rw [if_neg hc] at h
        refine tb_Es (k := 4) (st' := (27, [(0, .ref v0), (1, .int v1), (2, .int v2)], [.int (1 <<< (v2 &&& 31)), .ref v0, .int v1], x5.2)) rfl ?_
        obtain ⟨x6, ex6, h⟩ := Option.bind_eq_some_iff.mp h
        obtain ⟨hkx6, hcall⟩ := tb_on_some ex6
        refine tb_e_cv (v := some (.int x6.1)) rfl (Or.inl ⟨_, rfl⟩) rfl rfl (Nat.le_of_ble_eq_true rfl) rfl (Nat.le_of_ble_eq_true rfl) hkx6 ((dc_m_fallBy hcall).up (by decide)) ?_
        refine tb_b_ieq rfl (fun hc => ?_) (fun hc => ?_)
        · rw [if_pos hc] at h
          refine tb_Es (k := 6) (st' := (12, [(0, .ref v0), (1, .int (v1 ||| 0)), (2, .int (v2 + 1))], [], x6.2)) rfl ?_
          exact ih v0 (v1 ||| 0) (v2 + 1) x6.2 _ h r hx
        · rw [if_neg hc] at h
          refine tb_Es (k := 9) (st' := (12, [(0, .ref v0), (1, .int (v1 ||| (1 <<< (v2 &&& 31)))), (2, .int (v2 + 1))], [], x6.2)) rfl ?_
          exact ih v0 (v1 ||| (1 <<< (v2 &&& 31))) (v2 + 1) x6.2 _ h r hx
    · rw [if_neg hc] at h
      refine tb_Es (k := 1) (st' := (39, [(1, .int v1)], [], w)) rfl ?_
      cases h
      exact hx
def fb_m_needed (a0 : Nat) (w : tb_Hp) : Option (Int32 × tb_Hp) := (tb_on 22 a0 w (fb_m_isStreet a0 w)).bind fun x1 => (if x1.1 = 0 then some (-1, x1.2) else (tb_on 22 a0 x1.2 (fb_m_keeps a0 x1.2)).bind fun x2 => (fl_m_needed_11 1048576 a0 0 0 x2).bind fun o7 => some (o7.1, o7.2))
set_option maxHeartbeats 4000000 in
set_option maxRecDepth 20000 in
theorem dc_m_needed {a0 : Nat} {w : tb_Hp} {o : Int32 × tb_Hp} (h : fb_m_needed a0 w = some o) : tb_Ev tb_P 7 261 (0, tb_ent [.ref a0], [], w) (some (.int o.1), o.2) := by
  unfold fb_m_needed at h
  obtain ⟨r, hr⟩ : ∃ r : Option Value × tb_Hp, r = (some (.int o.1), o.2) := ⟨_, rfl⟩
  rw [← hr]
  show tb_Ev tb_P 7 261 (0, [(0, .ref a0)], [], w) r
  refine tb_Es (k := 1) (st' := (1, [(0, .ref a0)], [.ref a0], w)) rfl ?_
  obtain ⟨x1, ex1, h⟩ := Option.bind_eq_some_iff.mp h
  obtain ⟨hkx1, hcall⟩ := tb_on_some ex1
  refine tb_e_cv (v := some (.int x1.1)) rfl (Or.inl ⟨_, rfl⟩) rfl rfl (Nat.le_of_ble_eq_true rfl) rfl (Nat.le_of_ble_eq_true rfl) hkx1 ((dc_m_isStreet hcall).up (by decide)) ?_
  refine tb_b_ine rfl (fun hc => ?_) (fun hc => ?_)
  · rw [if_pos hc] at h
    refine tb_Es (k := 1) (st' := (4, [(0, .ref a0)], [.int (-1)], x1.2)) rfl ?_
    cases h
    subst hr
    exact tb_Er rfl rfl
  · rw [if_neg hc] at h
    refine tb_Es (k := 3) (st' := (8, [(1, .int 0), (0, .ref a0)], [.ref a0], x1.2)) rfl ?_
    obtain ⟨x2, ex2, h⟩ := Option.bind_eq_some_iff.mp h
    obtain ⟨hkx2, hcall⟩ := tb_on_some ex2
    refine tb_e_cv (v := none) rfl (Or.inl ⟨_, rfl⟩) rfl rfl (Nat.le_of_ble_eq_true rfl) rfl (Nat.le_of_ble_eq_true rfl) hkx2 ((dc_m_keeps hcall).up (by decide)) ?_
    refine tb_Es (k := 3) (st' := (12, [(0, .ref a0), (1, .int 0), (2, .int 0)], [], x2)) rfl ?_
    obtain ⟨o7, eo7, h⟩ := Option.bind_eq_some_iff.mp h
    refine dl_m_needed_11 _ a0 0 0 x2 _ eo7 r ?_
    refine tb_Es (k := 1) (st' := (40, [(1, .int o7.1)], [.int o7.1], o7.2)) rfl ?_
    cases h
    subst hr
    exact tb_Er rfl rfl
/-! TannerBuntingModel.fewestSoThat(I)I -/
def fj_m_fewestSoThat_j26 (k : Nat → Int32 → Int32 → Int32 → Int32 → tb_Hp → Option (Int32 × tb_Hp)) (v0 : Nat) (v1 : Int32) (v2 : Int32) (v3 : Int32) (v4 : Int32) (w : tb_Hp) : Option (Int32 × tb_Hp) := (tb_on 22 v0 w (fb_m_fallBy v0 v4 w)).bind fun x3 => (if (v1 &&& (x3.1 ^^^ (-1))) = 0 then k v0 v1 v4 v3 (v4 + 1) x3.2 else k v0 v1 v2 v3 (v4 + 1) x3.2)
set_option maxHeartbeats 4000000 in
set_option maxRecDepth 20000 in
theorem dj_m_fewestSoThat_j26 (k : Nat → Int32 → Int32 → Int32 → Int32 → tb_Hp → Option (Int32 × tb_Hp)) (v0 : Nat) (v1 : Int32) (v2 : Int32) (v3 : Int32) (v4 : Int32) (w : tb_Hp) (o : Int32 × tb_Hp) (h : fj_m_fewestSoThat_j26 k v0 v1 v2 v3 v4 w = some o) (r : Option Value × tb_Hp) (hx : tb_Ev tb_P 7 264 (41, [(2, .int o.1)], [], o.2) r) (hk : ∀ (v0 : Nat) (v1 : Int32) (v2 : Int32) (v3 : Int32) (v4 : Int32) (w : tb_Hp), k v0 v1 v2 v3 v4 w = some o → tb_Ev tb_P 7 264 (10, [(0, .ref v0), (1, .int v1), (2, .int v2), (3, .int v3), (4, .int v4)], [], w) r) : tb_Ev tb_P 7 264 (28, [(0, .ref v0), (1, .int v1), (2, .int v2), (3, .int v3), (4, .int v4)], [], w) r := by
  unfold fj_m_fewestSoThat_j26 at h
  refine tb_Es (k := 3) (st' := (31, [(0, .ref v0), (1, .int v1), (2, .int v2), (3, .int v3), (4, .int v4)], [.int v4, .ref v0, .int v1], w)) rfl ?_
  obtain ⟨x3, ex3, h⟩ := Option.bind_eq_some_iff.mp h
  obtain ⟨hkx3, hcall⟩ := tb_on_some ex3
  refine tb_e_cv (v := some (.int x3.1)) rfl (Or.inl ⟨_, rfl⟩) rfl rfl (Nat.le_of_ble_eq_true rfl) rfl (Nat.le_of_ble_eq_true rfl) hkx3 ((dc_m_fallBy hcall).up (by decide)) ?_
  refine tb_Es (k := 3) (st' := (35, [(0, .ref v0), (1, .int v1), (2, .int v2), (3, .int v3), (4, .int v4)], [.int (v1 &&& (x3.1 ^^^ (-1)))], x3.2)) rfl ?_
  refine tb_b_ine rfl (fun hc => ?_) (fun hc => ?_)
  · rw [if_pos hc] at h
    refine tb_Es (k := 5) (st' := (10, [(0, .ref v0), (1, .int v1), (2, .int v4), (3, .int v3), (4, .int (v4 + 1))], [], x3.2)) rfl ?_
    exact hk v0 v1 v4 v3 (v4 + 1) x3.2 h
  · rw [if_neg hc] at h
    refine tb_Es (k := 3) (st' := (10, [(0, .ref v0), (1, .int v1), (2, .int v2), (3, .int v3), (4, .int (v4 + 1))], [], x3.2)) rfl ?_
    exact hk v0 v1 v2 v3 (v4 + 1) x3.2 h
def fl_m_fewestSoThat_9 : Nat → Nat → Int32 → Int32 → Int32 → Int32 → tb_Hp → Option (Int32 × tb_Hp)
  | 0, _, _, _, _, _, _ => none
  | n + 1, v0, v1, v2, v3, v4, w => (if v4 ≤ v3 then (if (v4 &&& (v3 ^^^ (-1))) = 0 then (if v2 < 0 then fj_m_fewestSoThat_j26 (fl_m_fewestSoThat_9 n) v0 v1 v2 v3 v4 w else (fb_m_bits v4 w).bind fun x4 => (fb_m_bits v2 x4.2).bind fun x5 => (if x4.1 < x5.1 then fj_m_fewestSoThat_j26 (fl_m_fewestSoThat_9 n) v0 v1 v2 v3 v4 x5.2 else fl_m_fewestSoThat_9 n v0 v1 v2 v3 (v4 + 1) x5.2)) else fl_m_fewestSoThat_9 n v0 v1 v2 v3 (v4 + 1) w) else some ((v2, w)))
set_option maxHeartbeats 4000000 in
set_option maxRecDepth 20000 in
theorem dl_m_fewestSoThat_9 : ∀ (n : Nat) (v0 : Nat) (v1 : Int32) (v2 : Int32) (v3 : Int32) (v4 : Int32) (w : tb_Hp) (o : Int32 × tb_Hp), fl_m_fewestSoThat_9 n v0 v1 v2 v3 v4 w = some o → ∀ (r : Option Value × tb_Hp), tb_Ev tb_P 7 264 (41, [(2, .int o.1)], [], o.2) r → tb_Ev tb_P 7 264 (10, [(0, .ref v0), (1, .int v1), (2, .int v2), (3, .int v3), (4, .int v4)], [], w) r := by
  intro n
  induction n with
  | zero =>
    intro v0 v1 v2 v3 v4 w o h
    cases h
  | succ n ih =>
    intro v0 v1 v2 v3 v4 w o h r hx
    unfold fl_m_fewestSoThat_9 at h
    refine tb_Es (k := 2) (st' := (12, [(0, .ref v0), (1, .int v1), (2, .int v2), (3, .int v3), (4, .int v4)], [.int v3, .int v4], w)) rfl ?_
    refine tb_b_cgt rfl (fun hc => ?_) (fun hc => ?_)
    · rw [if_pos hc] at h
      refine tb_Es (k := 5) (st' := (18, [(0, .ref v0), (1, .int v1), (2, .int v2), (3, .int v3), (4, .int v4)], [.int (v4 &&& (v3 ^^^ (-1)))], w)) rfl ?_
      refine tb_b_ine rfl (fun hc => ?_) (fun hc => ?_)
      · rw [if_pos hc] at h
        refine tb_Es (k := 1) (st' := (20, [(0, .ref v0), (1, .int v1), (2, .int v2), (3, .int v3), (4, .int v4)], [.int v2], w)) rfl ?_
        refine tb_b_ilt rfl (fun hc => ?_) (fun hc => ?_)
        · rw [if_pos hc] at h
          refine tb_Es (k := 1) (st' := (28, [(0, .ref v0), (1, .int v1), (2, .int v2), (3, .int v3), (4, .int v4)], [], w)) rfl ?_
          exact dj_m_fewestSoThat_j26 (fl_m_fewestSoThat_9 n) v0 v1 v2 v3 v4 w _ h r hx (fun v0_ v1_ v2_ v3_ v4_ w_ h_ => ih v0_ v1_ v2_ v3_ v4_ w_ _ h_ r hx)
        · rw [if_neg hc] at h
          refine tb_Es (k := 1) (st' := (22, [(0, .ref v0), (1, .int v1), (2, .int v2), (3, .int v3), (4, .int v4)], [.int v4], w)) rfl ?_
          obtain ⟨x4, ex4, h⟩ := Option.bind_eq_some_iff.mp h
          have hcall := ex4
          refine tb_e_cs (v := some (.int x4.1)) rfl rfl rfl (Nat.le_of_ble_eq_true rfl) rfl (Nat.le_of_ble_eq_true rfl) ((dc_m_bits hcall).up (by decide)) ?_
          refine tb_Es (k := 1) (st' := (24, [(0, .ref v0), (1, .int v1), (2, .int v2), (3, .int v3), (4, .int v4)], [.int v2, .int x4.1], x4.2)) rfl ?_
          obtain ⟨x5, ex5, h⟩ := Option.bind_eq_some_iff.mp h
          have hcall := ex5
          refine tb_e_cs (v := some (.int x5.1)) rfl rfl rfl (Nat.le_of_ble_eq_true rfl) rfl (Nat.le_of_ble_eq_true rfl) ((dc_m_bits hcall).up (by decide)) ?_
          refine tb_b_clt rfl (fun hc => ?_) (fun hc => ?_)
          · rw [if_pos hc] at h
            refine tb_Es (k := 1) (st' := (28, [(0, .ref v0), (1, .int v1), (2, .int v2), (3, .int v3), (4, .int v4)], [], x5.2)) rfl ?_
            exact dj_m_fewestSoThat_j26 (fl_m_fewestSoThat_9 n) v0 v1 v2 v3 v4 x5.2 _ h r hx (fun v0_ v1_ v2_ v3_ v4_ w_ h_ => ih v0_ v1_ v2_ v3_ v4_ w_ _ h_ r hx)
          · rw [if_neg hc] at h
            refine tb_Es (k := 4) (st' := (10, [(0, .ref v0), (1, .int v1), (2, .int v2), (3, .int v3), (4, .int (v4 + 1))], [], x5.2)) rfl ?_
            exact ih v0 v1 v2 v3 (v4 + 1) x5.2 _ h r hx
      · rw [if_neg hc] at h
        refine tb_Es (k := 3) (st' := (10, [(0, .ref v0), (1, .int v1), (2, .int v2), (3, .int v3), (4, .int (v4 + 1))], [], w)) rfl ?_
        exact ih v0 v1 v2 v3 (v4 + 1) w _ h r hx
    · rw [if_neg hc] at h
      refine tb_Es (k := 1) (st' := (41, [(2, .int v2)], [], w)) rfl ?_
      cases h
      exact hx
def fb_m_fewestSoThat (a0 : Nat) (a1 : Int32) (w : tb_Hp) : Option (Int32 × tb_Hp) := (tb_on 22 a0 w (fb_m_linesUp a0 w)).bind fun x1 => (tb_on 22 a0 x1.2 (fb_m_keeps a0 x1.2)).bind fun x2 => (fl_m_fewestSoThat_9 1048576 a0 a1 (-1) x1.1 0 x2).bind fun o6 => some (o6.1, o6.2)
set_option maxHeartbeats 4000000 in
set_option maxRecDepth 20000 in
theorem dc_m_fewestSoThat {a0 : Nat} {a1 : Int32} {w : tb_Hp} {o : Int32 × tb_Hp} (h : fb_m_fewestSoThat a0 a1 w = some o) : tb_Ev tb_P 7 264 (0, tb_ent [.ref a0, .int a1], [], w) (some (.int o.1), o.2) := by
  unfold fb_m_fewestSoThat at h
  obtain ⟨r, hr⟩ : ∃ r : Option Value × tb_Hp, r = (some (.int o.1), o.2) := ⟨_, rfl⟩
  rw [← hr]
  show tb_Ev tb_P 7 264 (0, [(0, .ref a0), (1, .int a1)], [], w) r
  refine tb_Es (k := 3) (st' := (3, [(2, .int (-1)), (0, .ref a0), (1, .int a1)], [.ref a0], w)) rfl ?_
  obtain ⟨x1, ex1, h⟩ := Option.bind_eq_some_iff.mp h
  obtain ⟨hkx1, hcall⟩ := tb_on_some ex1
  refine tb_e_cv (v := some (.int x1.1)) rfl (Or.inl ⟨_, rfl⟩) rfl rfl (Nat.le_of_ble_eq_true rfl) rfl (Nat.le_of_ble_eq_true rfl) hkx1 ((dc_m_linesUp hcall).up (by decide)) ?_
  refine tb_Es (k := 2) (st' := (6, [(3, .int x1.1), (2, .int (-1)), (0, .ref a0), (1, .int a1)], [.ref a0], x1.2)) rfl ?_
  obtain ⟨x2, ex2, h⟩ := Option.bind_eq_some_iff.mp h
  obtain ⟨hkx2, hcall⟩ := tb_on_some ex2
  refine tb_e_cv (v := none) rfl (Or.inl ⟨_, rfl⟩) rfl rfl (Nat.le_of_ble_eq_true rfl) rfl (Nat.le_of_ble_eq_true rfl) hkx2 ((dc_m_keeps hcall).up (by decide)) ?_
  refine tb_Es (k := 3) (st' := (10, [(0, .ref a0), (1, .int a1), (2, .int (-1)), (3, .int x1.1), (4, .int 0)], [], x2)) rfl ?_
  obtain ⟨o6, eo6, h⟩ := Option.bind_eq_some_iff.mp h
  refine dl_m_fewestSoThat_9 _ a0 a1 (-1) x1.1 0 x2 _ eo6 r ?_
  refine tb_Es (k := 1) (st' := (42, [(2, .int o6.1)], [.int o6.1], o6.2)) rfl ?_
  cases h
  subst hr
  exact tb_Er rfl rfl
