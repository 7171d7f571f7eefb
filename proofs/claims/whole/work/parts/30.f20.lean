/-! TannerBunting.winters(IIII)I -/
def fj_x_winters_j18 (v0 : Nat) (v1 : Int32) (v2 : Int32) (v3 : Int32) (v4 : Int32) (s0 : Int32) (w : tb_Hp) : Option (Int32 × tb_Hp) := (tb_gN 21 5 v0 w).bind fun p2 => (tb_on 15 p2 w (fb_sc_isEmpty p2 w)).bind fun x3 => (if x3.1 = 0 then (if s0 = 0 then some (-1, x3.2) else (fb_x_within v4 0 1 x3.2).bind fun x4 => (if x4.1 = 0 then some (-1, x4.2) else (tb_gN 21 10 v0 x4.2).bind fun p5 => (tb_gN 21 5 v0 x4.2).bind fun p6 => (tb_on 21 v0 x4.2 (fb_x_ruleInForce v0 x4.2)).bind fun x7 => (tb_on 20 p5 x7.2 (fb_yr_snow p5 p6 x7.1 v1 v2 v3 x7.2)).bind fun x8 => (if v4 = 0 then (tb_gN 21 10 v0 x8).bind fun p9 => (tb_gI 20 3 p9 x8).bind fun x10 => some (x10, x8) else (tb_gN 21 10 v0 x8).bind fun p11 => (tb_gI 20 4 p11 x8).bind fun x12 => some (x12, x8)))) else some (-1, x3.2))
set_option maxHeartbeats 4000000 in
set_option maxRecDepth 20000 in
theorem dj_x_winters_j18 (v0 : Nat) (v1 : Int32) (v2 : Int32) (v3 : Int32) (v4 : Int32) (s0 : Int32) (w : tb_Hp) (o : Int32 × tb_Hp) (h : fj_x_winters_j18 v0 v1 v2 v3 v4 s0 w = some o) (r : Option Value × tb_Hp) (hr : r = (some (.int o.1), o.2)) : tb_Ev tb_P 6 161 (19, [(0, .ref v0), (1, .int v1), (2, .int v2), (3, .int v3), (4, .int v4)], [.int s0], w) r := by
  unfold fj_x_winters_j18 at h
  refine tb_Es (k := 2) (st' := (21, [(5, .int s0), (0, .ref v0), (1, .int v1), (2, .int v2), (3, .int v3), (4, .int v4)], [.ref v0], w)) rfl ?_
  replace h := Option.bind_eq_some_iff.mp h
  obtain ⟨p2, ep2, h⟩ := h
  refine tb_e_gN rfl ep2 ?_
  replace h := Option.bind_eq_some_iff.mp h
  obtain ⟨x3, ex3, h⟩ := h
  obtain ⟨hkx3, hcall⟩ := tb_on_some ex3
  refine tb_e_cv (v := some (.int x3.1)) rfl (Or.inl ⟨_, rfl⟩) rfl rfl (Nat.le_of_ble_eq_true rfl) rfl (Nat.le_of_ble_eq_true rfl) hkx3 ((dc_sc_isEmpty hcall).up (by decide)) ?_
  refine tb_b_ine rfl (fun hc => ?_) (fun hc => ?_)
  · rw [if_pos hc] at h
    refine tb_Es (k := 1) (st' := (25, [(5, .int s0), (0, .ref v0), (1, .int v1), (2, .int v2), (3, .int v3), (4, .int v4)], [.int s0], x3.2)) rfl ?_
    refine tb_b_ieq rfl (fun hc => ?_) (fun hc => ?_)
    · rw [if_pos hc] at h
      refine tb_Es (k := 1) (st' := (32, [(5, .int s0), (0, .ref v0), (1, .int v1), (2, .int v2), (3, .int v3), (4, .int v4)], [.int (-1)], x3.2)) rfl ?_
      obtain rfl := Option.some.inj h
      subst hr
      exact tb_Er rfl rfl
    · rw [if_neg hc] at h
      refine tb_Es (k := 3) (st' := (29, [(5, .int s0), (0, .ref v0), (1, .int v1), (2, .int v2), (3, .int v3), (4, .int v4)], [.int 1, .int 0, .int v4], x3.2)) rfl ?_
      replace h := Option.bind_eq_some_iff.mp h
      obtain ⟨x4, ex4, h⟩ := h
      have hcall := ex4
      refine tb_e_cs (v := some (.int x4.1)) rfl rfl rfl (Nat.le_of_ble_eq_true rfl) rfl (Nat.le_of_ble_eq_true rfl) ((dc_x_within hcall).up (by decide)) ?_
      refine tb_b_ine rfl (fun hc => ?_) (fun hc => ?_)
      · rw [if_pos hc] at h
        refine tb_Es (k := 1) (st' := (32, [(5, .int s0), (0, .ref v0), (1, .int v1), (2, .int v2), (3, .int v3), (4, .int v4)], [.int (-1)], x4.2)) rfl ?_
        obtain rfl := Option.some.inj h
        subst hr
        exact tb_Er rfl rfl
      · rw [if_neg hc] at h
        refine tb_Es (k := 1) (st' := (34, [(5, .int s0), (0, .ref v0), (1, .int v1), (2, .int v2), (3, .int v3), (4, .int v4)], [.ref v0], x4.2)) rfl ?_
        replace h := Option.bind_eq_some_iff.mp h
        obtain ⟨p5, ep5, h⟩ := h
        refine tb_e_gN rfl ep5 ?_
        refine tb_Es (k := 1) (st' := (36, [(5, .int s0), (0, .ref v0), (1, .int v1), (2, .int v2), (3, .int v3), (4, .int v4)], [.ref v0, .ref p5], x4.2)) rfl ?_
        replace h := Option.bind_eq_some_iff.mp h
        obtain ⟨p6, ep6, h⟩ := h
        refine tb_e_gN rfl ep6 ?_
        refine tb_Es (k := 1) (st' := (38, [(5, .int s0), (0, .ref v0), (1, .int v1), (2, .int v2), (3, .int v3), (4, .int v4)], [.ref v0, .ref p6, .ref p5], x4.2)) rfl ?_
        replace h := Option.bind_eq_some_iff.mp h
        obtain ⟨x7, ex7, h⟩ := h
        obtain ⟨hkx7, hcall⟩ := tb_on_some ex7
        refine tb_e_cv (v := some (va_rf x7.1)) rfl (Or.inl ⟨_, rfl⟩) rfl rfl (Nat.le_of_ble_eq_true rfl) rfl (Nat.le_of_ble_eq_true rfl) hkx7 ((dc_x_ruleInForce hcall).up (by decide)) ?_
        refine tb_Es (k := 3) (st' := (42, [(5, .int s0), (0, .ref v0), (1, .int v1), (2, .int v2), (3, .int v3), (4, .int v4)], [.int v3, .int v2, .int v1, va_rf x7.1, .ref p6, .ref p5], x7.2)) rfl ?_
        replace h := Option.bind_eq_some_iff.mp h
        obtain ⟨x8, ex8, h⟩ := h
        obtain ⟨hkx8, hcall⟩ := tb_on_some ex8
        refine tb_e_cv (as := [.ref p6, va_rf x7.1, .int v1, .int v2, .int v3]) (v := none) rfl (Or.inl ⟨_, rfl⟩) rfl rfl (Nat.le_of_ble_eq_true rfl) rfl (by simp only [List.map_cons, List.map_nil, List.sum_cons, List.sum_nil, tb_catq, tb_cR, tb_cI, tb_cJ, tb_cT]; exact Nat.le_of_ble_eq_true rfl) hkx8 ((dc_yr_snow hcall).up (by decide)) ?_
        refine tb_Es (k := 1) (st' := (44, [(5, .int s0), (0, .ref v0), (1, .int v1), (2, .int v2), (3, .int v3), (4, .int v4)], [.int v4], x8)) rfl ?_
        refine tb_b_ine rfl (fun hc => ?_) (fun hc => ?_)
        · rw [if_pos hc] at h
          refine tb_Es (k := 1) (st' := (46, [(5, .int s0), (0, .ref v0), (1, .int v1), (2, .int v2), (3, .int v3), (4, .int v4)], [.ref v0], x8)) rfl ?_
          replace h := Option.bind_eq_some_iff.mp h
          obtain ⟨p9, ep9, h⟩ := h
          refine tb_e_gN rfl ep9 ?_
          replace h := Option.bind_eq_some_iff.mp h
          obtain ⟨x10, ex10, h⟩ := h
          refine tb_e_gI rfl ex10 ?_
          refine tb_Es (k := 1) (st' := (52, [(5, .int s0), (0, .ref v0), (1, .int v1), (2, .int v2), (3, .int v3), (4, .int v4)], [.int x10], x8)) rfl ?_
          obtain rfl := Option.some.inj h
          subst hr
          exact tb_Er rfl rfl
        · rw [if_neg hc] at h
          refine tb_Es (k := 1) (st' := (50, [(5, .int s0), (0, .ref v0), (1, .int v1), (2, .int v2), (3, .int v3), (4, .int v4)], [.ref v0], x8)) rfl ?_
          replace h := Option.bind_eq_some_iff.mp h
          obtain ⟨p11, ep11, h⟩ := h
          refine tb_e_gN rfl ep11 ?_
          replace h := Option.bind_eq_some_iff.mp h
          obtain ⟨x12, ex12, h⟩ := h
          refine tb_e_gI rfl ex12 ?_
          obtain rfl := Option.some.inj h
          subst hr
          exact tb_Er rfl rfl
  · rw [if_neg hc] at h
    refine tb_Es (k := 1) (st' := (32, [(5, .int s0), (0, .ref v0), (1, .int v1), (2, .int v2), (3, .int v3), (4, .int v4)], [.int (-1)], x3.2)) rfl ?_
    obtain rfl := Option.some.inj h
    subst hr
    exact tb_Er rfl rfl
def fb_x_winters (a0 : Nat) (a1 : Int32) (a2 : Int32) (a3 : Int32) (a4 : Int32) (w : tb_Hp) : Option (Int32 × tb_Hp) := (fb_x_within a1 1 10 w).bind fun x1 => (if x1.1 = 0 then fj_x_winters_j18 a0 a1 a2 a3 a4 0 x1.2 else (fb_x_within a2 1 60 x1.2).bind fun x13 => (if x13.1 = 0 then fj_x_winters_j18 a0 a1 a2 a3 a4 0 x13.2 else (fb_x_within a3 0 100 x13.2).bind fun x14 => (if x14.1 = 0 then fj_x_winters_j18 a0 a1 a2 a3 a4 0 x14.2 else fj_x_winters_j18 a0 a1 a2 a3 a4 1 x14.2)))
set_option maxHeartbeats 4000000 in
set_option maxRecDepth 20000 in
theorem dc_x_winters {a0 : Nat} {a1 : Int32} {a2 : Int32} {a3 : Int32} {a4 : Int32} {w : tb_Hp} {o : Int32 × tb_Hp} (h : fb_x_winters a0 a1 a2 a3 a4 w = some o) : tb_Ev tb_P 6 161 (0, tb_ent [.ref a0, .int a1, .int a2, .int a3, .int a4], [], w) (some (.int o.1), o.2) := by
  unfold fb_x_winters at h
  obtain ⟨r, hr⟩ : ∃ r : Option Value × tb_Hp, r = (some (.int o.1), o.2) := ⟨_, rfl⟩
  rw [← hr]
  show tb_Ev tb_P 6 161 (0, [(0, .ref a0), (1, .int a1), (2, .int a2), (3, .int a3), (4, .int a4)], [], w) r
  refine tb_Es (k := 3) (st' := (3, [(0, .ref a0), (1, .int a1), (2, .int a2), (3, .int a3), (4, .int a4)], [.int 10, .int 1, .int a1], w)) rfl ?_
  replace h := Option.bind_eq_some_iff.mp h
  obtain ⟨x1, ex1, h⟩ := h
  have hcall := ex1
  refine tb_e_cs (v := some (.int x1.1)) rfl rfl rfl (Nat.le_of_ble_eq_true rfl) rfl (Nat.le_of_ble_eq_true rfl) ((dc_x_within hcall).up (by decide)) ?_
  refine tb_b_ieq rfl (fun hc => ?_) (fun hc => ?_)
  · rw [if_pos hc] at h
    refine tb_Es (k := 2) (st' := (19, [(0, .ref a0), (1, .int a1), (2, .int a2), (3, .int a3), (4, .int a4)], [.int 0], x1.2)) rfl ?_
    exact dj_x_winters_j18 a0 a1 a2 a3 a4 0 x1.2 _ h r hr
  · rw [if_neg hc] at h
    refine tb_Es (k := 3) (st' := (8, [(0, .ref a0), (1, .int a1), (2, .int a2), (3, .int a3), (4, .int a4)], [.int 60, .int 1, .int a2], x1.2)) rfl ?_
    replace h := Option.bind_eq_some_iff.mp h
    obtain ⟨x13, ex13, h⟩ := h
    have hcall := ex13
    refine tb_e_cs (v := some (.int x13.1)) rfl rfl rfl (Nat.le_of_ble_eq_true rfl) rfl (Nat.le_of_ble_eq_true rfl) ((dc_x_within hcall).up (by decide)) ?_
    refine tb_b_ieq rfl (fun hc => ?_) (fun hc => ?_)
    · rw [if_pos hc] at h
      refine tb_Es (k := 2) (st' := (19, [(0, .ref a0), (1, .int a1), (2, .int a2), (3, .int a3), (4, .int a4)], [.int 0], x13.2)) rfl ?_
      exact dj_x_winters_j18 a0 a1 a2 a3 a4 0 x13.2 _ h r hr
    · rw [if_neg hc] at h
      refine tb_Es (k := 3) (st' := (13, [(0, .ref a0), (1, .int a1), (2, .int a2), (3, .int a3), (4, .int a4)], [.int 100, .int 0, .int a3], x13.2)) rfl ?_
      replace h := Option.bind_eq_some_iff.mp h
      obtain ⟨x14, ex14, h⟩ := h
      have hcall := ex14
      refine tb_e_cs (v := some (.int x14.1)) rfl rfl rfl (Nat.le_of_ble_eq_true rfl) rfl (Nat.le_of_ble_eq_true rfl) ((dc_x_within hcall).up (by decide)) ?_
      refine tb_b_ieq rfl (fun hc => ?_) (fun hc => ?_)
      · rw [if_pos hc] at h
        refine tb_Es (k := 2) (st' := (19, [(0, .ref a0), (1, .int a1), (2, .int a2), (3, .int a3), (4, .int a4)], [.int 0], x14.2)) rfl ?_
        exact dj_x_winters_j18 a0 a1 a2 a3 a4 0 x14.2 _ h r hr
      · rw [if_neg hc] at h
        refine tb_Es (k := 3) (st' := (19, [(0, .ref a0), (1, .int a1), (2, .int a2), (3, .int a3), (4, .int a4)], [.int 1], x14.2)) rfl ?_
        exact dj_x_winters_j18 a0 a1 a2 a3 a4 1 x14.2 _ h r hr
/-! TannerBuntingModel.compare()Z -/
def fj_m_compare_j83 (v0 : Nat) (s0 : Int32) (w : tb_Hp) : Option (Int32 × tb_Hp) := (tb_on 22 v0 w (fb_m_sum v0 w)).bind fun x7 => (if x7.1 = 0 then some (0, x7.2) else (tb_on 22 v0 x7.2 (fb_m_puts v0 (6 + s0) 0 x7.2)).bind fun x8 => some (1, x8))
set_option maxHeartbeats 4000000 in
set_option maxRecDepth 20000 in
theorem dj_m_compare_j83 (v0 : Nat) (s0 : Int32) (w : tb_Hp) (o : Int32 × tb_Hp) (h : fj_m_compare_j83 v0 s0 w = some o) (r : Option Value × tb_Hp) (hr : r = (some (.int o.1), o.2)) : tb_Ev tb_P 6 202 (87, [(0, .ref v0)], [.int s0], w) r := by
  unfold fj_m_compare_j83 at h
  refine tb_Es (k := 2) (st' := (89, [(4, .int s0), (0, .ref v0)], [.ref v0], w)) rfl ?_
  replace h := Option.bind_eq_some_iff.mp h
  obtain ⟨x7, ex7, h⟩ := h
  obtain ⟨hkx7, hcall⟩ := tb_on_some ex7
  refine tb_e_cv (v := some (.int x7.1)) rfl (Or.inl ⟨_, rfl⟩) rfl rfl (Nat.le_of_ble_eq_true rfl) rfl (Nat.le_of_ble_eq_true rfl) hkx7 ((dc_m_sum hcall).up (by decide)) ?_
  refine tb_b_ine rfl (fun hc => ?_) (fun hc => ?_)
  · rw [if_pos hc] at h
    refine tb_Es (k := 1) (st' := (92, [(4, .int s0), (0, .ref v0)], [.int 0], x7.2)) rfl ?_
    obtain rfl := Option.some.inj h
    subst hr
    exact tb_Er rfl rfl
  · rw [if_neg hc] at h
    refine tb_Es (k := 5) (st' := (98, [(4, .int s0), (0, .ref v0)], [.int 0, .int (6 + s0), .ref v0], x7.2)) rfl ?_
    replace h := Option.bind_eq_some_iff.mp h
    obtain ⟨x8, ex8, h⟩ := h
    obtain ⟨hkx8, hcall⟩ := tb_on_some ex8
    refine tb_e_cv (v := none) rfl (Or.inl ⟨_, rfl⟩) rfl rfl (Nat.le_of_ble_eq_true rfl) rfl (Nat.le_of_ble_eq_true rfl) hkx8 ((dc_m_puts hcall).up (by decide)) ?_
    refine tb_Es (k := 1) (st' := (100, [(4, .int s0), (0, .ref v0)], [.int 1], x8)) rfl ?_
    obtain rfl := Option.some.inj h
    subst hr
    exact tb_Er rfl rfl
def fj_m_compare_j58 (v0 : Nat) (v1 : Int32) (v2 : Int32) (v3 : Int32) (w : tb_Hp) : Option (Int32 × tb_Hp) := (tb_on 22 v0 w (fb_m_makes v0 v2 w)).bind fun x6 => (if x6.1 = 0 then some (0, x6.2) else (if v1 = 60 then (if v3 = 0 then fj_m_compare_j83 v0 0 x6.2 else fj_m_compare_j83 v0 1 x6.2) else (if v1 = 61 then fj_m_compare_j83 v0 2 x6.2 else (if v3 = 0 then fj_m_compare_j83 v0 4 x6.2 else fj_m_compare_j83 v0 3 x6.2))))
set_option maxHeartbeats 4000000 in
set_option maxRecDepth 20000 in
theorem dj_m_compare_j58 (v0 : Nat) (v1 : Int32) (v2 : Int32) (v3 : Int32) (w : tb_Hp) (o : Int32 × tb_Hp) (h : fj_m_compare_j58 v0 v1 v2 v3 w = some o) (r : Option Value × tb_Hp) (hr : r = (some (.int o.1), o.2)) : tb_Ev tb_P 6 202 (61, [(0, .ref v0), (1, .int v1), (2, .int v2), (3, .int v3)], [], w) r := by
  unfold fj_m_compare_j58 at h
  refine tb_Es (k := 2) (st' := (63, [(0, .ref v0), (1, .int v1), (2, .int v2), (3, .int v3)], [.int v2, .ref v0], w)) rfl ?_
  replace h := Option.bind_eq_some_iff.mp h
  obtain ⟨x6, ex6, h⟩ := h
  obtain ⟨hkx6, hcall⟩ := tb_on_some ex6
  refine tb_e_cv (v := some (.int x6.1)) rfl (Or.inl ⟨_, rfl⟩) rfl rfl (Nat.le_of_ble_eq_true rfl) rfl (Nat.le_of_ble_eq_true rfl) hkx6 ((dc_m_makes hcall).up (by decide)) ?_
  refine tb_b_ine rfl (fun hc => ?_) (fun hc => ?_)
  · rw [if_pos hc] at h
    refine tb_Es (k := 1) (st' := (66, [(0, .ref v0), (1, .int v1), (2, .int v2), (3, .int v3)], [.int 0], x6.2)) rfl ?_
    obtain rfl := Option.some.inj h
    subst hr
    exact tb_Er rfl rfl
  · rw [if_neg hc] at h
    refine tb_Es (k := 2) (st' := (69, [(0, .ref v0), (1, .int v1), (2, .int v2), (3, .int v3)], [.int 60, .int v1], x6.2)) rfl ?_
    refine tb_b_cne rfl (fun hc => ?_) (fun hc => ?_)
    · rw [if_pos hc] at h
      refine tb_Es (k := 1) (st' := (71, [(0, .ref v0), (1, .int v1), (2, .int v2), (3, .int v3)], [.int v3], x6.2)) rfl ?_
      refine tb_b_ieq rfl (fun hc => ?_) (fun hc => ?_)
      · rw [if_pos hc] at h
        refine tb_Es (k := 3) (st' := (87, [(0, .ref v0)], [.int 0], x6.2)) rfl ?_
        exact dj_m_compare_j83 v0 0 x6.2 _ h r hr
      · rw [if_neg hc] at h
        refine tb_Es (k := 3) (st' := (87, [(0, .ref v0)], [.int 1], x6.2)) rfl ?_
        exact dj_m_compare_j83 v0 1 x6.2 _ h r hr
    · rw [if_neg hc] at h
      refine tb_Es (k := 2) (st' := (78, [(0, .ref v0), (1, .int v1), (2, .int v2), (3, .int v3)], [.int 61, .int v1], x6.2)) rfl ?_
      refine tb_b_cne rfl (fun hc => ?_) (fun hc => ?_)
      · rw [if_pos hc] at h
        refine tb_Es (k := 3) (st' := (87, [(0, .ref v0)], [.int 2], x6.2)) rfl ?_
        exact dj_m_compare_j83 v0 2 x6.2 _ h r hr
      · rw [if_neg hc] at h
        refine tb_Es (k := 1) (st' := (82, [(0, .ref v0), (1, .int v1), (2, .int v2), (3, .int v3)], [.int v3], x6.2)) rfl ?_
        refine tb_b_ieq rfl (fun hc => ?_) (fun hc => ?_)
        · rw [if_pos hc] at h
          refine tb_Es (k := 2) (st' := (87, [(0, .ref v0)], [.int 4], x6.2)) rfl ?_
          exact dj_m_compare_j83 v0 4 x6.2 _ h r hr
        · rw [if_neg hc] at h
          refine tb_Es (k := 3) (st' := (87, [(0, .ref v0)], [.int 3], x6.2)) rfl ?_
          exact dj_m_compare_j83 v0 3 x6.2 _ h r hr
def fj_m_compare_j49 (v0 : Nat) (v1 : Int32) (v2 : Int32) (s0 : Int32) (w : tb_Hp) : Option (Int32 × tb_Hp) := (if s0 = 0 then fj_m_compare_j58 v0 v1 v2 s0 w else (tb_gI 22 8 v0 w).bind fun x9 => (tb_pI 22 8 v0 (x9 + 1) w).bind fun w10 => fj_m_compare_j58 v0 v1 v2 s0 w10)
set_option maxHeartbeats 4000000 in
set_option maxRecDepth 20000 in
theorem dj_m_compare_j49 (v0 : Nat) (v1 : Int32) (v2 : Int32) (s0 : Int32) (w : tb_Hp) (o : Int32 × tb_Hp) (h : fj_m_compare_j49 v0 v1 v2 s0 w = some o) (r : Option Value × tb_Hp) (hr : r = (some (.int o.1), o.2)) : tb_Ev tb_P 6 202 (51, [(0, .ref v0), (1, .int v1), (2, .int v2)], [.int s0], w) r := by
  unfold fj_m_compare_j49 at h
  refine tb_Es (k := 2) (st' := (53, [(3, .int s0), (0, .ref v0), (1, .int v1), (2, .int v2)], [.int s0], w)) rfl ?_
  refine tb_b_ieq rfl (fun hc => ?_) (fun hc => ?_)
  · rw [if_pos hc] at h
    refine tb_Es (k := 1) (st' := (61, [(0, .ref v0), (1, .int v1), (2, .int v2), (3, .int s0)], [], w)) rfl ?_
    exact dj_m_compare_j58 v0 v1 v2 s0 w _ h r hr
  · rw [if_neg hc] at h
    refine tb_Es (k := 2) (st' := (56, [(3, .int s0), (0, .ref v0), (1, .int v1), (2, .int v2)], [.ref v0, .ref v0], w)) rfl ?_
    replace h := Option.bind_eq_some_iff.mp h
    obtain ⟨x9, ex9, h⟩ := h
    refine tb_e_gI rfl ex9 ?_
    refine tb_Es (k := 2) (st' := (59, [(3, .int s0), (0, .ref v0), (1, .int v1), (2, .int v2)], [.int (x9 + 1), .ref v0], w)) rfl ?_
    replace h := Option.bind_eq_some_iff.mp h
    obtain ⟨w10, ew10, h⟩ := h
    refine tb_e_pI rfl ew10 ?_
    refine tb_Es (k := 1) (st' := (61, [(0, .ref v0), (1, .int v1), (2, .int v2), (3, .int s0)], [], w10)) rfl ?_
    exact dj_m_compare_j58 v0 v1 v2 s0 w10 _ h r hr
def fj_m_compare_j25 (v0 : Nat) (v1 : Int32) (v2 : Int32) (w : tb_Hp) : Option (Int32 × tb_Hp) := (tb_gI 22 8 v0 w).bind fun x4 => (tb_pI 22 8 v0 (x4 + 1) w).bind fun w5 => (if v1 = 61 then fj_m_compare_j49 v0 v1 v2 0 w5 else (tb_gI 22 8 v0 w5).bind fun x11 => (tb_gI 22 1 v0 w5).bind fun x12 => (if x11 < x12 then (tb_gN 22 0 v0 w5).bind fun p13 => (tb_gI 22 8 v0 w5).bind fun x14 => (tb_lI [0, 3] p13 x14 w5).bind fun x15 => (if x15 = 61 then fj_m_compare_j49 v0 v1 v2 1 w5 else fj_m_compare_j49 v0 v1 v2 0 w5) else fj_m_compare_j49 v0 v1 v2 0 w5))
set_option maxHeartbeats 4000000 in
set_option maxRecDepth 20000 in
theorem dj_m_compare_j25 (v0 : Nat) (v1 : Int32) (v2 : Int32) (w : tb_Hp) (o : Int32 × tb_Hp) (h : fj_m_compare_j25 v0 v1 v2 w = some o) (r : Option Value × tb_Hp) (hr : r = (some (.int o.1), o.2)) : tb_Ev tb_P 6 202 (26, [(0, .ref v0), (1, .int v1), (2, .int v2)], [], w) r := by
  unfold fj_m_compare_j25 at h
  refine tb_Es (k := 2) (st' := (28, [(0, .ref v0), (1, .int v1), (2, .int v2)], [.ref v0, .ref v0], w)) rfl ?_
  replace h := Option.bind_eq_some_iff.mp h
  obtain ⟨x4, ex4, h⟩ := h
  refine tb_e_gI rfl ex4 ?_
  refine tb_Es (k := 2) (st' := (31, [(0, .ref v0), (1, .int v1), (2, .int v2)], [.int (x4 + 1), .ref v0], w)) rfl ?_
  replace h := Option.bind_eq_some_iff.mp h
  obtain ⟨w5, ew5, h⟩ := h
  refine tb_e_pI rfl ew5 ?_
  refine tb_Es (k := 2) (st' := (34, [(0, .ref v0), (1, .int v1), (2, .int v2)], [.int 61, .int v1], w5)) rfl ?_
  refine tb_b_ceq rfl (fun hc => ?_) (fun hc => ?_)
  · rw [if_pos hc] at h
    refine tb_Es (k := 2) (st' := (51, [(0, .ref v0), (1, .int v1), (2, .int v2)], [.int 0], w5)) rfl ?_
    exact dj_m_compare_j49 v0 v1 v2 0 w5 _ h r hr
  · rw [if_neg hc] at h
    refine tb_Es (k := 1) (st' := (36, [(0, .ref v0), (1, .int v1), (2, .int v2)], [.ref v0], w5)) rfl ?_
    replace h := Option.bind_eq_some_iff.mp h
    obtain ⟨x11, ex11, h⟩ := h
    refine tb_e_gI rfl ex11 ?_
    refine tb_Es (k := 1) (st' := (38, [(0, .ref v0), (1, .int v1), (2, .int v2)], [.ref v0, .int x11], w5)) rfl ?_
    replace h := Option.bind_eq_some_iff.mp h
    obtain ⟨x12, ex12, h⟩ := h
    refine tb_e_gI rfl ex12 ?_
    refine tb_b_cge rfl (fun hc => ?_) (fun hc => ?_)
    · rw [if_pos hc] at h
      refine tb_Es (k := 1) (st' := (41, [(0, .ref v0), (1, .int v1), (2, .int v2)], [.ref v0], w5)) rfl ?_
      replace h := Option.bind_eq_some_iff.mp h
      obtain ⟨p13, ep13, h⟩ := h
      refine tb_e_gN rfl ep13 ?_
      refine tb_Es (k := 1) (st' := (43, [(0, .ref v0), (1, .int v1), (2, .int v2)], [.ref v0, .ref p13], w5)) rfl ?_
      replace h := Option.bind_eq_some_iff.mp h
      obtain ⟨x14, ex14, h⟩ := h
      refine tb_e_gI rfl ex14 ?_
      replace h := Option.bind_eq_some_iff.mp h
      obtain ⟨x15, ex15, h⟩ := h
      refine tb_e_lI rfl (Or.inr ⟨rfl, rfl⟩) ex15 ?_
      refine tb_Es (k := 1) (st' := (46, [(0, .ref v0), (1, .int v1), (2, .int v2)], [.int 61, .int x15], w5)) rfl ?_
      refine tb_b_cne rfl (fun hc => ?_) (fun hc => ?_)
      · rw [if_pos hc] at h
        refine tb_Es (k := 3) (st' := (51, [(0, .ref v0), (1, .int v1), (2, .int v2)], [.int 1], w5)) rfl ?_
        exact dj_m_compare_j49 v0 v1 v2 1 w5 _ h r hr
      · rw [if_neg hc] at h
        refine tb_Es (k := 2) (st' := (51, [(0, .ref v0), (1, .int v1), (2, .int v2)], [.int 0], w5)) rfl ?_
        exact dj_m_compare_j49 v0 v1 v2 0 w5 _ h r hr
    · rw [if_neg hc] at h
      refine tb_Es (k := 2) (st' := (51, [(0, .ref v0), (1, .int v1), (2, .int v2)], [.int 0], w5)) rfl ?_
      exact dj_m_compare_j49 v0 v1 v2 0 w5 _ h r hr
def fb_m_compare (a0 : Nat) (w : tb_Hp) : Option (Int32 × tb_Hp) := (tb_on 22 a0 w (fb_m_sum a0 w)).bind fun x1 => (if x1.1 = 0 then some (0, x1.2) else (tb_on 22 a0 x1.2 (fb_m_see a0 x1.2)).bind fun x2 => (tb_gI 22 8 a0 x2.2).bind fun x3 => (if x2.1 = 60 then fj_m_compare_j25 a0 x2.1 x3 x2.2 else (if x2.1 = 61 then fj_m_compare_j25 a0 x2.1 x3 x2.2 else (if x2.1 = 62 then fj_m_compare_j25 a0 x2.1 x3 x2.2 else (tb_on 22 a0 x2.2 (fb_m_fails a0 0 x3 x2.2)).bind fun x16 => tb_z x16.1 x16.2))))
set_option maxHeartbeats 4000000 in
set_option maxRecDepth 20000 in
theorem dc_m_compare {a0 : Nat} {w : tb_Hp} {o : Int32 × tb_Hp} (h : fb_m_compare a0 w = some o) : tb_Ev tb_P 6 202 (0, tb_ent [.ref a0], [], w) (some (.int o.1), o.2) := by
  unfold fb_m_compare at h
  obtain ⟨r, hr⟩ : ∃ r : Option Value × tb_Hp, r = (some (.int o.1), o.2) := ⟨_, rfl⟩
  rw [← hr]
  show tb_Ev tb_P 6 202 (0, [(0, .ref a0)], [], w) r
  refine tb_Es (k := 1) (st' := (1, [(0, .ref a0)], [.ref a0], w)) rfl ?_
  replace h := Option.bind_eq_some_iff.mp h
  obtain ⟨x1, ex1, h⟩ := h
  obtain ⟨hkx1, hcall⟩ := tb_on_some ex1
  refine tb_e_cv (v := some (.int x1.1)) rfl (Or.inl ⟨_, rfl⟩) rfl rfl (Nat.le_of_ble_eq_true rfl) rfl (Nat.le_of_ble_eq_true rfl) hkx1 ((dc_m_sum hcall).up (by decide)) ?_
  refine tb_b_ine rfl (fun hc => ?_) (fun hc => ?_)
  · rw [if_pos hc] at h
    refine tb_Es (k := 1) (st' := (4, [(0, .ref a0)], [.int 0], x1.2)) rfl ?_
    obtain rfl := Option.some.inj h
    subst hr
    exact tb_Er rfl rfl
  · rw [if_neg hc] at h
    refine tb_Es (k := 1) (st' := (6, [(0, .ref a0)], [.ref a0], x1.2)) rfl ?_
    replace h := Option.bind_eq_some_iff.mp h
    obtain ⟨x2, ex2, h⟩ := h
    obtain ⟨hkx2, hcall⟩ := tb_on_some ex2
    refine tb_e_cv (v := some (.int x2.1)) rfl (Or.inl ⟨_, rfl⟩) rfl rfl (Nat.le_of_ble_eq_true rfl) rfl (Nat.le_of_ble_eq_true rfl) hkx2 ((dc_m_see hcall).up (by decide)) ?_
    refine tb_Es (k := 2) (st' := (9, [(1, .int x2.1), (0, .ref a0)], [.ref a0], x2.2)) rfl ?_
    replace h := Option.bind_eq_some_iff.mp h
    obtain ⟨x3, ex3, h⟩ := h
    refine tb_e_gI rfl ex3 ?_
    refine tb_Es (k := 3) (st' := (13, [(2, .int x3), (1, .int x2.1), (0, .ref a0)], [.int 60, .int x2.1], x2.2)) rfl ?_
    refine tb_b_ceq rfl (fun hc => ?_) (fun hc => ?_)
    · rw [if_pos hc] at h
      refine tb_Es (k := 1) (st' := (26, [(0, .ref a0), (1, .int x2.1), (2, .int x3)], [], x2.2)) rfl ?_
      exact dj_m_compare_j25 a0 x2.1 x3 x2.2 _ h r hr
    · rw [if_neg hc] at h
      refine tb_Es (k := 2) (st' := (16, [(2, .int x3), (1, .int x2.1), (0, .ref a0)], [.int 61, .int x2.1], x2.2)) rfl ?_
      refine tb_b_ceq rfl (fun hc => ?_) (fun hc => ?_)
      · rw [if_pos hc] at h
        refine tb_Es (k := 1) (st' := (26, [(0, .ref a0), (1, .int x2.1), (2, .int x3)], [], x2.2)) rfl ?_
        exact dj_m_compare_j25 a0 x2.1 x3 x2.2 _ h r hr
      · rw [if_neg hc] at h
        refine tb_Es (k := 2) (st' := (19, [(2, .int x3), (1, .int x2.1), (0, .ref a0)], [.int 62, .int x2.1], x2.2)) rfl ?_
        refine tb_b_ceq rfl (fun hc => ?_) (fun hc => ?_)
        · rw [if_pos hc] at h
          refine tb_Es (k := 1) (st' := (26, [(0, .ref a0), (1, .int x2.1), (2, .int x3)], [], x2.2)) rfl ?_
          exact dj_m_compare_j25 a0 x2.1 x3 x2.2 _ h r hr
        · rw [if_neg hc] at h
          refine tb_Es (k := 3) (st' := (23, [(2, .int x3), (1, .int x2.1), (0, .ref a0)], [.int x3, .int 0, .ref a0], x2.2)) rfl ?_
          replace h := Option.bind_eq_some_iff.mp h
          obtain ⟨x16, ex16, h⟩ := h
          obtain ⟨hkx16, hcall⟩ := tb_on_some ex16
          refine tb_e_cv (v := some (.int x16.1)) rfl (Or.inl ⟨_, rfl⟩) rfl rfl (Nat.le_of_ble_eq_true rfl) rfl (Nat.le_of_ble_eq_true rfl) hkx16 ((dc_m_fails hcall).up (by decide)) ?_
          subst hr
          exact tb_r_z rfl h
/-! TannerBuntingModel.passes()I -/
def fb_m_passes (a0 : Nat) (w : tb_Hp) : Option (Int32 × tb_Hp) := (tb_on 22 a0 w (fb_m_letGo a0 w)).bind fun x1 => (tb_on 22 a0 x1.2 (fb_m_downsAll a0 x1.1 x1.2)).bind fun x2 => (tb_on 22 a0 x2 (fb_m_fade a0 x2)).bind fun x3 => (tb_on 22 a0 x3 (fb_m_givesWay a0 x3)).bind fun x4 => (tb_gN 22 20 a0 x4.2).bind fun p5 => (tb_lI [1, 9] p5 10 x4.2).bind fun x6 => (tb_tI p5 10 (x6 + 1) x4.2).bind fun w7 => some (x4.1, w7)
set_option maxHeartbeats 4000000 in
set_option maxRecDepth 20000 in
theorem dc_m_passes {a0 : Nat} {w : tb_Hp} {o : Int32 × tb_Hp} (h : fb_m_passes a0 w = some o) : tb_Ev tb_P 6 226 (0, tb_ent [.ref a0], [], w) (some (.int o.1), o.2) := by
  unfold fb_m_passes at h
  obtain ⟨r, hr⟩ : ∃ r : Option Value × tb_Hp, r = (some (.int o.1), o.2) := ⟨_, rfl⟩
  rw [← hr]
  show tb_Ev tb_P 6 226 (0, [(0, .ref a0)], [], w) r
  refine tb_Es (k := 2) (st' := (2, [(0, .ref a0)], [.ref a0, .ref a0], w)) rfl ?_
  replace h := Option.bind_eq_some_iff.mp h
  obtain ⟨x1, ex1, h⟩ := h
  obtain ⟨hkx1, hcall⟩ := tb_on_some ex1
  refine tb_e_cv (v := some (.int x1.1)) rfl (Or.inl ⟨_, rfl⟩) rfl rfl (Nat.le_of_ble_eq_true rfl) rfl (Nat.le_of_ble_eq_true rfl) hkx1 ((dc_m_letGo hcall).up (by decide)) ?_
  replace h := Option.bind_eq_some_iff.mp h
  obtain ⟨x2, ex2, h⟩ := h
  obtain ⟨hkx2, hcall⟩ := tb_on_some ex2
  refine tb_e_cv (v := none) rfl (Or.inl ⟨_, rfl⟩) rfl rfl (Nat.le_of_ble_eq_true rfl) rfl (Nat.le_of_ble_eq_true rfl) hkx2 ((dc_m_downsAll hcall).up (by decide)) ?_
  refine tb_Es (k := 1) (st' := (5, [(0, .ref a0)], [.ref a0], x2)) rfl ?_
  replace h := Option.bind_eq_some_iff.mp h
  obtain ⟨x3, ex3, h⟩ := h
  obtain ⟨hkx3, hcall⟩ := tb_on_some ex3
  refine tb_e_cv (v := none) rfl (Or.inl ⟨_, rfl⟩) rfl rfl (Nat.le_of_ble_eq_true rfl) rfl (Nat.le_of_ble_eq_true rfl) hkx3 ((dc_m_fade hcall).up (by decide)) ?_
  refine tb_Es (k := 1) (st' := (7, [(0, .ref a0)], [.ref a0], x3)) rfl ?_
  replace h := Option.bind_eq_some_iff.mp h
  obtain ⟨x4, ex4, h⟩ := h
  obtain ⟨hkx4, hcall⟩ := tb_on_some ex4
  refine tb_e_cv (v := some (.int x4.1)) rfl (Or.inl ⟨_, rfl⟩) rfl rfl (Nat.le_of_ble_eq_true rfl) rfl (Nat.le_of_ble_eq_true rfl) hkx4 ((dc_m_givesWay hcall).up (by decide)) ?_
  refine tb_Es (k := 2) (st' := (10, [(1, .int x4.1), (0, .ref a0)], [.ref a0], x4.2)) rfl ?_
  replace h := Option.bind_eq_some_iff.mp h
  obtain ⟨p5, ep5, h⟩ := h
  refine tb_e_gN rfl ep5 ?_
  refine tb_Es (k := 2) (st' := (13, [(1, .int x4.1), (0, .ref a0)], [.int 10, .ref p5, .int 10, .ref p5], x4.2)) rfl ?_
  replace h := Option.bind_eq_some_iff.mp h
  obtain ⟨x6, ex6, h⟩ := h
  refine tb_e_lI rfl (Or.inl ⟨rfl, rfl⟩) ex6 ?_
  refine tb_Es (k := 2) (st' := (16, [(1, .int x4.1), (0, .ref a0)], [.int (x6 + 1), .int 10, .ref p5], x4.2)) rfl ?_
  replace h := Option.bind_eq_some_iff.mp h
  obtain ⟨w7, ew7, h⟩ := h
  refine tb_e_tI rfl ew7 ?_
  refine tb_Es (k := 1) (st' := (18, [(1, .int x4.1), (0, .ref a0)], [.int x4.1], w7)) rfl ?_
  obtain rfl := Option.some.inj h
  subst hr
  exact tb_Er rfl rfl
/-! TannerBuntingModel.cut(I)I -/
def fb_m_cut (a0 : Nat) (a1 : Int32) (w : tb_Hp) : Option (Int32 × tb_Hp) := (tb_on 22 a0 w (fb_m_isUp a0 a1 w)).bind fun x1 => (if x1.1 = 0 then some (-1, x1.2) else (tb_on 22 a0 x1.2 (fb_m_keepsAct a0 x1.2)).bind fun x2 => (tb_on 22 a0 x2 (fb_m_downs a0 a1 x2)).bind fun x3 => (tb_on 22 a0 x3 (fb_m_givesWay a0 x3)).bind fun x4 => some (x4.1, x4.2))
set_option maxHeartbeats 4000000 in
set_option maxRecDepth 20000 in
theorem dc_m_cut {a0 : Nat} {a1 : Int32} {w : tb_Hp} {o : Int32 × tb_Hp} (h : fb_m_cut a0 a1 w = some o) : tb_Ev tb_P 6 247 (0, tb_ent [.ref a0, .int a1], [], w) (some (.int o.1), o.2) := by
  unfold fb_m_cut at h
  obtain ⟨r, hr⟩ : ∃ r : Option Value × tb_Hp, r = (some (.int o.1), o.2) := ⟨_, rfl⟩
  rw [← hr]
  show tb_Ev tb_P 6 247 (0, [(0, .ref a0), (1, .int a1)], [], w) r
  refine tb_Es (k := 2) (st' := (2, [(0, .ref a0), (1, .int a1)], [.int a1, .ref a0], w)) rfl ?_
  replace h := Option.bind_eq_some_iff.mp h
  obtain ⟨x1, ex1, h⟩ := h
  obtain ⟨hkx1, hcall⟩ := tb_on_some ex1
  refine tb_e_cv (v := some (.int x1.1)) rfl (Or.inl ⟨_, rfl⟩) rfl rfl (Nat.le_of_ble_eq_true rfl) rfl (Nat.le_of_ble_eq_true rfl) hkx1 ((dc_m_isUp hcall).up (by decide)) ?_
  refine tb_b_ine rfl (fun hc => ?_) (fun hc => ?_)
  · rw [if_pos hc] at h
    refine tb_Es (k := 1) (st' := (5, [(0, .ref a0), (1, .int a1)], [.int (-1)], x1.2)) rfl ?_
    obtain rfl := Option.some.inj h
    subst hr
    exact tb_Er rfl rfl
  · rw [if_neg hc] at h
    refine tb_Es (k := 1) (st' := (7, [(0, .ref a0), (1, .int a1)], [.ref a0], x1.2)) rfl ?_
    replace h := Option.bind_eq_some_iff.mp h
    obtain ⟨x2, ex2, h⟩ := h
    obtain ⟨hkx2, hcall⟩ := tb_on_some ex2
    refine tb_e_cv (v := none) rfl (Or.inl ⟨_, rfl⟩) rfl rfl (Nat.le_of_ble_eq_true rfl) rfl (Nat.le_of_ble_eq_true rfl) hkx2 ((dc_m_keepsAct hcall).up (by decide)) ?_
    refine tb_Es (k := 2) (st' := (10, [(0, .ref a0), (1, .int a1)], [.int a1, .ref a0], x2)) rfl ?_
    replace h := Option.bind_eq_some_iff.mp h
    obtain ⟨x3, ex3, h⟩ := h
    obtain ⟨hkx3, hcall⟩ := tb_on_some ex3
    refine tb_e_cv (v := none) rfl (Or.inl ⟨_, rfl⟩) rfl rfl (Nat.le_of_ble_eq_true rfl) rfl (Nat.le_of_ble_eq_true rfl) hkx3 ((dc_m_downs hcall).up (by decide)) ?_
    refine tb_Es (k := 1) (st' := (12, [(0, .ref a0), (1, .int a1)], [.ref a0], x3)) rfl ?_
    replace h := Option.bind_eq_some_iff.mp h
    obtain ⟨x4, ex4, h⟩ := h
    obtain ⟨hkx4, hcall⟩ := tb_on_some ex4
    refine tb_e_cv (v := some (.int x4.1)) rfl (Or.inl ⟨_, rfl⟩) rfl rfl (Nat.le_of_ble_eq_true rfl) rfl (Nat.le_of_ble_eq_true rfl) hkx4 ((dc_m_givesWay hcall).up (by decide)) ?_
    obtain rfl := Option.some.inj h
    subst hr
    exact tb_Er rfl rfl
/-! TannerBuntingModel.fallBy(I)I -/
def fb_m_fallBy (a0 : Nat) (a1 : Int32) (w : tb_Hp) : Option (Int32 × tb_Hp) := (tb_on 22 a0 w (fb_m_downsAll a0 a1 w)).bind fun x1 => (tb_on 22 a0 x1 (fb_m_givesWay a0 x1)).bind fun x2 => (tb_on 22 a0 x2.2 (fb_m_laysBack a0 x2.2)).bind fun x3 => some (x2.1, x3)
set_option maxHeartbeats 4000000 in
set_option maxRecDepth 20000 in
theorem dc_m_fallBy {a0 : Nat} {a1 : Int32} {w : tb_Hp} {o : Int32 × tb_Hp} (h : fb_m_fallBy a0 a1 w = some o) : tb_Ev tb_P 6 262 (0, tb_ent [.ref a0, .int a1], [], w) (some (.int o.1), o.2) := by
  unfold fb_m_fallBy at h
  obtain ⟨r, hr⟩ : ∃ r : Option Value × tb_Hp, r = (some (.int o.1), o.2) := ⟨_, rfl⟩
  rw [← hr]
  show tb_Ev tb_P 6 262 (0, [(0, .ref a0), (1, .int a1)], [], w) r
  refine tb_Es (k := 2) (st' := (2, [(0, .ref a0), (1, .int a1)], [.int a1, .ref a0], w)) rfl ?_
  replace h := Option.bind_eq_some_iff.mp h
  obtain ⟨x1, ex1, h⟩ := h
  obtain ⟨hkx1, hcall⟩ := tb_on_some ex1
  refine tb_e_cv (v := none) rfl (Or.inl ⟨_, rfl⟩) rfl rfl (Nat.le_of_ble_eq_true rfl) rfl (Nat.le_of_ble_eq_true rfl) hkx1 ((dc_m_downsAll hcall).up (by decide)) ?_
  refine tb_Es (k := 1) (st' := (4, [(0, .ref a0), (1, .int a1)], [.ref a0], x1)) rfl ?_
  replace h := Option.bind_eq_some_iff.mp h
  obtain ⟨x2, ex2, h⟩ := h
  obtain ⟨hkx2, hcall⟩ := tb_on_some ex2
  refine tb_e_cv (v := some (.int x2.1)) rfl (Or.inl ⟨_, rfl⟩) rfl rfl (Nat.le_of_ble_eq_true rfl) rfl (Nat.le_of_ble_eq_true rfl) hkx2 ((dc_m_givesWay hcall).up (by decide)) ?_
  refine tb_Es (k := 2) (st' := (7, [(2, .int x2.1), (0, .ref a0), (1, .int a1)], [.ref a0], x2.2)) rfl ?_
  replace h := Option.bind_eq_some_iff.mp h
  obtain ⟨x3, ex3, h⟩ := h
  obtain ⟨hkx3, hcall⟩ := tb_on_some ex3
  refine tb_e_cv (v := none) rfl (Or.inl ⟨_, rfl⟩) rfl rfl (Nat.le_of_ble_eq_true rfl) rfl (Nat.le_of_ble_eq_true rfl) hkx3 ((dc_m_laysBack hcall).up (by decide)) ?_
  refine tb_Es (k := 1) (st' := (9, [(2, .int x2.1), (0, .ref a0), (1, .int a1)], [.int x2.1], x3)) rfl ?_
  obtain rfl := Option.some.inj h
  subst hr
  exact tb_Er rfl rfl
/-! TannerBunting.propped(II)I -/
def fb_x_propped (a0 : Nat) (a1 : Int32) (a2 : Int32) (w : tb_Hp) : Option (Int32 × tb_Hp) := (tb_gN 21 5 a0 w).bind fun p1 => (tb_gN 15 0 p1 w).bind fun p2 => (tb_on 17 p2 w (fb_s_stands p2 a1 w)).bind fun x3 => (if x3.1 = 0 then some (-1, x3.2) else (fb_x_within a2 1 40 x3.2).bind fun x4 => (if x4.1 = 0 then some (-1, x4.2) else (tb_gN 21 10 a0 x4.2).bind fun p5 => (tb_gN 21 5 a0 x4.2).bind fun p6 => (tb_gN 15 0 p6 x4.2).bind fun p7 => (tb_on 21 a0 x4.2 (fb_x_ruleInForce a0 x4.2)).bind fun x8 => (tb_on 20 p5 x8.2 (fb_yr_leastProp p5 p7 x8.1 a1 a2 x8.2)).bind fun x9 => (if x9.1 = (-1) then some (-2, x9.2) else some (x9.1, x9.2))))
set_option maxHeartbeats 4000000 in
set_option maxRecDepth 20000 in
theorem dc_x_propped {a0 : Nat} {a1 : Int32} {a2 : Int32} {w : tb_Hp} {o : Int32 × tb_Hp} (h : fb_x_propped a0 a1 a2 w = some o) : tb_Ev tb_P 7 124 (0, tb_ent [.ref a0, .int a1, .int a2], [], w) (some (.int o.1), o.2) := by
  unfold fb_x_propped at h
  obtain ⟨r, hr⟩ : ∃ r : Option Value × tb_Hp, r = (some (.int o.1), o.2) := ⟨_, rfl⟩
  rw [← hr]
  show tb_Ev tb_P 7 124 (0, [(0, .ref a0), (1, .int a1), (2, .int a2)], [], w) r
  refine tb_Es (k := 1) (st' := (1, [(0, .ref a0), (1, .int a1), (2, .int a2)], [.ref a0], w)) rfl ?_
  replace h := Option.bind_eq_some_iff.mp h
  obtain ⟨p1, ep1, h⟩ := h
  refine tb_e_gN rfl ep1 ?_
  replace h := Option.bind_eq_some_iff.mp h
  obtain ⟨p2, ep2, h⟩ := h
  refine tb_e_gN rfl ep2 ?_
  refine tb_Es (k := 1) (st' := (4, [(0, .ref a0), (1, .int a1), (2, .int a2)], [.int a1, .ref p2], w)) rfl ?_
  replace h := Option.bind_eq_some_iff.mp h
  obtain ⟨x3, ex3, h⟩ := h
  obtain ⟨hkx3, hcall⟩ := tb_on_some ex3
  refine tb_e_cv (v := some (.int x3.1)) rfl (Or.inl ⟨_, rfl⟩) rfl rfl (Nat.le_of_ble_eq_true rfl) rfl (Nat.le_of_ble_eq_true rfl) hkx3 ((dc_s_stands hcall).up (by decide)) ?_
  refine tb_b_ieq rfl (fun hc => ?_) (fun hc => ?_)
  · rw [if_pos hc] at h
    refine tb_Es (k := 1) (st' := (12, [(0, .ref a0), (1, .int a1), (2, .int a2)], [.int (-1)], x3.2)) rfl ?_
    obtain rfl := Option.some.inj h
    subst hr
    exact tb_Er rfl rfl
  · rw [if_neg hc] at h
    refine tb_Es (k := 3) (st' := (9, [(0, .ref a0), (1, .int a1), (2, .int a2)], [.int 40, .int 1, .int a2], x3.2)) rfl ?_
    replace h := Option.bind_eq_some_iff.mp h
    obtain ⟨x4, ex4, h⟩ := h
    have hcall := ex4
    refine tb_e_cs (v := some (.int x4.1)) rfl rfl rfl (Nat.le_of_ble_eq_true rfl) rfl (Nat.le_of_ble_eq_true rfl) ((dc_x_within hcall).up (by decide)) ?_
    refine tb_b_ine rfl (fun hc => ?_) (fun hc => ?_)
    · rw [if_pos hc] at h
      refine tb_Es (k := 1) (st' := (12, [(0, .ref a0), (1, .int a1), (2, .int a2)], [.int (-1)], x4.2)) rfl ?_
      obtain rfl := Option.some.inj h
      subst hr
      exact tb_Er rfl rfl
    · rw [if_neg hc] at h
      refine tb_Es (k := 1) (st' := (14, [(0, .ref a0), (1, .int a1), (2, .int a2)], [.ref a0], x4.2)) rfl ?_
      replace h := Option.bind_eq_some_iff.mp h
      obtain ⟨p5, ep5, h⟩ := h
      refine tb_e_gN rfl ep5 ?_
      refine tb_Es (k := 1) (st' := (16, [(0, .ref a0), (1, .int a1), (2, .int a2)], [.ref a0, .ref p5], x4.2)) rfl ?_
      replace h := Option.bind_eq_some_iff.mp h
      obtain ⟨p6, ep6, h⟩ := h
      refine tb_e_gN rfl ep6 ?_
      replace h := Option.bind_eq_some_iff.mp h
      obtain ⟨p7, ep7, h⟩ := h
      refine tb_e_gN rfl ep7 ?_
      refine tb_Es (k := 1) (st' := (19, [(0, .ref a0), (1, .int a1), (2, .int a2)], [.ref a0, .ref p7, .ref p5], x4.2)) rfl ?_
      replace h := Option.bind_eq_some_iff.mp h
      obtain ⟨x8, ex8, h⟩ := h
      obtain ⟨hkx8, hcall⟩ := tb_on_some ex8
      refine tb_e_cv (v := some (va_rf x8.1)) rfl (Or.inl ⟨_, rfl⟩) rfl rfl (Nat.le_of_ble_eq_true rfl) rfl (Nat.le_of_ble_eq_true rfl) hkx8 ((dc_x_ruleInForce hcall).up (by decide)) ?_
      refine tb_Es (k := 2) (st' := (22, [(0, .ref a0), (1, .int a1), (2, .int a2)], [.int a2, .int a1, va_rf x8.1, .ref p7, .ref p5], x8.2)) rfl ?_
      replace h := Option.bind_eq_some_iff.mp h
      obtain ⟨x9, ex9, h⟩ := h
      obtain ⟨hkx9, hcall⟩ := tb_on_some ex9
      refine tb_e_cv (as := [.ref p7, va_rf x8.1, .int a1, .int a2]) (v := some (.int x9.1)) rfl (Or.inl ⟨_, rfl⟩) rfl rfl (Nat.le_of_ble_eq_true rfl) rfl (by simp only [List.map_cons, List.map_nil, List.sum_cons, List.sum_nil, tb_catq, tb_cR, tb_cI, tb_cJ, tb_cT]; exact Nat.le_of_ble_eq_true rfl) hkx9 ((dc_yr_leastProp hcall).up (by decide)) ?_
      refine tb_Es (k := 3) (st' := (26, [(3, .int x9.1), (0, .ref a0), (1, .int a1), (2, .int a2)], [.int (-1), .int x9.1], x9.2)) rfl ?_
      refine tb_b_cne rfl (fun hc => ?_) (fun hc => ?_)
      · rw [if_pos hc] at h
        refine tb_Es (k := 2) (st' := (30, [(3, .int x9.1), (0, .ref a0), (1, .int a1), (2, .int a2)], [.int (-2)], x9.2)) rfl ?_
        obtain rfl := Option.some.inj h
        subst hr
        exact tb_Er rfl rfl
      · rw [if_neg hc] at h
        refine tb_Es (k := 1) (st' := (30, [(3, .int x9.1), (0, .ref a0), (1, .int a1), (2, .int a2)], [.int x9.1], x9.2)) rfl ?_
        obtain rfl := Option.some.inj h
        subst hr
        exact tb_Er rfl rfl
/-! TannerBunting.newLine(III)I -/
def fj_x_newLine_j18 (v0 : Nat) (v1 : Int32) (v2 : Int32) (v3 : Int32) (s0 : Int32) (w : tb_Hp) : Option (Int32 × tb_Hp) := (tb_gN 21 5 v0 w).bind fun p2 => (tb_on 15 p2 w (fb_sc_isEmpty p2 w)).bind fun x3 => (if x3.1 = 0 then (if s0 = 0 then some (-2, x3.2) else (tb_gN 21 10 v0 x3.2).bind fun p4 => (tb_gN 21 5 v0 x3.2).bind fun p5 => (tb_gN 15 0 p5 x3.2).bind fun p6 => (tb_on 21 v0 x3.2 (fb_x_ruleInForce v0 x3.2)).bind fun x7 => (tb_on 20 p4 x7.2 (fb_yr_findNewLine p4 p6 x7.1 v1 v2 x7.2)).bind fun x8 => (if v3 = 0 then (tb_gN 21 10 v0 x8).bind fun p9 => (tb_gI 20 2 p9 x8).bind fun x10 => some (x10, x8) else (if v3 = 1 then (tb_gN 21 10 v0 x8).bind fun p11 => (tb_gI 20 3 p11 x8).bind fun x12 => some (x12, x8) else (tb_gN 21 10 v0 x8).bind fun p13 => (tb_gI 20 4 p13 x8).bind fun x14 => some (x14, x8)))) else some (-2, x3.2))
set_option maxHeartbeats 4000000 in
set_option maxRecDepth 20000 in
theorem dj_x_newLine_j18 (v0 : Nat) (v1 : Int32) (v2 : Int32) (v3 : Int32) (s0 : Int32) (w : tb_Hp) (o : Int32 × tb_Hp) (h : fj_x_newLine_j18 v0 v1 v2 v3 s0 w = some o) (r : Option Value × tb_Hp) (hr : r = (some (.int o.1), o.2)) : tb_Ev tb_P 7 134 (19, [(0, .ref v0), (1, .int v1), (2, .int v2), (3, .int v3)], [.int s0], w) r := by
  unfold fj_x_newLine_j18 at h
  refine tb_Es (k := 2) (st' := (21, [(4, .int s0), (0, .ref v0), (1, .int v1), (2, .int v2), (3, .int v3)], [.ref v0], w)) rfl ?_
  replace h := Option.bind_eq_some_iff.mp h
  obtain ⟨p2, ep2, h⟩ := h
  refine tb_e_gN rfl ep2 ?_
  replace h := Option.bind_eq_some_iff.mp h
  obtain ⟨x3, ex3, h⟩ := h
  obtain ⟨hkx3, hcall⟩ := tb_on_some ex3
  refine tb_e_cv (v := some (.int x3.1)) rfl (Or.inl ⟨_, rfl⟩) rfl rfl (Nat.le_of_ble_eq_true rfl) rfl (Nat.le_of_ble_eq_true rfl) hkx3 ((dc_sc_isEmpty hcall).up (by decide)) ?_
  refine tb_b_ine rfl (fun hc => ?_) (fun hc => ?_)
  · rw [if_pos hc] at h
    refine tb_Es (k := 1) (st' := (25, [(4, .int s0), (0, .ref v0), (1, .int v1), (2, .int v2), (3, .int v3)], [.int s0], x3.2)) rfl ?_
    refine tb_b_ine rfl (fun hc => ?_) (fun hc => ?_)
    · rw [if_pos hc] at h
      refine tb_Es (k := 1) (st' := (27, [(4, .int s0), (0, .ref v0), (1, .int v1), (2, .int v2), (3, .int v3)], [.int (-2)], x3.2)) rfl ?_
      obtain rfl := Option.some.inj h
      subst hr
      exact tb_Er rfl rfl
    · rw [if_neg hc] at h
      refine tb_Es (k := 1) (st' := (29, [(4, .int s0), (0, .ref v0), (1, .int v1), (2, .int v2), (3, .int v3)], [.ref v0], x3.2)) rfl ?_
      replace h := Option.bind_eq_some_iff.mp h
      obtain ⟨p4, ep4, h⟩ := h
      refine tb_e_gN rfl ep4 ?_
      refine tb_Es (k := 1) (st' := (31, [(4, .int s0), (0, .ref v0), (1, .int v1), (2, .int v2), (3, .int v3)], [.ref v0, .ref p4], x3.2)) rfl ?_
      replace h := Option.bind_eq_some_iff.mp h
      obtain ⟨p5, ep5, h⟩ := h
      refine tb_e_gN rfl ep5 ?_
      replace h := Option.bind_eq_some_iff.mp h
      obtain ⟨p6, ep6, h⟩ := h
      refine tb_e_gN rfl ep6 ?_
      refine tb_Es (k := 1) (st' := (34, [(4, .int s0), (0, .ref v0), (1, .int v1), (2, .int v2), (3, .int v3)], [.ref v0, .ref p6, .ref p4], x3.2)) rfl ?_
      replace h := Option.bind_eq_some_iff.mp h
      obtain ⟨x7, ex7, h⟩ := h
      obtain ⟨hkx7, hcall⟩ := tb_on_some ex7
      refine tb_e_cv (v := some (va_rf x7.1)) rfl (Or.inl ⟨_, rfl⟩) rfl rfl (Nat.le_of_ble_eq_true rfl) rfl (Nat.le_of_ble_eq_true rfl) hkx7 ((dc_x_ruleInForce hcall).up (by decide)) ?_
      refine tb_Es (k := 2) (st' := (37, [(4, .int s0), (0, .ref v0), (1, .int v1), (2, .int v2), (3, .int v3)], [.int v2, .int v1, va_rf x7.1, .ref p6, .ref p4], x7.2)) rfl ?_
      replace h := Option.bind_eq_some_iff.mp h
      obtain ⟨x8, ex8, h⟩ := h
      obtain ⟨hkx8, hcall⟩ := tb_on_some ex8
      refine tb_e_cv (as := [.ref p6, va_rf x7.1, .int v1, .int v2]) (v := none) rfl (Or.inl ⟨_, rfl⟩) rfl rfl (Nat.le_of_ble_eq_true rfl) rfl (by simp only [List.map_cons, List.map_nil, List.sum_cons, List.sum_nil, tb_catq, tb_cR, tb_cI, tb_cJ, tb_cT]; exact Nat.le_of_ble_eq_true rfl) hkx8 ((dc_yr_findNewLine hcall).up (by decide)) ?_
      refine tb_Es (k := 1) (st' := (39, [(4, .int s0), (0, .ref v0), (1, .int v1), (2, .int v2), (3, .int v3)], [.int v3], x8)) rfl ?_
      refine tb_w_lks rfl ?_
      refine tb_w_one (k := 0) (by decide) (fun hc => ?_) (fun hc => ?_)
      · rw [if_pos hc] at h
        refine tb_Es (k := 1) (st' := (41, [(4, .int s0), (0, .ref v0), (1, .int v1), (2, .int v2), (3, .int v3)], [.ref v0], x8)) rfl ?_
        replace h := Option.bind_eq_some_iff.mp h
        obtain ⟨p9, ep9, h⟩ := h
        refine tb_e_gN rfl ep9 ?_
        replace h := Option.bind_eq_some_iff.mp h
        obtain ⟨x10, ex10, h⟩ := h
        refine tb_e_gI rfl ex10 ?_
        obtain rfl := Option.some.inj h
        subst hr
        exact tb_Er rfl rfl
      rw [if_neg hc] at h
      refine tb_w_one (k := 1) (by decide) (fun hc => ?_) (fun hc => ?_)
      · rw [if_pos hc] at h
        refine tb_Es (k := 1) (st' := (45, [(4, .int s0), (0, .ref v0), (1, .int v1), (2, .int v2), (3, .int v3)], [.ref v0], x8)) rfl ?_
        replace h := Option.bind_eq_some_iff.mp h
        obtain ⟨p11, ep11, h⟩ := h
        refine tb_e_gN rfl ep11 ?_
        replace h := Option.bind_eq_some_iff.mp h
        obtain ⟨x12, ex12, h⟩ := h
        refine tb_e_gI rfl ex12 ?_
        obtain rfl := Option.some.inj h
        subst hr
        exact tb_Er rfl rfl
      rw [if_neg hc] at h
      refine tb_w_end ?_
      refine tb_Es (k := 1) (st' := (49, [(4, .int s0), (0, .ref v0), (1, .int v1), (2, .int v2), (3, .int v3)], [.ref v0], x8)) rfl ?_
      replace h := Option.bind_eq_some_iff.mp h
      obtain ⟨p13, ep13, h⟩ := h
      refine tb_e_gN rfl ep13 ?_
      replace h := Option.bind_eq_some_iff.mp h
      obtain ⟨x14, ex14, h⟩ := h
      refine tb_e_gI rfl ex14 ?_
      obtain rfl := Option.some.inj h
      subst hr
      exact tb_Er rfl rfl
  · rw [if_neg hc] at h
    refine tb_Es (k := 1) (st' := (27, [(4, .int s0), (0, .ref v0), (1, .int v1), (2, .int v2), (3, .int v3)], [.int (-2)], x3.2)) rfl ?_
    obtain rfl := Option.some.inj h
    subst hr
    exact tb_Er rfl rfl
def fb_x_newLine (a0 : Nat) (a1 : Int32) (a2 : Int32) (a3 : Int32) (w : tb_Hp) : Option (Int32 × tb_Hp) := (fb_x_within a1 1 40 w).bind fun x1 => (if x1.1 = 0 then fj_x_newLine_j18 a0 a1 a2 a3 0 x1.2 else (fb_x_within a2 1 40 x1.2).bind fun x15 => (if x15.1 = 0 then fj_x_newLine_j18 a0 a1 a2 a3 0 x15.2 else (fb_x_within a3 0 2 x15.2).bind fun x16 => (if x16.1 = 0 then fj_x_newLine_j18 a0 a1 a2 a3 0 x16.2 else fj_x_newLine_j18 a0 a1 a2 a3 1 x16.2)))
set_option maxHeartbeats 4000000 in
set_option maxRecDepth 20000 in
theorem dc_x_newLine {a0 : Nat} {a1 : Int32} {a2 : Int32} {a3 : Int32} {w : tb_Hp} {o : Int32 × tb_Hp} (h : fb_x_newLine a0 a1 a2 a3 w = some o) : tb_Ev tb_P 7 134 (0, tb_ent [.ref a0, .int a1, .int a2, .int a3], [], w) (some (.int o.1), o.2) := by
  unfold fb_x_newLine at h
  obtain ⟨r, hr⟩ : ∃ r : Option Value × tb_Hp, r = (some (.int o.1), o.2) := ⟨_, rfl⟩
  rw [← hr]
  show tb_Ev tb_P 7 134 (0, [(0, .ref a0), (1, .int a1), (2, .int a2), (3, .int a3)], [], w) r
  refine tb_Es (k := 3) (st' := (3, [(0, .ref a0), (1, .int a1), (2, .int a2), (3, .int a3)], [.int 40, .int 1, .int a1], w)) rfl ?_
  replace h := Option.bind_eq_some_iff.mp h
  obtain ⟨x1, ex1, h⟩ := h
  have hcall := ex1
  refine tb_e_cs (v := some (.int x1.1)) rfl rfl rfl (Nat.le_of_ble_eq_true rfl) rfl (Nat.le_of_ble_eq_true rfl) ((dc_x_within hcall).up (by decide)) ?_
  refine tb_b_ieq rfl (fun hc => ?_) (fun hc => ?_)
  · rw [if_pos hc] at h
    refine tb_Es (k := 2) (st' := (19, [(0, .ref a0), (1, .int a1), (2, .int a2), (3, .int a3)], [.int 0], x1.2)) rfl ?_
    exact dj_x_newLine_j18 a0 a1 a2 a3 0 x1.2 _ h r hr
  · rw [if_neg hc] at h
    refine tb_Es (k := 3) (st' := (8, [(0, .ref a0), (1, .int a1), (2, .int a2), (3, .int a3)], [.int 40, .int 1, .int a2], x1.2)) rfl ?_
    replace h := Option.bind_eq_some_iff.mp h
    obtain ⟨x15, ex15, h⟩ := h
    have hcall := ex15
    refine tb_e_cs (v := some (.int x15.1)) rfl rfl rfl (Nat.le_of_ble_eq_true rfl) rfl (Nat.le_of_ble_eq_true rfl) ((dc_x_within hcall).up (by decide)) ?_
    refine tb_b_ieq rfl (fun hc => ?_) (fun hc => ?_)
    · rw [if_pos hc] at h
      refine tb_Es (k := 2) (st' := (19, [(0, .ref a0), (1, .int a1), (2, .int a2), (3, .int a3)], [.int 0], x15.2)) rfl ?_
      exact dj_x_newLine_j18 a0 a1 a2 a3 0 x15.2 _ h r hr
    · rw [if_neg hc] at h
      refine tb_Es (k := 3) (st' := (13, [(0, .ref a0), (1, .int a1), (2, .int a2), (3, .int a3)], [.int 2, .int 0, .int a3], x15.2)) rfl ?_
      replace h := Option.bind_eq_some_iff.mp h
      obtain ⟨x16, ex16, h⟩ := h
      have hcall := ex16
      refine tb_e_cs (v := some (.int x16.1)) rfl rfl rfl (Nat.le_of_ble_eq_true rfl) rfl (Nat.le_of_ble_eq_true rfl) ((dc_x_within hcall).up (by decide)) ?_
      refine tb_b_ieq rfl (fun hc => ?_) (fun hc => ?_)
      · rw [if_pos hc] at h
        refine tb_Es (k := 2) (st' := (19, [(0, .ref a0), (1, .int a1), (2, .int a2), (3, .int a3)], [.int 0], x16.2)) rfl ?_
        exact dj_x_newLine_j18 a0 a1 a2 a3 0 x16.2 _ h r hr
      · rw [if_neg hc] at h
        refine tb_Es (k := 3) (st' := (19, [(0, .ref a0), (1, .int a1), (2, .int a2), (3, .int a3)], [.int 1], x16.2)) rfl ?_
        exact dj_x_newLine_j18 a0 a1 a2 a3 1 x16.2 _ h r hr
/-! TannerBunting.pulled(II)I -/
def fb_x_pulled (a0 : Nat) (a1 : Int32) (a2 : Int32) (w : tb_Hp) : Option (Int32 × tb_Hp) := (tb_gN 21 5 a0 w).bind fun p1 => (tb_gN 15 1 p1 w).bind fun p2 => (tb_on 17 p2 w (fb_s_isLine p2 a1 w)).bind fun x3 => (if x3.1 = 0 then some (-1, x3.2) else (fb_x_within a2 0 1 x3.2).bind fun x4 => (if x4.1 = 0 then some (-1, x4.2) else (tb_gN 21 11 a0 x4.2).bind fun p5 => (tb_gN 21 5 a0 x4.2).bind fun p6 => (tb_on 21 a0 x4.2 (fb_x_ruleInForce a0 x4.2)).bind fun x7 => (tb_on 16 p5 x7.2 (fb_so_findPulls p5 p6 x7.1 a1 x7.2)).bind fun x8 => (if a2 = 0 then (tb_gN 21 11 a0 x8).bind fun p9 => (tb_gI 16 0 p9 x8).bind fun x10 => some (x10, x8) else (tb_gN 21 11 a0 x8).bind fun p11 => (tb_gI 16 1 p11 x8).bind fun x12 => some (x12, x8))))
set_option maxHeartbeats 4000000 in
set_option maxRecDepth 20000 in
theorem dc_x_pulled {a0 : Nat} {a1 : Int32} {a2 : Int32} {w : tb_Hp} {o : Int32 × tb_Hp} (h : fb_x_pulled a0 a1 a2 w = some o) : tb_Ev tb_P 7 137 (0, tb_ent [.ref a0, .int a1, .int a2], [], w) (some (.int o.1), o.2) := by
  unfold fb_x_pulled at h
  obtain ⟨r, hr⟩ : ∃ r : Option Value × tb_Hp, r = (some (.int o.1), o.2) := ⟨_, rfl⟩
  rw [← hr]
  show tb_Ev tb_P 7 137 (0, [(0, .ref a0), (1, .int a1), (2, .int a2)], [], w) r
  refine tb_Es (k := 1) (st' := (1, [(0, .ref a0), (1, .int a1), (2, .int a2)], [.ref a0], w)) rfl ?_
  replace h := Option.bind_eq_some_iff.mp h
  obtain ⟨p1, ep1, h⟩ := h
  refine tb_e_gN rfl ep1 ?_
  replace h := Option.bind_eq_some_iff.mp h
  obtain ⟨p2, ep2, h⟩ := h
  refine tb_e_gN rfl ep2 ?_
  refine tb_Es (k := 1) (st' := (4, [(0, .ref a0), (1, .int a1), (2, .int a2)], [.int a1, .ref p2], w)) rfl ?_
  replace h := Option.bind_eq_some_iff.mp h
  obtain ⟨x3, ex3, h⟩ := h
  obtain ⟨hkx3, hcall⟩ := tb_on_some ex3
  refine tb_e_cv (v := some (.int x3.1)) rfl (Or.inl ⟨_, rfl⟩) rfl rfl (Nat.le_of_ble_eq_true rfl) rfl (Nat.le_of_ble_eq_true rfl) hkx3 ((dc_s_isLine hcall).up (by decide)) ?_
  refine tb_b_ieq rfl (fun hc => ?_) (fun hc => ?_)
  · rw [if_pos hc] at h
    refine tb_Es (k := 1) (st' := (12, [(0, .ref a0), (1, .int a1), (2, .int a2)], [.int (-1)], x3.2)) rfl ?_
    obtain rfl := Option.some.inj h
    subst hr
    exact tb_Er rfl rfl
  · rw [if_neg hc] at h
    refine tb_Es (k := 3) (st' := (9, [(0, .ref a0), (1, .int a1), (2, .int a2)], [.int 1, .int 0, .int a2], x3.2)) rfl ?_
    replace h := Option.bind_eq_some_iff.mp h
    obtain ⟨x4, ex4, h⟩ := h
    have hcall := ex4
    refine tb_e_cs (v := some (.int x4.1)) rfl rfl rfl (Nat.le_of_ble_eq_true rfl) rfl (Nat.le_of_ble_eq_true rfl) ((dc_x_within hcall).up (by decide)) ?_
    refine tb_b_ine rfl (fun hc => ?_) (fun hc => ?_)
    · rw [if_pos hc] at h
      refine tb_Es (k := 1) (st' := (12, [(0, .ref a0), (1, .int a1), (2, .int a2)], [.int (-1)], x4.2)) rfl ?_
      obtain rfl := Option.some.inj h
      subst hr
      exact tb_Er rfl rfl
    · rw [if_neg hc] at h
      refine tb_Es (k := 1) (st' := (14, [(0, .ref a0), (1, .int a1), (2, .int a2)], [.ref a0], x4.2)) rfl ?_
      replace h := Option.bind_eq_some_iff.mp h
      obtain ⟨p5, ep5, h⟩ := h
      refine tb_e_gN rfl ep5 ?_
      refine tb_Es (k := 1) (st' := (16, [(0, .ref a0), (1, .int a1), (2, .int a2)], [.ref a0, .ref p5], x4.2)) rfl ?_
      replace h := Option.bind_eq_some_iff.mp h
      obtain ⟨p6, ep6, h⟩ := h
      refine tb_e_gN rfl ep6 ?_
      refine tb_Es (k := 1) (st' := (18, [(0, .ref a0), (1, .int a1), (2, .int a2)], [.ref a0, .ref p6, .ref p5], x4.2)) rfl ?_
      replace h := Option.bind_eq_some_iff.mp h
      obtain ⟨x7, ex7, h⟩ := h
      obtain ⟨hkx7, hcall⟩ := tb_on_some ex7
      refine tb_e_cv (v := some (va_rf x7.1)) rfl (Or.inl ⟨_, rfl⟩) rfl rfl (Nat.le_of_ble_eq_true rfl) rfl (Nat.le_of_ble_eq_true rfl) hkx7 ((dc_x_ruleInForce hcall).up (by decide)) ?_
      refine tb_Es (k := 1) (st' := (20, [(0, .ref a0), (1, .int a1), (2, .int a2)], [.int a1, va_rf x7.1, .ref p6, .ref p5], x7.2)) rfl ?_
      replace h := Option.bind_eq_some_iff.mp h
      obtain ⟨x8, ex8, h⟩ := h
      obtain ⟨hkx8, hcall⟩ := tb_on_some ex8
      refine tb_e_cv (as := [.ref p6, va_rf x7.1, .int a1]) (v := none) rfl (Or.inl ⟨_, rfl⟩) rfl rfl (Nat.le_of_ble_eq_true rfl) rfl (by simp only [List.map_cons, List.map_nil, List.sum_cons, List.sum_nil, tb_catq, tb_cR, tb_cI, tb_cJ, tb_cT]; exact Nat.le_of_ble_eq_true rfl) hkx8 ((dc_so_findPulls hcall).up (by decide)) ?_
      refine tb_Es (k := 1) (st' := (22, [(0, .ref a0), (1, .int a1), (2, .int a2)], [.int a2], x8)) rfl ?_
      refine tb_b_ine rfl (fun hc => ?_) (fun hc => ?_)
      · rw [if_pos hc] at h
        refine tb_Es (k := 1) (st' := (24, [(0, .ref a0), (1, .int a1), (2, .int a2)], [.ref a0], x8)) rfl ?_
        replace h := Option.bind_eq_some_iff.mp h
        obtain ⟨p9, ep9, h⟩ := h
        refine tb_e_gN rfl ep9 ?_
        replace h := Option.bind_eq_some_iff.mp h
        obtain ⟨x10, ex10, h⟩ := h
        refine tb_e_gI rfl ex10 ?_
        refine tb_Es (k := 1) (st' := (30, [(0, .ref a0), (1, .int a1), (2, .int a2)], [.int x10], x8)) rfl ?_
        obtain rfl := Option.some.inj h
        subst hr
        exact tb_Er rfl rfl
      · rw [if_neg hc] at h
        refine tb_Es (k := 1) (st' := (28, [(0, .ref a0), (1, .int a1), (2, .int a2)], [.ref a0], x8)) rfl ?_
        replace h := Option.bind_eq_some_iff.mp h
        obtain ⟨p11, ep11, h⟩ := h
        refine tb_e_gN rfl ep11 ?_
        replace h := Option.bind_eq_some_iff.mp h
        obtain ⟨x12, ex12, h⟩ := h
        refine tb_e_gI rfl ex12 ?_
        obtain rfl := Option.some.inj h
        subst hr
        exact tb_Er rfl rfl
/-! TannerBunting.ruled(I)I -/
def fb_x_ruled (a0 : Nat) (a1 : Int32) (w : tb_Hp) : Option (Int32 × tb_Hp) := (tb_gN 21 5 a0 w).bind fun p1 => (tb_on 15 p1 w (fb_sc_isEmpty p1 w)).bind fun x2 => (if x2.1 = 0 then (fb_x_within a1 0 1 x2.2).bind fun x3 => (if x3.1 = 0 then some (-3, x3.2) else (tb_gN 21 11 a0 x3.2).bind fun p4 => (tb_gN 21 5 a0 x3.2).bind fun p5 => (tb_gN 21 3 a0 x3.2).bind fun p6 => (tb_gI 21 4 a0 x3.2).bind fun x7 => (tb_on 16 p4 x3.2 (fb_so_findRules p4 p5 p6 x7 (-1) x3.2)).bind fun x8 => (if a1 = 0 then (tb_gN 21 11 a0 x8).bind fun p9 => (tb_gI 16 0 p9 x8).bind fun x10 => some (x10, x8) else (tb_gN 21 11 a0 x8).bind fun p11 => (tb_gI 16 1 p11 x8).bind fun x12 => some (x12, x8))) else some (-3, x2.2))
set_option maxHeartbeats 4000000 in
set_option maxRecDepth 20000 in
theorem dc_x_ruled {a0 : Nat} {a1 : Int32} {w : tb_Hp} {o : Int32 × tb_Hp} (h : fb_x_ruled a0 a1 w = some o) : tb_Ev tb_P 7 154 (0, tb_ent [.ref a0, .int a1], [], w) (some (.int o.1), o.2) := by
  unfold fb_x_ruled at h
  obtain ⟨r, hr⟩ : ∃ r : Option Value × tb_Hp, r = (some (.int o.1), o.2) := ⟨_, rfl⟩
  rw [← hr]
  show tb_Ev tb_P 7 154 (0, [(0, .ref a0), (1, .int a1)], [], w) r
  refine tb_Es (k := 1) (st' := (1, [(0, .ref a0), (1, .int a1)], [.ref a0], w)) rfl ?_
  replace h := Option.bind_eq_some_iff.mp h
  obtain ⟨p1, ep1, h⟩ := h
  refine tb_e_gN rfl ep1 ?_
  replace h := Option.bind_eq_some_iff.mp h
  obtain ⟨x2, ex2, h⟩ := h
  obtain ⟨hkx2, hcall⟩ := tb_on_some ex2
  refine tb_e_cv (v := some (.int x2.1)) rfl (Or.inl ⟨_, rfl⟩) rfl rfl (Nat.le_of_ble_eq_true rfl) rfl (Nat.le_of_ble_eq_true rfl) hkx2 ((dc_sc_isEmpty hcall).up (by decide)) ?_
  refine tb_b_ine rfl (fun hc => ?_) (fun hc => ?_)
  · rw [if_pos hc] at h
    refine tb_Es (k := 3) (st' := (7, [(0, .ref a0), (1, .int a1)], [.int 1, .int 0, .int a1], x2.2)) rfl ?_
    replace h := Option.bind_eq_some_iff.mp h
    obtain ⟨x3, ex3, h⟩ := h
    have hcall := ex3
    refine tb_e_cs (v := some (.int x3.1)) rfl rfl rfl (Nat.le_of_ble_eq_true rfl) rfl (Nat.le_of_ble_eq_true rfl) ((dc_x_within hcall).up (by decide)) ?_
    refine tb_b_ine rfl (fun hc => ?_) (fun hc => ?_)
    · rw [if_pos hc] at h
      refine tb_Es (k := 1) (st' := (10, [(0, .ref a0), (1, .int a1)], [.int (-3)], x3.2)) rfl ?_
      obtain rfl := Option.some.inj h
      subst hr
      exact tb_Er rfl rfl
    · rw [if_neg hc] at h
      refine tb_Es (k := 1) (st' := (12, [(0, .ref a0), (1, .int a1)], [.ref a0], x3.2)) rfl ?_
      replace h := Option.bind_eq_some_iff.mp h
      obtain ⟨p4, ep4, h⟩ := h
      refine tb_e_gN rfl ep4 ?_
      refine tb_Es (k := 1) (st' := (14, [(0, .ref a0), (1, .int a1)], [.ref a0, .ref p4], x3.2)) rfl ?_
      replace h := Option.bind_eq_some_iff.mp h
      obtain ⟨p5, ep5, h⟩ := h
      refine tb_e_gN rfl ep5 ?_
      refine tb_Es (k := 1) (st' := (16, [(0, .ref a0), (1, .int a1)], [.ref a0, .ref p5, .ref p4], x3.2)) rfl ?_
      replace h := Option.bind_eq_some_iff.mp h
      obtain ⟨p6, ep6, h⟩ := h
      refine tb_e_gN rfl ep6 ?_
      refine tb_Es (k := 1) (st' := (18, [(0, .ref a0), (1, .int a1)], [.ref a0, .ref p6, .ref p5, .ref p4], x3.2)) rfl ?_
      replace h := Option.bind_eq_some_iff.mp h
      obtain ⟨x7, ex7, h⟩ := h
      refine tb_e_gI rfl ex7 ?_
      refine tb_Es (k := 1) (st' := (20, [(0, .ref a0), (1, .int a1)], [.int (-1), .int x7, .ref p6, .ref p5, .ref p4], x3.2)) rfl ?_
      replace h := Option.bind_eq_some_iff.mp h
      obtain ⟨x8, ex8, h⟩ := h
      obtain ⟨hkx8, hcall⟩ := tb_on_some ex8
      refine tb_e_cv (v := none) rfl (Or.inl ⟨_, rfl⟩) rfl rfl (Nat.le_of_ble_eq_true rfl) rfl (Nat.le_of_ble_eq_true rfl) hkx8 ((dc_so_findRules hcall).up (by decide)) ?_
      refine tb_Es (k := 1) (st' := (22, [(0, .ref a0), (1, .int a1)], [.int a1], x8)) rfl ?_
      refine tb_b_ine rfl (fun hc => ?_) (fun hc => ?_)
      · rw [if_pos hc] at h
        refine tb_Es (k := 1) (st' := (24, [(0, .ref a0), (1, .int a1)], [.ref a0], x8)) rfl ?_
        replace h := Option.bind_eq_some_iff.mp h
        obtain ⟨p9, ep9, h⟩ := h
        refine tb_e_gN rfl ep9 ?_
        replace h := Option.bind_eq_some_iff.mp h
        obtain ⟨x10, ex10, h⟩ := h
        refine tb_e_gI rfl ex10 ?_
        refine tb_Es (k := 1) (st' := (30, [(0, .ref a0), (1, .int a1)], [.int x10], x8)) rfl ?_
        obtain rfl := Option.some.inj h
        subst hr
        exact tb_Er rfl rfl
      · rw [if_neg hc] at h
        refine tb_Es (k := 1) (st' := (28, [(0, .ref a0), (1, .int a1)], [.ref a0], x8)) rfl ?_
        replace h := Option.bind_eq_some_iff.mp h
        obtain ⟨p11, ep11, h⟩ := h
        refine tb_e_gN rfl ep11 ?_
        replace h := Option.bind_eq_some_iff.mp h
        obtain ⟨x12, ex12, h⟩ := h
        refine tb_e_gI rfl ex12 ?_
        obtain rfl := Option.some.inj h
        subst hr
        exact tb_Er rfl rfl
  · rw [if_neg hc] at h
    refine tb_Es (k := 1) (st' := (10, [(0, .ref a0), (1, .int a1)], [.int (-3)], x2.2)) rfl ?_
    obtain rfl := Option.some.inj h
    subst hr
    exact tb_Er rfl rfl
/-! TannerBunting.look(II)I -/
def fb_x_look (a0 : Nat) (a1 : Int32) (a2 : Int32) (w : tb_Hp) : Option (Int32 × tb_Hp) := (tb_gN 21 5 a0 w).bind fun p1 => (tb_on 15 p1 w (fb_sc_isEmpty p1 w)).bind fun x2 => (if x2.1 = 0 then (fb_x_within a1 0 60 x2.2).bind fun x3 => (if x3.1 = 0 then some (-1, x3.2) else (fb_x_within a2 0 1 x3.2).bind fun x4 => (if x4.1 = 0 then some (-1, x4.2) else (tb_gN 21 11 a0 x4.2).bind fun p5 => (tb_gN 21 5 a0 x4.2).bind fun p6 => (tb_gN 21 3 a0 x4.2).bind fun p7 => (tb_gI 21 4 a0 x4.2).bind fun x8 => (tb_on 16 p5 x4.2 (fb_so_findRules p5 p6 p7 x8 a1 x4.2)).bind fun x9 => (tb_gN 21 11 a0 x9).bind fun p10 => (tb_gI 16 0 p10 x9).bind fun x11 => (if x11 = 0 then some (-2, x9) else (tb_gN 21 11 a0 x9).bind fun p12 => (tb_gN 21 5 a0 x9).bind fun p13 => (tb_gN 15 1 p13 x9).bind fun p14 => (tb_on 17 p14 x9 (fb_s_houses p14 x9)).bind fun x15 => (tb_on 16 p12 x15.2 (fb_so_bestParting p12 x15.1 x15.2)).bind fun x16 => (if a2 = 0 then some (x16.1, x16.2) else (tb_gN 21 11 a0 x16.2).bind fun p17 => (tb_on 16 p17 x16.2 (fb_so_mostAlike p17 x16.1 x16.2)).bind fun x18 => some (x18.1, x18.2))))) else some (-1, x2.2))
set_option maxHeartbeats 4000000 in
set_option maxRecDepth 20000 in
theorem dc_x_look {a0 : Nat} {a1 : Int32} {a2 : Int32} {w : tb_Hp} {o : Int32 × tb_Hp} (h : fb_x_look a0 a1 a2 w = some o) : tb_Ev tb_P 7 157 (0, tb_ent [.ref a0, .int a1, .int a2], [], w) (some (.int o.1), o.2) := by
  unfold fb_x_look at h
  obtain ⟨r, hr⟩ : ∃ r : Option Value × tb_Hp, r = (some (.int o.1), o.2) := ⟨_, rfl⟩
  rw [← hr]
  show tb_Ev tb_P 7 157 (0, [(0, .ref a0), (1, .int a1), (2, .int a2)], [], w) r
  refine tb_Es (k := 1) (st' := (1, [(0, .ref a0), (1, .int a1), (2, .int a2)], [.ref a0], w)) rfl ?_
  replace h := Option.bind_eq_some_iff.mp h
  obtain ⟨p1, ep1, h⟩ := h
  refine tb_e_gN rfl ep1 ?_
  replace h := Option.bind_eq_some_iff.mp h
  obtain ⟨x2, ex2, h⟩ := h
  obtain ⟨hkx2, hcall⟩ := tb_on_some ex2
  refine tb_e_cv (v := some (.int x2.1)) rfl (Or.inl ⟨_, rfl⟩) rfl rfl (Nat.le_of_ble_eq_true rfl) rfl (Nat.le_of_ble_eq_true rfl) hkx2 ((dc_sc_isEmpty hcall).up (by decide)) ?_
  refine tb_b_ine rfl (fun hc => ?_) (fun hc => ?_)
  · rw [if_pos hc] at h
    refine tb_Es (k := 3) (st' := (7, [(0, .ref a0), (1, .int a1), (2, .int a2)], [.int 60, .int 0, .int a1], x2.2)) rfl ?_
    replace h := Option.bind_eq_some_iff.mp h
    obtain ⟨x3, ex3, h⟩ := h
    have hcall := ex3
    refine tb_e_cs (v := some (.int x3.1)) rfl rfl rfl (Nat.le_of_ble_eq_true rfl) rfl (Nat.le_of_ble_eq_true rfl) ((dc_x_within hcall).up (by decide)) ?_
    refine tb_b_ieq rfl (fun hc => ?_) (fun hc => ?_)
    · rw [if_pos hc] at h
      refine tb_Es (k := 1) (st' := (15, [(0, .ref a0), (1, .int a1), (2, .int a2)], [.int (-1)], x3.2)) rfl ?_
      obtain rfl := Option.some.inj h
      subst hr
      exact tb_Er rfl rfl
    · rw [if_neg hc] at h
      refine tb_Es (k := 3) (st' := (12, [(0, .ref a0), (1, .int a1), (2, .int a2)], [.int 1, .int 0, .int a2], x3.2)) rfl ?_
      replace h := Option.bind_eq_some_iff.mp h
      obtain ⟨x4, ex4, h⟩ := h
      have hcall := ex4
      refine tb_e_cs (v := some (.int x4.1)) rfl rfl rfl (Nat.le_of_ble_eq_true rfl) rfl (Nat.le_of_ble_eq_true rfl) ((dc_x_within hcall).up (by decide)) ?_
      refine tb_b_ine rfl (fun hc => ?_) (fun hc => ?_)
      · rw [if_pos hc] at h
        refine tb_Es (k := 1) (st' := (15, [(0, .ref a0), (1, .int a1), (2, .int a2)], [.int (-1)], x4.2)) rfl ?_
        obtain rfl := Option.some.inj h
        subst hr
        exact tb_Er rfl rfl
      · rw [if_neg hc] at h
        refine tb_Es (k := 1) (st' := (17, [(0, .ref a0), (1, .int a1), (2, .int a2)], [.ref a0], x4.2)) rfl ?_
        replace h := Option.bind_eq_some_iff.mp h
        obtain ⟨p5, ep5, h⟩ := h
        refine tb_e_gN rfl ep5 ?_
        refine tb_Es (k := 1) (st' := (19, [(0, .ref a0), (1, .int a1), (2, .int a2)], [.ref a0, .ref p5], x4.2)) rfl ?_
        replace h := Option.bind_eq_some_iff.mp h
        obtain ⟨p6, ep6, h⟩ := h
        refine tb_e_gN rfl ep6 ?_
        refine tb_Es (k := 1) (st' := (21, [(0, .ref a0), (1, .int a1), (2, .int a2)], [.ref a0, .ref p6, .ref p5], x4.2)) rfl ?_
        replace h := Option.bind_eq_some_iff.mp h
        obtain ⟨p7, ep7, h⟩ := h
        refine tb_e_gN rfl ep7 ?_
        refine tb_Es (k := 1) (st' := (23, [(0, .ref a0), (1, .int a1), (2, .int a2)], [.ref a0, .ref p7, .ref p6, .ref p5], x4.2)) rfl ?_
        replace h := Option.bind_eq_some_iff.mp h
        obtain ⟨x8, ex8, h⟩ := h
        refine tb_e_gI rfl ex8 ?_
        refine tb_Es (k := 1) (st' := (25, [(0, .ref a0), (1, .int a1), (2, .int a2)], [.int a1, .int x8, .ref p7, .ref p6, .ref p5], x4.2)) rfl ?_
        replace h := Option.bind_eq_some_iff.mp h
        obtain ⟨x9, ex9, h⟩ := h
        obtain ⟨hkx9, hcall⟩ := tb_on_some ex9
        refine tb_e_cv (v := none) rfl (Or.inl ⟨_, rfl⟩) rfl rfl (Nat.le_of_ble_eq_true rfl) rfl (Nat.le_of_ble_eq_true rfl) hkx9 ((dc_so_findRules hcall).up (by decide)) ?_
        refine tb_Es (k := 1) (st' := (27, [(0, .ref a0), (1, .int a1), (2, .int a2)], [.ref a0], x9)) rfl ?_
        replace h := Option.bind_eq_some_iff.mp h
        obtain ⟨p10, ep10, h⟩ := h
        refine tb_e_gN rfl ep10 ?_
        replace h := Option.bind_eq_some_iff.mp h
        obtain ⟨x11, ex11, h⟩ := h
        refine tb_e_gI rfl ex11 ?_
        refine tb_b_ine rfl (fun hc => ?_) (fun hc => ?_)
        · rw [if_pos hc] at h
          refine tb_Es (k := 1) (st' := (31, [(0, .ref a0), (1, .int a1), (2, .int a2)], [.int (-2)], x9)) rfl ?_
          obtain rfl := Option.some.inj h
          subst hr
          exact tb_Er rfl rfl
        · rw [if_neg hc] at h
          refine tb_Es (k := 1) (st' := (33, [(0, .ref a0), (1, .int a1), (2, .int a2)], [.ref a0], x9)) rfl ?_
          replace h := Option.bind_eq_some_iff.mp h
          obtain ⟨p12, ep12, h⟩ := h
          refine tb_e_gN rfl ep12 ?_
          refine tb_Es (k := 1) (st' := (35, [(0, .ref a0), (1, .int a1), (2, .int a2)], [.ref a0, .ref p12], x9)) rfl ?_
          replace h := Option.bind_eq_some_iff.mp h
          obtain ⟨p13, ep13, h⟩ := h
          refine tb_e_gN rfl ep13 ?_
          replace h := Option.bind_eq_some_iff.mp h
          obtain ⟨p14, ep14, h⟩ := h
          refine tb_e_gN rfl ep14 ?_
          replace h := Option.bind_eq_some_iff.mp h
          obtain ⟨x15, ex15, h⟩ := h
          obtain ⟨hkx15, hcall⟩ := tb_on_some ex15
          refine tb_e_cv (v := some (.int x15.1)) rfl (Or.inl ⟨_, rfl⟩) rfl rfl (Nat.le_of_ble_eq_true rfl) rfl (Nat.le_of_ble_eq_true rfl) hkx15 ((dc_s_houses hcall).up (by decide)) ?_
          replace h := Option.bind_eq_some_iff.mp h
          obtain ⟨x16, ex16, h⟩ := h
          obtain ⟨hkx16, hcall⟩ := tb_on_some ex16
          refine tb_e_cv (v := some (.int x16.1)) rfl (Or.inl ⟨_, rfl⟩) rfl rfl (Nat.le_of_ble_eq_true rfl) rfl (Nat.le_of_ble_eq_true rfl) hkx16 ((dc_so_bestParting hcall).up (by decide)) ?_
          refine tb_Es (k := 2) (st' := (41, [(3, .int x16.1), (0, .ref a0), (1, .int a1), (2, .int a2)], [.int a2], x16.2)) rfl ?_
          refine tb_b_ine rfl (fun hc => ?_) (fun hc => ?_)
          · rw [if_pos hc] at h
            refine tb_Es (k := 2) (st' := (48, [(3, .int x16.1), (0, .ref a0), (1, .int a1), (2, .int a2)], [.int x16.1], x16.2)) rfl ?_
            obtain rfl := Option.some.inj h
            subst hr
            exact tb_Er rfl rfl
          · rw [if_neg hc] at h
            refine tb_Es (k := 1) (st' := (45, [(3, .int x16.1), (0, .ref a0), (1, .int a1), (2, .int a2)], [.ref a0], x16.2)) rfl ?_
            replace h := Option.bind_eq_some_iff.mp h
            obtain ⟨p17, ep17, h⟩ := h
            refine tb_e_gN rfl ep17 ?_
            refine tb_Es (k := 1) (st' := (47, [(3, .int x16.1), (0, .ref a0), (1, .int a1), (2, .int a2)], [.int x16.1, .ref p17], x16.2)) rfl ?_
            replace h := Option.bind_eq_some_iff.mp h
            obtain ⟨x18, ex18, h⟩ := h
            obtain ⟨hkx18, hcall⟩ := tb_on_some ex18
            refine tb_e_cv (v := some (.int x18.1)) rfl (Or.inl ⟨_, rfl⟩) rfl rfl (Nat.le_of_ble_eq_true rfl) rfl (Nat.le_of_ble_eq_true rfl) hkx18 ((dc_so_mostAlike hcall).up (by decide)) ?_
            obtain rfl := Option.some.inj h
            subst hr
            exact tb_Er rfl rfl
  · rw [if_neg hc] at h
    refine tb_Es (k := 1) (st' := (15, [(0, .ref a0), (1, .int a1), (2, .int a2)], [.int (-1)], x2.2)) rfl ?_
    obtain rfl := Option.some.inj h
    subst hr
    exact tb_Er rfl rfl
