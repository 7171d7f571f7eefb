/-! TannerBunting$Years.snow(LTannerBunting$Scene;[IIII)V -/
def fl_yr_snow_21 : Nat → Nat → Nat → (Option Nat) → Int32 → Int32 → Int32 → Int32 → Int32 → tb_Hp → Option (Nat × Nat × (Option Nat) × Int32 × Int32 × Int32 × Int32 × tb_Hp)
  | 0, _, _, _, _, _, _, _, _, _ => none
  | n + 1, v0, v1, v2, v3, v4, v5, v6, v7, w => (if v7 < v4 then (tb_on 20 v0 w (fb_yr_snowOnce v0 v5 w)).bind fun x7 => (tb_gN 20 5 v0 x7).bind fun p8 => (tb_gN 20 0 v0 x7).bind fun p9 => (tb_on 11 p8 x7 (fb_jg_passYear p8 p9 v2 x7)).bind fun x10 => fl_yr_snow_21 n v0 v1 v2 v3 v4 v5 v6 (v7 + 1) x10.2 else some ((v0, v1, v2, v3, v4, v5, v6, w)))
set_option maxHeartbeats 4000000 in
set_option maxRecDepth 20000 in
theorem dl_yr_snow_21 : ∀ (n : Nat) (v0 : Nat) (v1 : Nat) (v2 : Option Nat) (v3 : Int32) (v4 : Int32) (v5 : Int32) (v6 : Int32) (v7 : Int32) (w : tb_Hp) (o : Nat × Nat × (Option Nat) × Int32 × Int32 × Int32 × Int32 × tb_Hp), fl_yr_snow_21 n v0 v1 v2 v3 v4 v5 v6 v7 w = some o → ∀ (r : Option Value × tb_Hp), tb_Ev tb_P 5 162 (39, [(0, .ref o.1), (1, .ref o.2.1), (2, va_rf o.2.2.1), (3, .int o.2.2.2.1), (4, .int o.2.2.2.2.1), (5, .int o.2.2.2.2.2.1), (6, .int o.2.2.2.2.2.2.1)], [], o.2.2.2.2.2.2.2) r → tb_Ev tb_P 5 162 (23, [(0, .ref v0), (1, .ref v1), (2, va_rf v2), (3, .int v3), (4, .int v4), (5, .int v5), (6, .int v6), (7, .int v7)], [], w) r := by
  intro n
  induction n with
  | zero =>
    intro v0 v1 v2 v3 v4 v5 v6 v7 w o h
    cases h
  | succ n ih =>
    intro v0 v1 v2 v3 v4 v5 v6 v7 w o h r hx
    unfold fl_yr_snow_21 at h
    refine tb_Es (k := 2) (st' := (25, [(0, .ref v0), (1, .ref v1), (2, va_rf v2), (3, .int v3), (4, .int v4), (5, .int v5), (6, .int v6), (7, .int v7)], [.int v4, .int v7], w)) rfl ?_
    refine tb_b_cge rfl (fun hc => ?_) (fun hc => ?_)
    · rw [if_pos hc] at h
      refine tb_Es (k := 2) (st' := (28, [(0, .ref v0), (1, .ref v1), (2, va_rf v2), (3, .int v3), (4, .int v4), (5, .int v5), (6, .int v6), (7, .int v7)], [.int v5, .ref v0], w)) rfl ?_
      replace h := Option.bind_eq_some_iff.mp h
      obtain ⟨x7, ex7, h⟩ := h
      obtain ⟨hkx7, hcall⟩ := tb_on_some ex7
      refine tb_e_cv (v := none) rfl (Or.inl ⟨_, rfl⟩) rfl rfl (Nat.le_of_ble_eq_true rfl) rfl (Nat.le_of_ble_eq_true rfl) hkx7 ((dc_yr_snowOnce hcall).up (by decide)) ?_
      refine tb_Es (k := 1) (st' := (30, [(0, .ref v0), (1, .ref v1), (2, va_rf v2), (3, .int v3), (4, .int v4), (5, .int v5), (6, .int v6), (7, .int v7)], [.ref v0], x7)) rfl ?_
      replace h := Option.bind_eq_some_iff.mp h
      obtain ⟨p8, ep8, h⟩ := h
      refine tb_e_gN rfl ep8 ?_
      refine tb_Es (k := 1) (st' := (32, [(0, .ref v0), (1, .ref v1), (2, va_rf v2), (3, .int v3), (4, .int v4), (5, .int v5), (6, .int v6), (7, .int v7)], [.ref v0, .ref p8], x7)) rfl ?_
      replace h := Option.bind_eq_some_iff.mp h
      obtain ⟨p9, ep9, h⟩ := h
      refine tb_e_gN rfl ep9 ?_
      refine tb_q_aload (k := 2) rfl (Or.inr ⟨_, rfl, rfl⟩) rfl ?_
      replace h := Option.bind_eq_some_iff.mp h
      obtain ⟨x10, ex10, h⟩ := h
      obtain ⟨hkx10, hcall⟩ := tb_on_some ex10
      refine tb_e_cv (as := [.ref p9, va_rf v2]) (v := some (.int x10.1)) rfl (Or.inl ⟨_, rfl⟩) rfl rfl (Nat.le_of_ble_eq_true rfl) rfl (by simp only [List.map_cons, List.map_nil, List.sum_cons, List.sum_nil, tb_catq, tb_cR, tb_cI, tb_cJ, tb_cT]; exact Nat.le_of_ble_eq_true rfl) hkx10 ((dc_jg_passYear hcall).up (by decide)) ?_
      refine tb_Es (k := 4) (st' := (23, [(0, .ref v0), (1, .ref v1), (2, va_rf v2), (3, .int v3), (4, .int v4), (5, .int v5), (6, .int v6), (7, .int (v7 + 1))], [], x10.2)) rfl ?_
      exact ih v0 v1 v2 v3 v4 v5 v6 (v7 + 1) x10.2 _ h r hx
    · rw [if_neg hc] at h
      refine tb_Es (k := 1) (st' := (39, [(0, .ref v0), (1, .ref v1), (2, va_rf v2), (3, .int v3), (4, .int v4), (5, .int v5), (6, .int v6)], [], w)) rfl ?_
      obtain rfl := Option.some.inj h
      exact hx
def fl_yr_snow_12 : Nat → Nat → Nat → (Option Nat) → Int32 → Int32 → Int32 → Int32 → tb_Hp → Option (tb_Hp)
  | 0, _, _, _, _, _, _, _, _ => none
  | n + 1, v0, v1, v2, v3, v4, v5, v6, w => (if v6 < v3 then (tb_gN 15 0 v1 w).bind fun p5 => (tb_on 20 v0 w (fb_yr_begin v0 p5 w)).bind fun x6 => (fl_yr_snow_21 1048576 v0 v1 v2 v3 v4 v5 v6 0 x6).bind fun o11 => (tb_gI 20 3 o11.1 o11.2.2.2.2.2.2.2).bind fun x12 => (tb_gN 20 0 o11.1 o11.2.2.2.2.2.2.2).bind fun p13 => (tb_gI 17 5 p13 o11.2.2.2.2.2.2.2).bind fun x14 => (fb_in_bitCount x14 o11.2.2.2.2.2.2.2).bind fun x15 => (tb_pI 20 3 o11.1 (x12 + x15.1) x15.2).bind fun w16 => (tb_gI 20 4 o11.1 w16).bind fun x17 => (tb_gN 20 0 o11.1 w16).bind fun p18 => (tb_gI 17 4 p18 w16).bind fun x19 => (fb_in_bitCount x19 w16).bind fun x20 => (tb_pI 20 4 o11.1 (x17 + x20.1) x20.2).bind fun w21 => fl_yr_snow_12 n o11.1 o11.2.1 o11.2.2.1 o11.2.2.2.1 o11.2.2.2.2.1 o11.2.2.2.2.2.1 (o11.2.2.2.2.2.2.1 + 1) w21 else some (w))
set_option maxHeartbeats 4000000 in
set_option maxRecDepth 20000 in
theorem dl_yr_snow_12 : ∀ (n : Nat) (v0 : Nat) (v1 : Nat) (v2 : Option Nat) (v3 : Int32) (v4 : Int32) (v5 : Int32) (v6 : Int32) (w : tb_Hp) (o : tb_Hp), fl_yr_snow_12 n v0 v1 v2 v3 v4 v5 v6 w = some o → ∀ (r : Option Value × tb_Hp), tb_Ev tb_P 5 162 (60, [], [], o) r → tb_Ev tb_P 5 162 (13, [(0, .ref v0), (1, .ref v1), (2, va_rf v2), (3, .int v3), (4, .int v4), (5, .int v5), (6, .int v6)], [], w) r := by
  intro n
  induction n with
  | zero =>
    intro v0 v1 v2 v3 v4 v5 v6 w o h
    cases h
  | succ n ih =>
    intro v0 v1 v2 v3 v4 v5 v6 w o h r hx
    unfold fl_yr_snow_12 at h
    refine tb_Es (k := 2) (st' := (15, [(0, .ref v0), (1, .ref v1), (2, va_rf v2), (3, .int v3), (4, .int v4), (5, .int v5), (6, .int v6)], [.int v3, .int v6], w)) rfl ?_
    refine tb_b_cge rfl (fun hc => ?_) (fun hc => ?_)
    · rw [if_pos hc] at h
      refine tb_Es (k := 2) (st' := (18, [(0, .ref v0), (1, .ref v1), (2, va_rf v2), (3, .int v3), (4, .int v4), (5, .int v5), (6, .int v6)], [.ref v1, .ref v0], w)) rfl ?_
      replace h := Option.bind_eq_some_iff.mp h
      obtain ⟨p5, ep5, h⟩ := h
      refine tb_e_gN rfl ep5 ?_
      replace h := Option.bind_eq_some_iff.mp h
      obtain ⟨x6, ex6, h⟩ := h
      obtain ⟨hkx6, hcall⟩ := tb_on_some ex6
      refine tb_e_cv (v := none) rfl (Or.inl ⟨_, rfl⟩) rfl rfl (Nat.le_of_ble_eq_true rfl) rfl (Nat.le_of_ble_eq_true rfl) hkx6 ((dc_yr_begin hcall).up (by decide)) ?_
      refine tb_Es (k := 3) (st' := (23, [(0, .ref v0), (1, .ref v1), (2, va_rf v2), (3, .int v3), (4, .int v4), (5, .int v5), (6, .int v6), (7, .int 0)], [], x6)) rfl ?_
      replace h := Option.bind_eq_some_iff.mp h
      obtain ⟨o11, eo11, h⟩ := h
      refine dl_yr_snow_21 _ v0 v1 v2 v3 v4 v5 v6 0 x6 _ eo11 r ?_
      refine tb_Es (k := 2) (st' := (41, [(0, .ref o11.1), (1, .ref o11.2.1), (2, va_rf o11.2.2.1), (3, .int o11.2.2.2.1), (4, .int o11.2.2.2.2.1), (5, .int o11.2.2.2.2.2.1), (6, .int o11.2.2.2.2.2.2.1)], [.ref o11.1, .ref o11.1], o11.2.2.2.2.2.2.2)) rfl ?_
      replace h := Option.bind_eq_some_iff.mp h
      obtain ⟨x12, ex12, h⟩ := h
      refine tb_e_gI rfl ex12 ?_
      refine tb_Es (k := 1) (st' := (43, [(0, .ref o11.1), (1, .ref o11.2.1), (2, va_rf o11.2.2.1), (3, .int o11.2.2.2.1), (4, .int o11.2.2.2.2.1), (5, .int o11.2.2.2.2.2.1), (6, .int o11.2.2.2.2.2.2.1)], [.ref o11.1, .int x12, .ref o11.1], o11.2.2.2.2.2.2.2)) rfl ?_
      replace h := Option.bind_eq_some_iff.mp h
      obtain ⟨p13, ep13, h⟩ := h
      refine tb_e_gN rfl ep13 ?_
      replace h := Option.bind_eq_some_iff.mp h
      obtain ⟨x14, ex14, h⟩ := h
      refine tb_e_gI rfl ex14 ?_
      replace h := Option.bind_eq_some_iff.mp h
      obtain ⟨x15, ex15, h⟩ := h
      have hcall := ex15
      refine tb_e_cs (v := some (.int x15.1)) rfl rfl rfl (Nat.le_of_ble_eq_true rfl) rfl (Nat.le_of_ble_eq_true rfl) ((dc_in_bitCount hcall).up (by decide)) ?_
      refine tb_Es (k := 1) (st' := (47, [(0, .ref o11.1), (1, .ref o11.2.1), (2, va_rf o11.2.2.1), (3, .int o11.2.2.2.1), (4, .int o11.2.2.2.2.1), (5, .int o11.2.2.2.2.2.1), (6, .int o11.2.2.2.2.2.2.1)], [.int (x12 + x15.1), .ref o11.1], x15.2)) rfl ?_
      replace h := Option.bind_eq_some_iff.mp h
      obtain ⟨w16, ew16, h⟩ := h
      refine tb_e_pI rfl ew16 ?_
      refine tb_Es (k := 2) (st' := (50, [(0, .ref o11.1), (1, .ref o11.2.1), (2, va_rf o11.2.2.1), (3, .int o11.2.2.2.1), (4, .int o11.2.2.2.2.1), (5, .int o11.2.2.2.2.2.1), (6, .int o11.2.2.2.2.2.2.1)], [.ref o11.1, .ref o11.1], w16)) rfl ?_
      replace h := Option.bind_eq_some_iff.mp h
      obtain ⟨x17, ex17, h⟩ := h
      refine tb_e_gI rfl ex17 ?_
      refine tb_Es (k := 1) (st' := (52, [(0, .ref o11.1), (1, .ref o11.2.1), (2, va_rf o11.2.2.1), (3, .int o11.2.2.2.1), (4, .int o11.2.2.2.2.1), (5, .int o11.2.2.2.2.2.1), (6, .int o11.2.2.2.2.2.2.1)], [.ref o11.1, .int x17, .ref o11.1], w16)) rfl ?_
      replace h := Option.bind_eq_some_iff.mp h
      obtain ⟨p18, ep18, h⟩ := h
      refine tb_e_gN rfl ep18 ?_
      replace h := Option.bind_eq_some_iff.mp h
      obtain ⟨x19, ex19, h⟩ := h
      refine tb_e_gI rfl ex19 ?_
      replace h := Option.bind_eq_some_iff.mp h
      obtain ⟨x20, ex20, h⟩ := h
      have hcall := ex20
      refine tb_e_cs (v := some (.int x20.1)) rfl rfl rfl (Nat.le_of_ble_eq_true rfl) rfl (Nat.le_of_ble_eq_true rfl) ((dc_in_bitCount hcall).up (by decide)) ?_
      refine tb_Es (k := 1) (st' := (56, [(0, .ref o11.1), (1, .ref o11.2.1), (2, va_rf o11.2.2.1), (3, .int o11.2.2.2.1), (4, .int o11.2.2.2.2.1), (5, .int o11.2.2.2.2.2.1), (6, .int o11.2.2.2.2.2.2.1)], [.int (x17 + x20.1), .ref o11.1], x20.2)) rfl ?_
      replace h := Option.bind_eq_some_iff.mp h
      obtain ⟨w21, ew21, h⟩ := h
      refine tb_e_pI rfl ew21 ?_
      refine tb_Es (k := 3) (st' := (13, [(0, .ref o11.1), (1, .ref o11.2.1), (2, va_rf o11.2.2.1), (3, .int o11.2.2.2.1), (4, .int o11.2.2.2.2.1), (5, .int o11.2.2.2.2.2.1), (6, .int (o11.2.2.2.2.2.2.1 + 1))], [], w21)) rfl ?_
      exact ih o11.1 o11.2.1 o11.2.2.1 o11.2.2.2.1 o11.2.2.2.2.1 o11.2.2.2.2.2.1 (o11.2.2.2.2.2.2.1 + 1) w21 _ h r hx
    · rw [if_neg hc] at h
      refine tb_Es (k := 1) (st' := (60, [], [], w)) rfl ?_
      obtain rfl := Option.some.inj h
      exact hx
def fb_yr_snow (a0 : Nat) (a1 : Nat) (a2 : Option Nat) (a3 : Int32) (a4 : Int32) (a5 : Int32) (w : tb_Hp) : Option (tb_Hp) := (tb_gI 15 4 a1 w).bind fun x1 => (tb_pI 20 7 a0 x1 w).bind fun w2 => (tb_pI 20 3 a0 0 w2).bind fun w3 => (tb_pI 20 4 a0 0 w3).bind fun w4 => (fl_yr_snow_12 1048576 a0 a1 a2 a3 a4 a5 0 w4).bind fun o22 => some o22
set_option maxHeartbeats 4000000 in
set_option maxRecDepth 20000 in
theorem dc_yr_snow {a0 : Nat} {a1 : Nat} {a2 : Option Nat} {a3 : Int32} {a4 : Int32} {a5 : Int32} {w : tb_Hp} {o : tb_Hp} (h : fb_yr_snow a0 a1 a2 a3 a4 a5 w = some o) : tb_Ev tb_P 5 162 (0, tb_ent [.ref a0, .ref a1, va_rf a2, .int a3, .int a4, .int a5], [], w) (none, o) := by
  unfold fb_yr_snow at h
  obtain ⟨r, hr⟩ : ∃ r : Option Value × tb_Hp, r = (none, o) := ⟨_, rfl⟩
  rw [← hr]
  rw [show tb_ent [.ref a0, .ref a1, va_rf a2, .int a3, .int a4, .int a5] = [(0, .ref a0), (1, .ref a1), (2, va_rf a2), (3, .int a3), (4, .int a4), (5, .int a5)] by simp [tb_ent, lv_args, tb_catq, tb_cR, tb_cI, tb_cJ]]
  show tb_Ev tb_P 5 162 (0, [(0, .ref a0), (1, .ref a1), (2, va_rf a2), (3, .int a3), (4, .int a4), (5, .int a5)], [], w) r
  refine tb_Es (k := 2) (st' := (2, [(0, .ref a0), (1, .ref a1), (2, va_rf a2), (3, .int a3), (4, .int a4), (5, .int a5)], [.ref a1, .ref a0], w)) rfl ?_
  replace h := Option.bind_eq_some_iff.mp h
  obtain ⟨x1, ex1, h⟩ := h
  refine tb_e_gI rfl ex1 ?_
  replace h := Option.bind_eq_some_iff.mp h
  obtain ⟨w2, ew2, h⟩ := h
  refine tb_e_pI rfl ew2 ?_
  refine tb_Es (k := 2) (st' := (6, [(0, .ref a0), (1, .ref a1), (2, va_rf a2), (3, .int a3), (4, .int a4), (5, .int a5)], [.int 0, .ref a0], w2)) rfl ?_
  replace h := Option.bind_eq_some_iff.mp h
  obtain ⟨w3, ew3, h⟩ := h
  refine tb_e_pI rfl ew3 ?_
  refine tb_Es (k := 2) (st' := (9, [(0, .ref a0), (1, .ref a1), (2, va_rf a2), (3, .int a3), (4, .int a4), (5, .int a5)], [.int 0, .ref a0], w3)) rfl ?_
  replace h := Option.bind_eq_some_iff.mp h
  obtain ⟨w4, ew4, h⟩ := h
  refine tb_e_pI rfl ew4 ?_
  refine tb_Es (k := 3) (st' := (13, [(0, .ref a0), (1, .ref a1), (2, va_rf a2), (3, .int a3), (4, .int a4), (5, .int a5), (6, .int 0)], [], w4)) rfl ?_
  replace h := Option.bind_eq_some_iff.mp h
  obtain ⟨o22, eo22, h⟩ := h
  refine dl_yr_snow_12 _ a0 a1 a2 a3 a4 a5 0 w4 _ eo22 r ?_
  obtain rfl := Option.some.inj h
  subst hr
  exact tb_Er rfl rfl
/-! TannerBuntingModel.sum()Z -/
def fj_m_sum_j33 (k : Nat → tb_Hp → Option (Int32 × tb_Hp)) (w : tb_Hp) : Option (Int32 × tb_Hp) := some ((0, w))
set_option maxHeartbeats 4000000 in
set_option maxRecDepth 20000 in
theorem dj_m_sum_j33 (k : Nat → tb_Hp → Option (Int32 × tb_Hp)) (w : tb_Hp) (o : Int32 × tb_Hp) (h : fj_m_sum_j33 k  w = some o) (r : Option Value × tb_Hp) (hx : r = (some (.int o.1), o.2)) (hk : ∀ (v0 : Nat) (w : tb_Hp), k v0 w = some o → tb_Ev tb_P 5 192 (6, [(0, .ref v0)], [], w) r) : tb_Ev tb_P 5 192 (37, [], [], w) r := by
  unfold fj_m_sum_j33 at h
  refine tb_Es (k := 1) (st' := (38, [], [.int 0], w)) rfl ?_
  obtain rfl := Option.some.inj h
  replace hx : r = _ := hx
  subst hx
  exact tb_Er rfl rfl
def fj_m_sum_j23 (k : Nat → tb_Hp → Option (Int32 × tb_Hp)) (v0 : Nat) (s0 : Int32) (w : tb_Hp) : Option (Int32 × tb_Hp) := (tb_gI 22 8 v0 w).bind fun x6 => (tb_pI 22 8 v0 (x6 + 1) w).bind fun w7 => (tb_on 22 v0 w7 (fb_m_term v0 w7)).bind fun x8 => (if x8.1 = 0 then fj_m_sum_j33 k  x8.2 else (tb_on 22 v0 x8.2 (fb_m_puts v0 s0 0 x8.2)).bind fun x9 => k v0 x9)
set_option maxHeartbeats 4000000 in
set_option maxRecDepth 20000 in
theorem dj_m_sum_j23 (k : Nat → tb_Hp → Option (Int32 × tb_Hp)) (v0 : Nat) (s0 : Int32) (w : tb_Hp) (o : Int32 × tb_Hp) (h : fj_m_sum_j23 k v0 s0 w = some o) (r : Option Value × tb_Hp) (hx : r = (some (.int o.1), o.2)) (hk : ∀ (v0 : Nat) (w : tb_Hp), k v0 w = some o → tb_Ev tb_P 5 192 (6, [(0, .ref v0)], [], w) r) : tb_Ev tb_P 5 192 (26, [(0, .ref v0)], [.int s0], w) r := by
  unfold fj_m_sum_j23 at h
  refine tb_Es (k := 3) (st' := (29, [(1, .int s0), (0, .ref v0)], [.ref v0, .ref v0], w)) rfl ?_
  replace h := Option.bind_eq_some_iff.mp h
  obtain ⟨x6, ex6, h⟩ := h
  refine tb_e_gI rfl ex6 ?_
  refine tb_Es (k := 2) (st' := (32, [(1, .int s0), (0, .ref v0)], [.int (x6 + 1), .ref v0], w)) rfl ?_
  replace h := Option.bind_eq_some_iff.mp h
  obtain ⟨w7, ew7, h⟩ := h
  refine tb_e_pI rfl ew7 ?_
  refine tb_Es (k := 1) (st' := (34, [(1, .int s0), (0, .ref v0)], [.ref v0], w7)) rfl ?_
  replace h := Option.bind_eq_some_iff.mp h
  obtain ⟨x8, ex8, h⟩ := h
  obtain ⟨hkx8, hcall⟩ := tb_on_some ex8
  refine tb_e_cv (v := some (.int x8.1)) rfl (Or.inl ⟨_, rfl⟩) rfl rfl (Nat.le_of_ble_eq_true rfl) rfl (Nat.le_of_ble_eq_true rfl) hkx8 ((dc_m_term hcall).up (by decide)) ?_
  refine tb_b_ine rfl (fun hc => ?_) (fun hc => ?_)
  · rw [if_pos hc] at h
    refine tb_Es (k := 1) (st' := (37, [], [], x8.2)) rfl ?_
    exact dj_m_sum_j33 k  x8.2 _ h r hx hk
  · rw [if_neg hc] at h
    refine tb_Es (k := 3) (st' := (42, [(1, .int s0), (0, .ref v0)], [.int 0, .int s0, .ref v0], x8.2)) rfl ?_
    replace h := Option.bind_eq_some_iff.mp h
    obtain ⟨x9, ex9, h⟩ := h
    obtain ⟨hkx9, hcall⟩ := tb_on_some ex9
    refine tb_e_cv (v := none) rfl (Or.inl ⟨_, rfl⟩) rfl rfl (Nat.le_of_ble_eq_true rfl) rfl (Nat.le_of_ble_eq_true rfl) hkx9 ((dc_m_puts hcall).up (by decide)) ?_
    refine tb_Es (k := 2) (st' := (6, [(0, .ref v0)], [], x9)) rfl ?_
    exact hk v0 x9 h
def fj_m_sum_j13 (k : Nat → tb_Hp → Option (Int32 × tb_Hp)) (v0 : Nat) (w : tb_Hp) : Option (Int32 × tb_Hp) := (tb_gN 22 0 v0 w).bind fun p3 => (tb_gI 22 8 v0 w).bind fun x4 => (tb_lI [0, 3] p3 x4 w).bind fun x5 => (if x5 = 43 then fj_m_sum_j23 k v0 2 w else fj_m_sum_j23 k v0 3 w)
set_option maxHeartbeats 4000000 in
set_option maxRecDepth 20000 in
theorem dj_m_sum_j13 (k : Nat → tb_Hp → Option (Int32 × tb_Hp)) (v0 : Nat) (w : tb_Hp) (o : Int32 × tb_Hp) (h : fj_m_sum_j13 k v0 w = some o) (r : Option Value × tb_Hp) (hx : r = (some (.int o.1), o.2)) (hk : ∀ (v0 : Nat) (w : tb_Hp), k v0 w = some o → tb_Ev tb_P 5 192 (6, [(0, .ref v0)], [], w) r) : tb_Ev tb_P 5 192 (15, [(0, .ref v0)], [], w) r := by
  unfold fj_m_sum_j13 at h
  refine tb_Es (k := 1) (st' := (16, [(0, .ref v0)], [.ref v0], w)) rfl ?_
  replace h := Option.bind_eq_some_iff.mp h
  obtain ⟨p3, ep3, h⟩ := h
  refine tb_e_gN rfl ep3 ?_
  refine tb_Es (k := 1) (st' := (18, [(0, .ref v0)], [.ref v0, .ref p3], w)) rfl ?_
  replace h := Option.bind_eq_some_iff.mp h
  obtain ⟨x4, ex4, h⟩ := h
  refine tb_e_gI rfl ex4 ?_
  replace h := Option.bind_eq_some_iff.mp h
  obtain ⟨x5, ex5, h⟩ := h
  refine tb_e_lI rfl (Or.inr ⟨rfl, rfl⟩) ex5 ?_
  refine tb_Es (k := 1) (st' := (21, [(0, .ref v0)], [.int 43, .int x5], w)) rfl ?_
  refine tb_b_cne rfl (fun hc => ?_) (fun hc => ?_)
  · rw [if_pos hc] at h
    refine tb_Es (k := 3) (st' := (26, [(0, .ref v0)], [.int 2], w)) rfl ?_
    exact dj_m_sum_j23 k v0 2 w _ h r hx hk
  · rw [if_neg hc] at h
    refine tb_Es (k := 2) (st' := (26, [(0, .ref v0)], [.int 3], w)) rfl ?_
    exact dj_m_sum_j23 k v0 3 w _ h r hx hk
def fj_m_sum_j40 (k : Nat → tb_Hp → Option (Int32 × tb_Hp)) (w : tb_Hp) : Option (Int32 × tb_Hp) := some ((1, w))
set_option maxHeartbeats 4000000 in
set_option maxRecDepth 20000 in
theorem dj_m_sum_j40 (k : Nat → tb_Hp → Option (Int32 × tb_Hp)) (w : tb_Hp) (o : Int32 × tb_Hp) (h : fj_m_sum_j40 k  w = some o) (r : Option Value × tb_Hp) (hx : r = (some (.int o.1), o.2)) (hk : ∀ (v0 : Nat) (w : tb_Hp), k v0 w = some o → tb_Ev tb_P 5 192 (6, [(0, .ref v0)], [], w) r) : tb_Ev tb_P 5 192 (45, [], [], w) r := by
  unfold fj_m_sum_j40 at h
  refine tb_Es (k := 1) (st' := (46, [], [.int 1], w)) rfl ?_
  obtain rfl := Option.some.inj h
  replace hx : r = _ := hx
  subst hx
  exact tb_Er rfl rfl
def fl_m_sum_5 : Nat → Nat → tb_Hp → Option (Int32 × tb_Hp)
  | 0, _, _ => none
  | n + 1, v0, w => (tb_on 22 v0 w (fb_m_see v0 w)).bind fun x2 => (if x2.1 = 43 then fj_m_sum_j13 (fl_m_sum_5 n) v0 x2.2 else (tb_on 22 v0 x2.2 (fb_m_see v0 x2.2)).bind fun x10 => (if x10.1 = 45 then fj_m_sum_j13 (fl_m_sum_5 n) v0 x10.2 else fj_m_sum_j40 (fl_m_sum_5 n)  x10.2))
set_option maxHeartbeats 4000000 in
set_option maxRecDepth 20000 in
theorem dl_m_sum_5 : ∀ (n : Nat) (v0 : Nat) (w : tb_Hp) (o : Int32 × tb_Hp), fl_m_sum_5 n v0 w = some o → ∀ (r : Option Value × tb_Hp), r = (some (.int o.1), o.2) → tb_Ev tb_P 5 192 (6, [(0, .ref v0)], [], w) r := by
  intro n
  induction n with
  | zero =>
    intro v0 w o h
    cases h
  | succ n ih =>
    intro v0 w o h r hx
    unfold fl_m_sum_5 at h
    refine tb_Es (k := 1) (st' := (7, [(0, .ref v0)], [.ref v0], w)) rfl ?_
    replace h := Option.bind_eq_some_iff.mp h
    obtain ⟨x2, ex2, h⟩ := h
    obtain ⟨hkx2, hcall⟩ := tb_on_some ex2
    refine tb_e_cv (v := some (.int x2.1)) rfl (Or.inl ⟨_, rfl⟩) rfl rfl (Nat.le_of_ble_eq_true rfl) rfl (Nat.le_of_ble_eq_true rfl) hkx2 ((dc_m_see hcall).up (by decide)) ?_
    refine tb_Es (k := 1) (st' := (9, [(0, .ref v0)], [.int 43, .int x2.1], x2.2)) rfl ?_
    refine tb_b_ceq rfl (fun hc => ?_) (fun hc => ?_)
    · rw [if_pos hc] at h
      refine tb_Es (k := 1) (st' := (15, [(0, .ref v0)], [], x2.2)) rfl ?_
      exact dj_m_sum_j13 (fl_m_sum_5 n) v0 x2.2 _ h r hx (fun v0_ w_ h_ => ih v0_ w_ _ h_ r hx)
    · rw [if_neg hc] at h
      refine tb_Es (k := 1) (st' := (11, [(0, .ref v0)], [.ref v0], x2.2)) rfl ?_
      replace h := Option.bind_eq_some_iff.mp h
      obtain ⟨x10, ex10, h⟩ := h
      obtain ⟨hkx10, hcall⟩ := tb_on_some ex10
      refine tb_e_cv (v := some (.int x10.1)) rfl (Or.inl ⟨_, rfl⟩) rfl rfl (Nat.le_of_ble_eq_true rfl) rfl (Nat.le_of_ble_eq_true rfl) hkx10 ((dc_m_see hcall).up (by decide)) ?_
      refine tb_Es (k := 1) (st' := (13, [(0, .ref v0)], [.int 45, .int x10.1], x10.2)) rfl ?_
      refine tb_b_cne rfl (fun hc => ?_) (fun hc => ?_)
      · rw [if_pos hc] at h
        refine tb_Es (k := 1) (st' := (15, [(0, .ref v0)], [], x10.2)) rfl ?_
        exact dj_m_sum_j13 (fl_m_sum_5 n) v0 x10.2 _ h r hx (fun v0_ w_ h_ => ih v0_ w_ _ h_ r hx)
      · rw [if_neg hc] at h
        refine tb_Es (k := 1) (st' := (45, [], [], x10.2)) rfl ?_
        exact dj_m_sum_j40 (fl_m_sum_5 n)  x10.2 _ h r hx (fun v0_ w_ h_ => ih v0_ w_ _ h_ r hx)
def fb_m_sum (a0 : Nat) (w : tb_Hp) : Option (Int32 × tb_Hp) := (tb_on 22 a0 w (fb_m_term a0 w)).bind fun x1 => (if x1.1 = 0 then some (0, x1.2) else (fl_m_sum_5 1048576 a0 x1.2).bind fun o11 => some o11)
set_option maxHeartbeats 4000000 in
set_option maxRecDepth 20000 in
theorem dc_m_sum {a0 : Nat} {w : tb_Hp} {o : Int32 × tb_Hp} (h : fb_m_sum a0 w = some o) : tb_Ev tb_P 5 192 (0, tb_ent [.ref a0], [], w) (some (.int o.1), o.2) := by
  unfold fb_m_sum at h
  obtain ⟨r, hr⟩ : ∃ r : Option Value × tb_Hp, r = (some (.int o.1), o.2) := ⟨_, rfl⟩
  rw [← hr]
  show tb_Ev tb_P 5 192 (0, [(0, .ref a0)], [], w) r
  refine tb_Es (k := 1) (st' := (1, [(0, .ref a0)], [.ref a0], w)) rfl ?_
  replace h := Option.bind_eq_some_iff.mp h
  obtain ⟨x1, ex1, h⟩ := h
  obtain ⟨hkx1, hcall⟩ := tb_on_some ex1
  refine tb_e_cv (v := some (.int x1.1)) rfl (Or.inl ⟨_, rfl⟩) rfl rfl (Nat.le_of_ble_eq_true rfl) rfl (Nat.le_of_ble_eq_true rfl) hkx1 ((dc_m_term hcall).up (by decide)) ?_
  refine tb_b_ine rfl (fun hc => ?_) (fun hc => ?_)
  · rw [if_pos hc] at h
    refine tb_Es (k := 1) (st' := (4, [(0, .ref a0)], [.int 0], x1.2)) rfl ?_
    obtain rfl := Option.some.inj h
    subst hr
    exact tb_Er rfl rfl
  · rw [if_neg hc] at h
    refine tb_Es (k := 1) (st' := (6, [(0, .ref a0)], [], x1.2)) rfl ?_
    replace h := Option.bind_eq_some_iff.mp h
    obtain ⟨o11, eo11, h⟩ := h
    refine dl_m_sum_5 _ a0 x1.2 _ eo11 r ?_
    obtain rfl := Option.some.inj h
    exact hr
/-! TannerBuntingModel.letGo()I -/
def fl_m_letGo_4 : Nat → Nat → Int32 → Int32 → tb_Hp → Option (Int32 × tb_Hp)
  | 0, _, _, _, _ => none
  | n + 1, v0, v1, v2, w => (tb_gN 22 20 v0 w).bind fun p1 => (tb_lI [1, 9] p1 11 w).bind fun x2 => (if v2 < x2 then (tb_gI 22 21 v0 w).bind fun x3 => (if x3 < 0 then some ((v1, w)) else (tb_on 22 v0 w (fb_m_isUp v0 v2 w)).bind fun x4 => (if x4.1 = 0 then fl_m_letGo_4 n v0 (v1 ||| 0) (v2 + 1) x4.2 else (tb_on 22 v0 x4.2 (fb_m_isKept v0 v2 x4.2)).bind fun x5 => (if x5.1 = 0 then fl_m_letGo_4 n v0 (v1 ||| (1 <<< (v2 &&& 31))) (v2 + 1) x5.2 else fl_m_letGo_4 n v0 (v1 ||| 0) (v2 + 1) x5.2))) else some ((v1, w)))
set_option maxHeartbeats 4000000 in
set_option maxRecDepth 20000 in
theorem dl_m_letGo_4 : ∀ (n : Nat) (v0 : Nat) (v1 : Int32) (v2 : Int32) (w : tb_Hp) (o : Int32 × tb_Hp), fl_m_letGo_4 n v0 v1 v2 w = some o → ∀ (r : Option Value × tb_Hp), tb_Ev tb_P 5 227 (33, [(1, .int o.1)], [], o.2) r → tb_Ev tb_P 5 227 (5, [(0, .ref v0), (1, .int v1), (2, .int v2)], [], w) r := by
  intro n
  induction n with
  | zero =>
    intro v0 v1 v2 w o h
    cases h
  | succ n ih =>
    intro v0 v1 v2 w o h r hx
    unfold fl_m_letGo_4 at h
    refine tb_Es (k := 2) (st' := (7, [(0, .ref v0), (1, .int v1), (2, .int v2)], [.ref v0, .int v2], w)) rfl ?_
    replace h := Option.bind_eq_some_iff.mp h
    obtain ⟨p1, ep1, h⟩ := h
    refine tb_e_gN rfl ep1 ?_
    refine tb_Es (k := 1) (st' := (9, [(0, .ref v0), (1, .int v1), (2, .int v2)], [.int 11, .ref p1, .int v2], w)) rfl ?_
    replace h := Option.bind_eq_some_iff.mp h
    obtain ⟨x2, ex2, h⟩ := h
    refine tb_e_lI rfl (Or.inl ⟨rfl, rfl⟩) ex2 ?_
    refine tb_b_cge rfl (fun hc => ?_) (fun hc => ?_)
    · rw [if_pos hc] at h
      refine tb_Es (k := 1) (st' := (12, [(0, .ref v0), (1, .int v1), (2, .int v2)], [.ref v0], w)) rfl ?_
      replace h := Option.bind_eq_some_iff.mp h
      obtain ⟨x3, ex3, h⟩ := h
      refine tb_e_gI rfl ex3 ?_
      refine tb_b_ilt rfl (fun hc => ?_) (fun hc => ?_)
      · rw [if_pos hc] at h
        refine tb_Es (k := 1) (st' := (33, [(1, .int v1)], [], w)) rfl ?_
        obtain rfl := Option.some.inj h
        exact hx
      · rw [if_neg hc] at h
        refine tb_Es (k := 3) (st' := (17, [(0, .ref v0), (1, .int v1), (2, .int v2)], [.int v2, .ref v0, .int v1], w)) rfl ?_
        replace h := Option.bind_eq_some_iff.mp h
        obtain ⟨x4, ex4, h⟩ := h
        obtain ⟨hkx4, hcall⟩ := tb_on_some ex4
        refine tb_e_cv (v := some (.int x4.1)) rfl (Or.inl ⟨_, rfl⟩) rfl rfl (Nat.le_of_ble_eq_true rfl) rfl (Nat.le_of_ble_eq_true rfl) hkx4 ((dc_m_isUp hcall).up (by decide)) ?_
        refine tb_b_ieq rfl (fun hc => ?_) (fun hc => ?_)
        · rw [if_pos hc] at h
          refine tb_Es (k := 6) (st' := (5, [(0, .ref v0), (1, .int (v1 ||| 0)), (2, .int (v2 + 1))], [], x4.2)) rfl ?_
          exact ih v0 (v1 ||| 0) (v2 + 1) x4.2 _ h r hx
        · rw [if_neg hc] at h
          refine tb_Es (k := 2) (st' := (21, [(0, .ref v0), (1, .int v1), (2, .int v2)], [.int v2, .ref v0, .int v1], x4.2)) rfl ?_
          replace h := Option.bind_eq_some_iff.mp h
          obtain ⟨x5, ex5, h⟩ := h
          obtain ⟨hkx5, hcall⟩ := tb_on_some ex5
          refine tb_e_cv (v := some (.int x5.1)) rfl (Or.inl ⟨_, rfl⟩) rfl rfl (Nat.le_of_ble_eq_true rfl) rfl (Nat.le_of_ble_eq_true rfl) hkx5 ((dc_m_isKept hcall).up (by decide)) ?_
          refine tb_b_ine rfl (fun hc => ?_) (fun hc => ?_)
          · rw [if_pos hc] at h
            refine tb_Es (k := 9) (st' := (5, [(0, .ref v0), (1, .int (v1 ||| (1 <<< (v2 &&& 31)))), (2, .int (v2 + 1))], [], x5.2)) rfl ?_
            exact ih v0 (v1 ||| (1 <<< (v2 &&& 31))) (v2 + 1) x5.2 _ h r hx
          · rw [if_neg hc] at h
            refine tb_Es (k := 6) (st' := (5, [(0, .ref v0), (1, .int (v1 ||| 0)), (2, .int (v2 + 1))], [], x5.2)) rfl ?_
            exact ih v0 (v1 ||| 0) (v2 + 1) x5.2 _ h r hx
    · rw [if_neg hc] at h
      refine tb_Es (k := 1) (st' := (33, [(1, .int v1)], [], w)) rfl ?_
      obtain rfl := Option.some.inj h
      exact hx
def fb_m_letGo (a0 : Nat) (w : tb_Hp) : Option (Int32 × tb_Hp) := (fl_m_letGo_4 1048576 a0 0 0 w).bind fun o6 => some (o6.1, o6.2)
set_option maxHeartbeats 4000000 in
set_option maxRecDepth 20000 in
theorem dc_m_letGo {a0 : Nat} {w : tb_Hp} {o : Int32 × tb_Hp} (h : fb_m_letGo a0 w = some o) : tb_Ev tb_P 5 227 (0, tb_ent [.ref a0], [], w) (some (.int o.1), o.2) := by
  unfold fb_m_letGo at h
  obtain ⟨r, hr⟩ : ∃ r : Option Value × tb_Hp, r = (some (.int o.1), o.2) := ⟨_, rfl⟩
  rw [← hr]
  show tb_Ev tb_P 5 227 (0, [(0, .ref a0)], [], w) r
  refine tb_Es (k := 5) (st' := (5, [(0, .ref a0), (1, .int 0), (2, .int 0)], [], w)) rfl ?_
  replace h := Option.bind_eq_some_iff.mp h
  obtain ⟨o6, eo6, h⟩ := h
  refine dl_m_letGo_4 _ a0 0 0 w _ eo6 r ?_
  refine tb_Es (k := 1) (st' := (34, [(1, .int o6.1)], [.int o6.1], o6.2)) rfl ?_
  obtain rfl := Option.some.inj h
  subst hr
  exact tb_Er rfl rfl
/-! TannerBuntingModel.givesWay()I -/
def fl_m_givesWay_9 : Nat → Nat → Int32 → Int32 → Int32 → tb_Hp → Option (Nat × Int32 × Int32 × tb_Hp)
  | 0, _, _, _, _, _ => none
  | n + 1, v0, v1, v2, v3, w => (tb_on 22 v0 w (fb_m_houses v0 w)).bind fun x2 => (if v3 < x2.1 then (fb_m_isOf v2 v3 x2.2).bind fun x3 => (if x3.1 = 0 then fl_m_givesWay_9 n v0 v1 v2 (v3 + 1) x3.2 else (tb_gN 22 20 v0 x3.2).bind fun p4 => (tb_tI p4 (32 + v3) 0 x3.2).bind fun w5 => (tb_on 22 v0 w5 (fb_m_linesAt v0 v3 w5)).bind fun x6 => (tb_on 22 v0 x6.2 (fb_m_downsAll v0 x6.1 x6.2)).bind fun x7 => fl_m_givesWay_9 n v0 v1 v2 (v3 + 1) x7) else some ((v0, v1, v2, x2.2)))
set_option maxHeartbeats 4000000 in
set_option maxRecDepth 20000 in
theorem dl_m_givesWay_9 : ∀ (n : Nat) (v0 : Nat) (v1 : Int32) (v2 : Int32) (v3 : Int32) (w : tb_Hp) (o : Nat × Int32 × Int32 × tb_Hp), fl_m_givesWay_9 n v0 v1 v2 v3 w = some o → ∀ (r : Option Value × tb_Hp), tb_Ev tb_P 5 243 (35, [(0, .ref o.1), (1, .int o.2.1), (2, .int o.2.2.1)], [], o.2.2.2) r → tb_Ev tb_P 5 243 (11, [(0, .ref v0), (1, .int v1), (2, .int v2), (3, .int v3)], [], w) r := by
  intro n
  induction n with
  | zero =>
    intro v0 v1 v2 v3 w o h
    cases h
  | succ n ih =>
    intro v0 v1 v2 v3 w o h r hx
    unfold fl_m_givesWay_9 at h
    refine tb_Es (k := 2) (st' := (13, [(0, .ref v0), (1, .int v1), (2, .int v2), (3, .int v3)], [.ref v0, .int v3], w)) rfl ?_
    replace h := Option.bind_eq_some_iff.mp h
    obtain ⟨x2, ex2, h⟩ := h
    obtain ⟨hkx2, hcall⟩ := tb_on_some ex2
    refine tb_e_cv (v := some (.int x2.1)) rfl (Or.inl ⟨_, rfl⟩) rfl rfl (Nat.le_of_ble_eq_true rfl) rfl (Nat.le_of_ble_eq_true rfl) hkx2 ((dc_m_houses hcall).up (by decide)) ?_
    refine tb_b_cge rfl (fun hc => ?_) (fun hc => ?_)
    · rw [if_pos hc] at h
      refine tb_Es (k := 2) (st' := (17, [(0, .ref v0), (1, .int v1), (2, .int v2), (3, .int v3)], [.int v3, .int v2], x2.2)) rfl ?_
      replace h := Option.bind_eq_some_iff.mp h
      obtain ⟨x3, ex3, h⟩ := h
      have hcall := ex3
      refine tb_e_cs (v := some (.int x3.1)) rfl rfl rfl (Nat.le_of_ble_eq_true rfl) rfl (Nat.le_of_ble_eq_true rfl) ((dc_m_isOf hcall).up (by decide)) ?_
      refine tb_b_ine rfl (fun hc => ?_) (fun hc => ?_)
      · rw [if_pos hc] at h
        refine tb_Es (k := 4) (st' := (11, [(0, .ref v0), (1, .int v1), (2, .int v2), (3, .int (v3 + 1))], [], x3.2)) rfl ?_
        exact ih v0 v1 v2 (v3 + 1) x3.2 _ h r hx
      · rw [if_neg hc] at h
        refine tb_Es (k := 1) (st' := (21, [(0, .ref v0), (1, .int v1), (2, .int v2), (3, .int v3)], [.ref v0], x3.2)) rfl ?_
        replace h := Option.bind_eq_some_iff.mp h
        obtain ⟨p4, ep4, h⟩ := h
        refine tb_e_gN rfl ep4 ?_
        refine tb_Es (k := 4) (st' := (26, [(0, .ref v0), (1, .int v1), (2, .int v2), (3, .int v3)], [.int 0, .int (32 + v3), .ref p4], x3.2)) rfl ?_
        replace h := Option.bind_eq_some_iff.mp h
        obtain ⟨w5, ew5, h⟩ := h
        refine tb_e_tI rfl ew5 ?_
        refine tb_Es (k := 3) (st' := (30, [(0, .ref v0), (1, .int v1), (2, .int v2), (3, .int v3)], [.int v3, .ref v0, .ref v0], w5)) rfl ?_
        replace h := Option.bind_eq_some_iff.mp h
        obtain ⟨x6, ex6, h⟩ := h
        obtain ⟨hkx6, hcall⟩ := tb_on_some ex6
        refine tb_e_cv (v := some (.int x6.1)) rfl (Or.inl ⟨_, rfl⟩) rfl rfl (Nat.le_of_ble_eq_true rfl) rfl (Nat.le_of_ble_eq_true rfl) hkx6 ((dc_m_linesAt hcall).up (by decide)) ?_
        replace h := Option.bind_eq_some_iff.mp h
        obtain ⟨x7, ex7, h⟩ := h
        obtain ⟨hkx7, hcall⟩ := tb_on_some ex7
        refine tb_e_cv (v := none) rfl (Or.inl ⟨_, rfl⟩) rfl rfl (Nat.le_of_ble_eq_true rfl) rfl (Nat.le_of_ble_eq_true rfl) hkx7 ((dc_m_downsAll hcall).up (by decide)) ?_
        refine tb_Es (k := 3) (st' := (11, [(0, .ref v0), (1, .int v1), (2, .int v2), (3, .int (v3 + 1))], [], x7)) rfl ?_
        exact ih v0 v1 v2 (v3 + 1) x7 _ h r hx
    · rw [if_neg hc] at h
      refine tb_Es (k := 1) (st' := (35, [(0, .ref v0), (1, .int v1), (2, .int v2)], [], x2.2)) rfl ?_
      obtain rfl := Option.some.inj h
      exact hx
def fl_m_givesWay_5 : Nat → Nat → Int32 → Int32 → tb_Hp → Option (Int32 × tb_Hp)
  | 0, _, _, _, _ => none
  | n + 1, v0, v1, v2, w => (if v2 = 0 then some ((v1, w)) else (fl_m_givesWay_9 1048576 v0 v1 v2 0 w).bind fun o8 => (tb_on 22 o8.1 o8.2.2.2 (fb_m_looseOnes o8.1 o8.2.2.2)).bind fun x9 => fl_m_givesWay_5 n o8.1 (o8.2.1 ||| o8.2.2.1) x9.1 x9.2)
set_option maxHeartbeats 4000000 in
set_option maxRecDepth 20000 in
theorem dl_m_givesWay_5 : ∀ (n : Nat) (v0 : Nat) (v1 : Int32) (v2 : Int32) (w : tb_Hp) (o : Int32 × tb_Hp), fl_m_givesWay_5 n v0 v1 v2 w = some o → ∀ (r : Option Value × tb_Hp), tb_Ev tb_P 5 243 (44, [(1, .int o.1)], [], o.2) r → tb_Ev tb_P 5 243 (6, [(0, .ref v0), (1, .int v1), (2, .int v2)], [], w) r := by
  intro n
  induction n with
  | zero =>
    intro v0 v1 v2 w o h
    cases h
  | succ n ih =>
    intro v0 v1 v2 w o h r hx
    unfold fl_m_givesWay_5 at h
    refine tb_Es (k := 1) (st' := (7, [(0, .ref v0), (1, .int v1), (2, .int v2)], [.int v2], w)) rfl ?_
    refine tb_b_ieq rfl (fun hc => ?_) (fun hc => ?_)
    · rw [if_pos hc] at h
      refine tb_Es (k := 1) (st' := (44, [(1, .int v1)], [], w)) rfl ?_
      obtain rfl := Option.some.inj h
      exact hx
    · rw [if_neg hc] at h
      refine tb_Es (k := 3) (st' := (11, [(0, .ref v0), (1, .int v1), (2, .int v2), (3, .int 0)], [], w)) rfl ?_
      replace h := Option.bind_eq_some_iff.mp h
      obtain ⟨o8, eo8, h⟩ := h
      refine dl_m_givesWay_9 _ v0 v1 v2 0 w _ eo8 r ?_
      refine tb_Es (k := 5) (st' := (40, [(1, .int (o8.2.1 ||| o8.2.2.1)), (0, .ref o8.1), (2, .int o8.2.2.1)], [.ref o8.1], o8.2.2.2)) rfl ?_
      replace h := Option.bind_eq_some_iff.mp h
      obtain ⟨x9, ex9, h⟩ := h
      obtain ⟨hkx9, hcall⟩ := tb_on_some ex9
      refine tb_e_cv (v := some (.int x9.1)) rfl (Or.inl ⟨_, rfl⟩) rfl rfl (Nat.le_of_ble_eq_true rfl) rfl (Nat.le_of_ble_eq_true rfl) hkx9 ((dc_m_looseOnes hcall).up (by decide)) ?_
      refine tb_Es (k := 3) (st' := (6, [(0, .ref o8.1), (1, .int (o8.2.1 ||| o8.2.2.1)), (2, .int x9.1)], [], x9.2)) rfl ?_
      exact ih o8.1 (o8.2.1 ||| o8.2.2.1) x9.1 x9.2 _ h r hx
def fb_m_givesWay (a0 : Nat) (w : tb_Hp) : Option (Int32 × tb_Hp) := (tb_on 22 a0 w (fb_m_looseOnes a0 w)).bind fun x1 => (fl_m_givesWay_5 1048576 a0 0 x1.1 x1.2).bind fun o10 => some (o10.1, o10.2)
set_option maxHeartbeats 4000000 in
set_option maxRecDepth 20000 in
theorem dc_m_givesWay {a0 : Nat} {w : tb_Hp} {o : Int32 × tb_Hp} (h : fb_m_givesWay a0 w = some o) : tb_Ev tb_P 5 243 (0, tb_ent [.ref a0], [], w) (some (.int o.1), o.2) := by
  unfold fb_m_givesWay at h
  obtain ⟨r, hr⟩ : ∃ r : Option Value × tb_Hp, r = (some (.int o.1), o.2) := ⟨_, rfl⟩
  rw [← hr]
  show tb_Ev tb_P 5 243 (0, [(0, .ref a0)], [], w) r
  refine tb_Es (k := 3) (st' := (3, [(1, .int 0), (0, .ref a0)], [.ref a0], w)) rfl ?_
  replace h := Option.bind_eq_some_iff.mp h
  obtain ⟨x1, ex1, h⟩ := h
  obtain ⟨hkx1, hcall⟩ := tb_on_some ex1
  refine tb_e_cv (v := some (.int x1.1)) rfl (Or.inl ⟨_, rfl⟩) rfl rfl (Nat.le_of_ble_eq_true rfl) rfl (Nat.le_of_ble_eq_true rfl) hkx1 ((dc_m_looseOnes hcall).up (by decide)) ?_
  refine tb_Es (k := 2) (st' := (6, [(0, .ref a0), (1, .int 0), (2, .int x1.1)], [], x1.2)) rfl ?_
  replace h := Option.bind_eq_some_iff.mp h
  obtain ⟨o10, eo10, h⟩ := h
  refine dl_m_givesWay_5 _ a0 0 x1.1 x1.2 _ eo10 r ?_
  refine tb_Es (k := 1) (st' := (45, [(1, .int o10.1)], [.int o10.1], o10.2)) rfl ?_
  obtain rfl := Option.some.inj h
  subst hr
  exact tb_Er rfl rfl
/-! TannerBuntingModel.marry(I)I -/
def fb_m_marry (a0 : Nat) (a1 : Int32) (w : tb_Hp) : Option (Int32 × tb_Hp) := (tb_on 22 a0 w (fb_m_isStreet a0 w)).bind fun x1 => (if x1.1 = 0 then some (-3, x1.2) else (fb_m_in (Int32.toInt64 a1) (-1) 4 x1.2).bind fun x2 => (if x2.1 = 0 then some (-3, x2.2) else (tb_on 22 a0 x2.2 (fb_m_findsPairs a0 x2.2)).bind fun x3 => (if a1 = (-1) then some (x3.1, x3.2) else (tb_gN 22 20 a0 x3.2).bind fun p4 => (tb_lI [1, 9] p4 1 x3.2).bind fun x5 => (if a1 < x5 then (tb_gN 22 27 a0 x3.2).bind fun p6 => (tb_lI [1, 9] p6 a1 x3.2).bind fun x7 => some (x7, x3.2) else some (-2, x3.2)))))
set_option maxHeartbeats 4000000 in
set_option maxRecDepth 20000 in
theorem dc_m_marry {a0 : Nat} {a1 : Int32} {w : tb_Hp} {o : Int32 × tb_Hp} (h : fb_m_marry a0 a1 w = some o) : tb_Ev tb_P 5 273 (0, tb_ent [.ref a0, .int a1], [], w) (some (.int o.1), o.2) := by
  unfold fb_m_marry at h
  obtain ⟨r, hr⟩ : ∃ r : Option Value × tb_Hp, r = (some (.int o.1), o.2) := ⟨_, rfl⟩
  rw [← hr]
  show tb_Ev tb_P 5 273 (0, [(0, .ref a0), (1, .int a1)], [], w) r
  refine tb_Es (k := 1) (st' := (1, [(0, .ref a0), (1, .int a1)], [.ref a0], w)) rfl ?_
  replace h := Option.bind_eq_some_iff.mp h
  obtain ⟨x1, ex1, h⟩ := h
  obtain ⟨hkx1, hcall⟩ := tb_on_some ex1
  refine tb_e_cv (v := some (.int x1.1)) rfl (Or.inl ⟨_, rfl⟩) rfl rfl (Nat.le_of_ble_eq_true rfl) rfl (Nat.le_of_ble_eq_true rfl) hkx1 ((dc_m_isStreet hcall).up (by decide)) ?_
  refine tb_b_ieq rfl (fun hc => ?_) (fun hc => ?_)
  · rw [if_pos hc] at h
    refine tb_Es (k := 1) (st' := (10, [(0, .ref a0), (1, .int a1)], [.int (-3)], x1.2)) rfl ?_
    obtain rfl := Option.some.inj h
    subst hr
    exact tb_Er rfl rfl
  · rw [if_neg hc] at h
    refine tb_Es (k := 4) (st' := (7, [(0, .ref a0), (1, .int a1)], [.long 4, .long (-1), .long (Int32.toInt64 a1)], x1.2)) rfl ?_
    replace h := Option.bind_eq_some_iff.mp h
    obtain ⟨x2, ex2, h⟩ := h
    have hcall := ex2
    refine tb_e_cs (v := some (.int x2.1)) rfl rfl rfl (Nat.le_of_ble_eq_true rfl) rfl (Nat.le_of_ble_eq_true rfl) ((dc_m_in hcall).up (by decide)) ?_
    refine tb_b_ine rfl (fun hc => ?_) (fun hc => ?_)
    · rw [if_pos hc] at h
      refine tb_Es (k := 1) (st' := (10, [(0, .ref a0), (1, .int a1)], [.int (-3)], x2.2)) rfl ?_
      obtain rfl := Option.some.inj h
      subst hr
      exact tb_Er rfl rfl
    · rw [if_neg hc] at h
      refine tb_Es (k := 1) (st' := (12, [(0, .ref a0), (1, .int a1)], [.ref a0], x2.2)) rfl ?_
      replace h := Option.bind_eq_some_iff.mp h
      obtain ⟨x3, ex3, h⟩ := h
      obtain ⟨hkx3, hcall⟩ := tb_on_some ex3
      refine tb_e_cv (v := some (.int x3.1)) rfl (Or.inl ⟨_, rfl⟩) rfl rfl (Nat.le_of_ble_eq_true rfl) rfl (Nat.le_of_ble_eq_true rfl) hkx3 ((dc_m_findsPairs hcall).up (by decide)) ?_
      refine tb_Es (k := 3) (st' := (16, [(2, .int x3.1), (0, .ref a0), (1, .int a1)], [.int (-1), .int a1], x3.2)) rfl ?_
      refine tb_b_cne rfl (fun hc => ?_) (fun hc => ?_)
      · rw [if_pos hc] at h
        refine tb_Es (k := 1) (st' := (18, [(2, .int x3.1), (0, .ref a0), (1, .int a1)], [.int x3.1], x3.2)) rfl ?_
        obtain rfl := Option.some.inj h
        subst hr
        exact tb_Er rfl rfl
      · rw [if_neg hc] at h
        refine tb_Es (k := 2) (st' := (21, [(2, .int x3.1), (0, .ref a0), (1, .int a1)], [.ref a0, .int a1], x3.2)) rfl ?_
        replace h := Option.bind_eq_some_iff.mp h
        obtain ⟨p4, ep4, h⟩ := h
        refine tb_e_gN rfl ep4 ?_
        refine tb_Es (k := 1) (st' := (23, [(2, .int x3.1), (0, .ref a0), (1, .int a1)], [.int 1, .ref p4, .int a1], x3.2)) rfl ?_
        replace h := Option.bind_eq_some_iff.mp h
        obtain ⟨x5, ex5, h⟩ := h
        refine tb_e_lI rfl (Or.inl ⟨rfl, rfl⟩) ex5 ?_
        refine tb_b_cge rfl (fun hc => ?_) (fun hc => ?_)
        · rw [if_pos hc] at h
          refine tb_Es (k := 1) (st' := (26, [(2, .int x3.1), (0, .ref a0), (1, .int a1)], [.ref a0], x3.2)) rfl ?_
          replace h := Option.bind_eq_some_iff.mp h
          obtain ⟨p6, ep6, h⟩ := h
          refine tb_e_gN rfl ep6 ?_
          refine tb_Es (k := 1) (st' := (28, [(2, .int x3.1), (0, .ref a0), (1, .int a1)], [.int a1, .ref p6], x3.2)) rfl ?_
          replace h := Option.bind_eq_some_iff.mp h
          obtain ⟨x7, ex7, h⟩ := h
          refine tb_e_lI rfl (Or.inl ⟨rfl, rfl⟩) ex7 ?_
          refine tb_Es (k := 1) (st' := (31, [(2, .int x3.1), (0, .ref a0), (1, .int a1)], [.int x7], x3.2)) rfl ?_
          obtain rfl := Option.some.inj h
          subst hr
          exact tb_Er rfl rfl
        · rw [if_neg hc] at h
          refine tb_Es (k := 1) (st' := (31, [(2, .int x3.1), (0, .ref a0), (1, .int a1)], [.int (-2)], x3.2)) rfl ?_
          obtain rfl := Option.some.inj h
          subst hr
          exact tb_Er rfl rfl
/-! TannerBunting.ahead(II)I -/
def fb_x_ahead (a0 : Nat) (a1 : Int32) (a2 : Int32) (w : tb_Hp) : Option (Int32 × tb_Hp) := (tb_gN 21 5 a0 w).bind fun p1 => (tb_on 15 p1 w (fb_sc_isEmpty p1 w)).bind fun x2 => (if x2.1 = 0 then (fb_x_within a1 0 100 x2.2).bind fun x3 => (if x3.1 = 0 then some (-1, x3.2) else (fb_x_within a2 0 2 x3.2).bind fun x4 => (if x4.1 = 0 then some (-1, x4.2) else (tb_gN 21 10 a0 x4.2).bind fun p5 => (tb_gN 21 5 a0 x4.2).bind fun p6 => (tb_gN 15 0 p6 x4.2).bind fun p7 => (tb_on 20 p5 x4.2 (fb_yr_begin p5 p7 x4.2)).bind fun x8 => (tb_gN 21 10 a0 x8).bind fun p9 => (tb_on 21 a0 x8 (fb_x_ruleInForce a0 x8)).bind fun x10 => (tb_on 20 p9 x10.2 (fb_yr_goOn p9 x10.1 a1 x10.2)).bind fun x11 => (if a2 = 0 then (tb_gN 21 10 a0 x11).bind fun p12 => (tb_gN 20 0 p12 x11).bind fun p13 => (tb_gI 17 5 p13 x11).bind fun x14 => some (x14, x11) else (if a2 = 1 then (tb_gN 21 10 a0 x11).bind fun p15 => (tb_gN 20 0 p15 x11).bind fun p16 => (tb_gI 17 4 p16 x11).bind fun x17 => some (x17, x11) else (tb_gN 21 10 a0 x11).bind fun p18 => (tb_gN 20 0 p18 x11).bind fun p19 => (tb_on 17 p19 x11 (fb_s_allPull p19 x11)).bind fun x20 => some (x20.1, x20.2))))) else some (-1, x2.2))
set_option maxHeartbeats 4000000 in
set_option maxRecDepth 20000 in
theorem dc_x_ahead {a0 : Nat} {a1 : Int32} {a2 : Int32} {w : tb_Hp} {o : Int32 × tb_Hp} (h : fb_x_ahead a0 a1 a2 w = some o) : tb_Ev tb_P 6 98 (0, tb_ent [.ref a0, .int a1, .int a2], [], w) (some (.int o.1), o.2) := by
  unfold fb_x_ahead at h
  obtain ⟨r, hr⟩ : ∃ r : Option Value × tb_Hp, r = (some (.int o.1), o.2) := ⟨_, rfl⟩
  rw [← hr]
  show tb_Ev tb_P 6 98 (0, [(0, .ref a0), (1, .int a1), (2, .int a2)], [], w) r
  refine tb_Es (k := 1) (st' := (1, [(0, .ref a0), (1, .int a1), (2, .int a2)], [.ref a0], w)) rfl ?_
  replace h := Option.bind_eq_some_iff.mp h
  obtain ⟨p1, ep1, h⟩ := h
  refine tb_e_gN rfl ep1 ?_
  replace h := Option.bind_eq_some_iff.mp h
  obtain ⟨x2, ex2, h⟩ := h
  obtain ⟨hkx2, hcall⟩ := tb_on_some ex2
  refine tb_e_cv (v := some (.int x2.1)) rfl (Or.inl ⟨_, rfl⟩) rfl rfl (Nat.le_of_ble_eq_true rfl) rfl (Nat.le_of_ble_eq_true rfl) hkx2 ((dc_sc_isEmpty hcall).up (by decide)) ?_
  refine tb_b_ine rfl (fun hc => ?_) (fun hc => ?_)
  · rw [if_pos hc] at h
    refine tb_Es (k := 3) (st' := (7, [(0, .ref a0), (1, .int a1), (2, .int a2)], [.int 100, .int 0, .int a1], x2.2)) rfl ?_
    replace h := Option.bind_eq_some_iff.mp h
    obtain ⟨x3, ex3, h⟩ := h
    have hcall := ex3
    refine tb_e_cs (v := some (.int x3.1)) rfl rfl rfl (Nat.le_of_ble_eq_true rfl) rfl (Nat.le_of_ble_eq_true rfl) ((dc_x_within hcall).up (by decide)) ?_
    refine tb_b_ieq rfl (fun hc => ?_) (fun hc => ?_)
    · rw [if_pos hc] at h
      refine tb_Es (k := 1) (st' := (15, [(0, .ref a0), (1, .int a1), (2, .int a2)], [.int (-1)], x3.2)) rfl ?_
      obtain rfl := Option.some.inj h
      subst hr
      exact tb_Er rfl rfl
    · rw [if_neg hc] at h
      refine tb_Es (k := 3) (st' := (12, [(0, .ref a0), (1, .int a1), (2, .int a2)], [.int 2, .int 0, .int a2], x3.2)) rfl ?_
      replace h := Option.bind_eq_some_iff.mp h
      obtain ⟨x4, ex4, h⟩ := h
      have hcall := ex4
      refine tb_e_cs (v := some (.int x4.1)) rfl rfl rfl (Nat.le_of_ble_eq_true rfl) rfl (Nat.le_of_ble_eq_true rfl) ((dc_x_within hcall).up (by decide)) ?_
      refine tb_b_ine rfl (fun hc => ?_) (fun hc => ?_)
      · rw [if_pos hc] at h
        refine tb_Es (k := 1) (st' := (15, [(0, .ref a0), (1, .int a1), (2, .int a2)], [.int (-1)], x4.2)) rfl ?_
        obtain rfl := Option.some.inj h
        subst hr
        exact tb_Er rfl rfl
      · rw [if_neg hc] at h
        refine tb_Es (k := 1) (st' := (17, [(0, .ref a0), (1, .int a1), (2, .int a2)], [.ref a0], x4.2)) rfl ?_
        replace h := Option.bind_eq_some_iff.mp h
        obtain ⟨p5, ep5, h⟩ := h
        refine tb_e_gN rfl ep5 ?_
        refine tb_Es (k := 1) (st' := (19, [(0, .ref a0), (1, .int a1), (2, .int a2)], [.ref a0, .ref p5], x4.2)) rfl ?_
        replace h := Option.bind_eq_some_iff.mp h
        obtain ⟨p6, ep6, h⟩ := h
        refine tb_e_gN rfl ep6 ?_
        replace h := Option.bind_eq_some_iff.mp h
        obtain ⟨p7, ep7, h⟩ := h
        refine tb_e_gN rfl ep7 ?_
        replace h := Option.bind_eq_some_iff.mp h
        obtain ⟨x8, ex8, h⟩ := h
        obtain ⟨hkx8, hcall⟩ := tb_on_some ex8
        refine tb_e_cv (v := none) rfl (Or.inl ⟨_, rfl⟩) rfl rfl (Nat.le_of_ble_eq_true rfl) rfl (Nat.le_of_ble_eq_true rfl) hkx8 ((dc_yr_begin hcall).up (by decide)) ?_
        refine tb_Es (k := 1) (st' := (23, [(0, .ref a0), (1, .int a1), (2, .int a2)], [.ref a0], x8)) rfl ?_
        replace h := Option.bind_eq_some_iff.mp h
        obtain ⟨p9, ep9, h⟩ := h
        refine tb_e_gN rfl ep9 ?_
        refine tb_Es (k := 1) (st' := (25, [(0, .ref a0), (1, .int a1), (2, .int a2)], [.ref a0, .ref p9], x8)) rfl ?_
        replace h := Option.bind_eq_some_iff.mp h
        obtain ⟨x10, ex10, h⟩ := h
        obtain ⟨hkx10, hcall⟩ := tb_on_some ex10
        refine tb_e_cv (v := some (va_rf x10.1)) rfl (Or.inl ⟨_, rfl⟩) rfl rfl (Nat.le_of_ble_eq_true rfl) rfl (Nat.le_of_ble_eq_true rfl) hkx10 ((dc_x_ruleInForce hcall).up (by decide)) ?_
        refine tb_Es (k := 1) (st' := (27, [(0, .ref a0), (1, .int a1), (2, .int a2)], [.int a1, va_rf x10.1, .ref p9], x10.2)) rfl ?_
        replace h := Option.bind_eq_some_iff.mp h
        obtain ⟨x11, ex11, h⟩ := h
        obtain ⟨hkx11, hcall⟩ := tb_on_some ex11
        refine tb_e_cv (as := [va_rf x10.1, .int a1]) (v := none) rfl (Or.inl ⟨_, rfl⟩) rfl rfl (Nat.le_of_ble_eq_true rfl) rfl (by simp only [List.map_cons, List.map_nil, List.sum_cons, List.sum_nil, tb_catq, tb_cR, tb_cI, tb_cJ, tb_cT]; exact Nat.le_of_ble_eq_true rfl) hkx11 ((dc_yr_goOn hcall).up (by decide)) ?_
        refine tb_Es (k := 1) (st' := (29, [(0, .ref a0), (1, .int a1), (2, .int a2)], [.int a2], x11)) rfl ?_
        refine tb_w_lks rfl ?_
        refine tb_w_one (k := 0) (by decide) (fun hc => ?_) (fun hc => ?_)
        · rw [if_pos hc] at h
          refine tb_Es (k := 1) (st' := (31, [(0, .ref a0), (1, .int a1), (2, .int a2)], [.ref a0], x11)) rfl ?_
          replace h := Option.bind_eq_some_iff.mp h
          obtain ⟨p12, ep12, h⟩ := h
          refine tb_e_gN rfl ep12 ?_
          replace h := Option.bind_eq_some_iff.mp h
          obtain ⟨p13, ep13, h⟩ := h
          refine tb_e_gN rfl ep13 ?_
          replace h := Option.bind_eq_some_iff.mp h
          obtain ⟨x14, ex14, h⟩ := h
          refine tb_e_gI rfl ex14 ?_
          obtain rfl := Option.some.inj h
          subst hr
          exact tb_Er rfl rfl
        rw [if_neg hc] at h
        refine tb_w_one (k := 1) (by decide) (fun hc => ?_) (fun hc => ?_)
        · rw [if_pos hc] at h
          refine tb_Es (k := 1) (st' := (36, [(0, .ref a0), (1, .int a1), (2, .int a2)], [.ref a0], x11)) rfl ?_
          replace h := Option.bind_eq_some_iff.mp h
          obtain ⟨p15, ep15, h⟩ := h
          refine tb_e_gN rfl ep15 ?_
          replace h := Option.bind_eq_some_iff.mp h
          obtain ⟨p16, ep16, h⟩ := h
          refine tb_e_gN rfl ep16 ?_
          replace h := Option.bind_eq_some_iff.mp h
          obtain ⟨x17, ex17, h⟩ := h
          refine tb_e_gI rfl ex17 ?_
          obtain rfl := Option.some.inj h
          subst hr
          exact tb_Er rfl rfl
        rw [if_neg hc] at h
        refine tb_w_end ?_
        refine tb_Es (k := 1) (st' := (41, [(0, .ref a0), (1, .int a1), (2, .int a2)], [.ref a0], x11)) rfl ?_
        replace h := Option.bind_eq_some_iff.mp h
        obtain ⟨p18, ep18, h⟩ := h
        refine tb_e_gN rfl ep18 ?_
        replace h := Option.bind_eq_some_iff.mp h
        obtain ⟨p19, ep19, h⟩ := h
        refine tb_e_gN rfl ep19 ?_
        replace h := Option.bind_eq_some_iff.mp h
        obtain ⟨x20, ex20, h⟩ := h
        obtain ⟨hkx20, hcall⟩ := tb_on_some ex20
        refine tb_e_cv (v := some (.int x20.1)) rfl (Or.inl ⟨_, rfl⟩) rfl rfl (Nat.le_of_ble_eq_true rfl) rfl (Nat.le_of_ble_eq_true rfl) hkx20 ((dc_s_allPull hcall).up (by decide)) ?_
        obtain rfl := Option.some.inj h
        subst hr
        exact tb_Er rfl rfl
  · rw [if_neg hc] at h
    refine tb_Es (k := 1) (st' := (15, [(0, .ref a0), (1, .int a1), (2, .int a2)], [.int (-1)], x2.2)) rfl ?_
    obtain rfl := Option.some.inj h
    subst hr
    exact tb_Er rfl rfl
/-! TannerBunting.falls(I)I -/
def fb_x_falls (a0 : Nat) (a1 : Int32) (w : tb_Hp) : Option (Int32 × tb_Hp) := (tb_gN 21 5 a0 w).bind fun p1 => (tb_on 15 p1 w (fb_sc_isEmpty p1 w)).bind fun x2 => (if x2.1 = 0 then (fb_x_within a1 0 1 x2.2).bind fun x3 => (if x3.1 = 0 then some (-1, x3.2) else (tb_gN 21 10 a0 x3.2).bind fun p4 => (tb_gN 21 5 a0 x3.2).bind fun p5 => (tb_gN 15 0 p5 x3.2).bind fun p6 => (tb_on 21 a0 x3.2 (fb_x_ruleInForce a0 x3.2)).bind fun x7 => (tb_gN 21 5 a0 x7.2).bind fun p8 => (tb_gN 15 0 p8 x7.2).bind fun p9 => (tb_gI 17 5 p9 x7.2).bind fun x10 => (tb_on 20 p4 x7.2 (fb_yr_firstFall p4 p6 x7.1 x10 x7.2)).bind fun x11 => (if x11.1 = (-1) then some (-2, x11.2) else (if a1 = 0 then some (x11.1, x11.2) else (tb_gN 21 10 a0 x11.2).bind fun p12 => (tb_gI 20 1 p12 x11.2).bind fun x13 => (fb_x_leastOf x13 x11.2).bind fun x14 => some (x14.1, x14.2)))) else some (-1, x2.2))
set_option maxHeartbeats 4000000 in
set_option maxRecDepth 20000 in
theorem dc_x_falls {a0 : Nat} {a1 : Int32} {w : tb_Hp} {o : Int32 × tb_Hp} (h : fb_x_falls a0 a1 w = some o) : tb_Ev tb_P 6 102 (0, tb_ent [.ref a0, .int a1], [], w) (some (.int o.1), o.2) := by
  unfold fb_x_falls at h
  obtain ⟨r, hr⟩ : ∃ r : Option Value × tb_Hp, r = (some (.int o.1), o.2) := ⟨_, rfl⟩
  rw [← hr]
  show tb_Ev tb_P 6 102 (0, [(0, .ref a0), (1, .int a1)], [], w) r
  refine tb_Es (k := 1) (st' := (1, [(0, .ref a0), (1, .int a1)], [.ref a0], w)) rfl ?_
  replace h := Option.bind_eq_some_iff.mp h
  obtain ⟨p1, ep1, h⟩ := h
  refine tb_e_gN rfl ep1 ?_
  replace h := Option.bind_eq_some_iff.mp h
  obtain ⟨x2, ex2, h⟩ := h
  obtain ⟨hkx2, hcall⟩ := tb_on_some ex2
  refine tb_e_cv (v := some (.int x2.1)) rfl (Or.inl ⟨_, rfl⟩) rfl rfl (Nat.le_of_ble_eq_true rfl) rfl (Nat.le_of_ble_eq_true rfl) hkx2 ((dc_sc_isEmpty hcall).up (by decide)) ?_
  refine tb_b_ine rfl (fun hc => ?_) (fun hc => ?_)
  · rw [if_pos hc] at h
    refine tb_Es (k := 3) (st' := (7, [(0, .ref a0), (1, .int a1)], [.int 1, .int 0, .int a1], x2.2)) rfl ?_
    replace h := Option.bind_eq_some_iff.mp h
    obtain ⟨x3, ex3, h⟩ := h
    have hcall := ex3
    refine tb_e_cs (v := some (.int x3.1)) rfl rfl rfl (Nat.le_of_ble_eq_true rfl) rfl (Nat.le_of_ble_eq_true rfl) ((dc_x_within hcall).up (by decide)) ?_
    refine tb_b_ine rfl (fun hc => ?_) (fun hc => ?_)
    · rw [if_pos hc] at h
      refine tb_Es (k := 1) (st' := (10, [(0, .ref a0), (1, .int a1)], [.int (-1)], x3.2)) rfl ?_
      obtain rfl := Option.some.inj h
      subst hr
      exact tb_Er rfl rfl
    · rw [if_neg hc] at h
      refine tb_Es (k := 1) (st' := (12, [(0, .ref a0), (1, .int a1)], [.ref a0], x3.2)) rfl ?_
      replace h := Option.bind_eq_some_iff.mp h
      obtain ⟨p4, ep4, h⟩ := h
      refine tb_e_gN rfl ep4 ?_
      refine tb_Es (k := 1) (st' := (14, [(0, .ref a0), (1, .int a1)], [.ref a0, .ref p4], x3.2)) rfl ?_
      replace h := Option.bind_eq_some_iff.mp h
      obtain ⟨p5, ep5, h⟩ := h
      refine tb_e_gN rfl ep5 ?_
      replace h := Option.bind_eq_some_iff.mp h
      obtain ⟨p6, ep6, h⟩ := h
      refine tb_e_gN rfl ep6 ?_
      refine tb_Es (k := 1) (st' := (17, [(0, .ref a0), (1, .int a1)], [.ref a0, .ref p6, .ref p4], x3.2)) rfl ?_
      replace h := Option.bind_eq_some_iff.mp h
      obtain ⟨x7, ex7, h⟩ := h
      obtain ⟨hkx7, hcall⟩ := tb_on_some ex7
      refine tb_e_cv (v := some (va_rf x7.1)) rfl (Or.inl ⟨_, rfl⟩) rfl rfl (Nat.le_of_ble_eq_true rfl) rfl (Nat.le_of_ble_eq_true rfl) hkx7 ((dc_x_ruleInForce hcall).up (by decide)) ?_
      refine tb_Es (k := 1) (st' := (19, [(0, .ref a0), (1, .int a1)], [.ref a0, va_rf x7.1, .ref p6, .ref p4], x7.2)) rfl ?_
      replace h := Option.bind_eq_some_iff.mp h
      obtain ⟨p8, ep8, h⟩ := h
      refine tb_e_gN rfl ep8 ?_
      replace h := Option.bind_eq_some_iff.mp h
      obtain ⟨p9, ep9, h⟩ := h
      refine tb_e_gN rfl ep9 ?_
      replace h := Option.bind_eq_some_iff.mp h
      obtain ⟨x10, ex10, h⟩ := h
      refine tb_e_gI rfl ex10 ?_
      replace h := Option.bind_eq_some_iff.mp h
      obtain ⟨x11, ex11, h⟩ := h
      obtain ⟨hkx11, hcall⟩ := tb_on_some ex11
      refine tb_e_cv (as := [.ref p6, va_rf x7.1, .int x10]) (v := some (.int x11.1)) rfl (Or.inl ⟨_, rfl⟩) rfl rfl (Nat.le_of_ble_eq_true rfl) rfl (by simp only [List.map_cons, List.map_nil, List.sum_cons, List.sum_nil, tb_catq, tb_cR, tb_cI, tb_cJ, tb_cT]; exact Nat.le_of_ble_eq_true rfl) hkx11 ((dc_yr_firstFall hcall).up (by decide)) ?_
      refine tb_Es (k := 3) (st' := (26, [(2, .int x11.1), (0, .ref a0), (1, .int a1)], [.int (-1), .int x11.1], x11.2)) rfl ?_
      refine tb_b_cne rfl (fun hc => ?_) (fun hc => ?_)
      · rw [if_pos hc] at h
        refine tb_Es (k := 1) (st' := (28, [(2, .int x11.1), (0, .ref a0), (1, .int a1)], [.int (-2)], x11.2)) rfl ?_
        obtain rfl := Option.some.inj h
        subst hr
        exact tb_Er rfl rfl
      · rw [if_neg hc] at h
        refine tb_Es (k := 1) (st' := (30, [(2, .int x11.1), (0, .ref a0), (1, .int a1)], [.int a1], x11.2)) rfl ?_
        refine tb_b_ine rfl (fun hc => ?_) (fun hc => ?_)
        · rw [if_pos hc] at h
          refine tb_Es (k := 2) (st' := (37, [(2, .int x11.1), (0, .ref a0), (1, .int a1)], [.int x11.1], x11.2)) rfl ?_
          obtain rfl := Option.some.inj h
          subst hr
          exact tb_Er rfl rfl
        · rw [if_neg hc] at h
          refine tb_Es (k := 1) (st' := (34, [(2, .int x11.1), (0, .ref a0), (1, .int a1)], [.ref a0], x11.2)) rfl ?_
          replace h := Option.bind_eq_some_iff.mp h
          obtain ⟨p12, ep12, h⟩ := h
          refine tb_e_gN rfl ep12 ?_
          replace h := Option.bind_eq_some_iff.mp h
          obtain ⟨x13, ex13, h⟩ := h
          refine tb_e_gI rfl ex13 ?_
          replace h := Option.bind_eq_some_iff.mp h
          obtain ⟨x14, ex14, h⟩ := h
          have hcall := ex14
          refine tb_e_cs (v := some (.int x14.1)) rfl rfl rfl (Nat.le_of_ble_eq_true rfl) rfl (Nat.le_of_ble_eq_true rfl) ((dc_x_leastOf hcall).up (by decide)) ?_
          obtain rfl := Option.some.inj h
          subst hr
          exact tb_Er rfl rfl
  · rw [if_neg hc] at h
    refine tb_Es (k := 1) (st' := (10, [(0, .ref a0), (1, .int a1)], [.int (-1)], x2.2)) rfl ?_
    obtain rfl := Option.some.inj h
    subst hr
    exact tb_Er rfl rfl
/-! TannerBunting.lasts(I)I -/
def fb_x_lasts (a0 : Nat) (a1 : Int32) (w : tb_Hp) : Option (Int32 × tb_Hp) := (tb_gN 21 5 a0 w).bind fun p1 => (tb_gN 15 0 p1 w).bind fun p2 => (tb_on 17 p2 w (fb_s_stands p2 a1 w)).bind fun x3 => (if x3.1 = 0 then some (-1, x3.2) else (tb_gN 21 10 a0 x3.2).bind fun p4 => (tb_gN 21 5 a0 x3.2).bind fun p5 => (tb_gN 15 0 p5 x3.2).bind fun p6 => (tb_on 21 a0 x3.2 (fb_x_ruleInForce a0 x3.2)).bind fun x7 => (tb_on 20 p4 x7.2 (fb_yr_firstFall p4 p6 x7.1 (1 <<< (a1 &&& 31)) x7.2)).bind fun x8 => (if x8.1 = (-1) then some (-2, x8.2) else some (x8.1, x8.2)))
set_option maxHeartbeats 4000000 in
set_option maxRecDepth 20000 in
theorem dc_x_lasts {a0 : Nat} {a1 : Int32} {w : tb_Hp} {o : Int32 × tb_Hp} (h : fb_x_lasts a0 a1 w = some o) : tb_Ev tb_P 6 105 (0, tb_ent [.ref a0, .int a1], [], w) (some (.int o.1), o.2) := by
  unfold fb_x_lasts at h
  obtain ⟨r, hr⟩ : ∃ r : Option Value × tb_Hp, r = (some (.int o.1), o.2) := ⟨_, rfl⟩
  rw [← hr]
  show tb_Ev tb_P 6 105 (0, [(0, .ref a0), (1, .int a1)], [], w) r
  refine tb_Es (k := 1) (st' := (1, [(0, .ref a0), (1, .int a1)], [.ref a0], w)) rfl ?_
  replace h := Option.bind_eq_some_iff.mp h
  obtain ⟨p1, ep1, h⟩ := h
  refine tb_e_gN rfl ep1 ?_
  replace h := Option.bind_eq_some_iff.mp h
  obtain ⟨p2, ep2, h⟩ := h
  refine tb_e_gN rfl ep2 ?_
  refine tb_Es (k := 1) (st' := (4, [(0, .ref a0), (1, .int a1)], [.int a1, .ref p2], w)) rfl ?_
  replace h := Option.bind_eq_some_iff.mp h
  obtain ⟨x3, ex3, h⟩ := h
  obtain ⟨hkx3, hcall⟩ := tb_on_some ex3
  refine tb_e_cv (v := some (.int x3.1)) rfl (Or.inl ⟨_, rfl⟩) rfl rfl (Nat.le_of_ble_eq_true rfl) rfl (Nat.le_of_ble_eq_true rfl) hkx3 ((dc_s_stands hcall).up (by decide)) ?_
  refine tb_b_ine rfl (fun hc => ?_) (fun hc => ?_)
  · rw [if_pos hc] at h
    refine tb_Es (k := 1) (st' := (7, [(0, .ref a0), (1, .int a1)], [.int (-1)], x3.2)) rfl ?_
    obtain rfl := Option.some.inj h
    subst hr
    exact tb_Er rfl rfl
  · rw [if_neg hc] at h
    refine tb_Es (k := 1) (st' := (9, [(0, .ref a0), (1, .int a1)], [.ref a0], x3.2)) rfl ?_
    replace h := Option.bind_eq_some_iff.mp h
    obtain ⟨p4, ep4, h⟩ := h
    refine tb_e_gN rfl ep4 ?_
    refine tb_Es (k := 1) (st' := (11, [(0, .ref a0), (1, .int a1)], [.ref a0, .ref p4], x3.2)) rfl ?_
    replace h := Option.bind_eq_some_iff.mp h
    obtain ⟨p5, ep5, h⟩ := h
    refine tb_e_gN rfl ep5 ?_
    replace h := Option.bind_eq_some_iff.mp h
    obtain ⟨p6, ep6, h⟩ := h
    refine tb_e_gN rfl ep6 ?_
    refine tb_Es (k := 1) (st' := (14, [(0, .ref a0), (1, .int a1)], [.ref a0, .ref p6, .ref p4], x3.2)) rfl ?_
    replace h := Option.bind_eq_some_iff.mp h
    obtain ⟨x7, ex7, h⟩ := h
    obtain ⟨hkx7, hcall⟩ := tb_on_some ex7
    refine tb_e_cv (v := some (va_rf x7.1)) rfl (Or.inl ⟨_, rfl⟩) rfl rfl (Nat.le_of_ble_eq_true rfl) rfl (Nat.le_of_ble_eq_true rfl) hkx7 ((dc_x_ruleInForce hcall).up (by decide)) ?_
    refine tb_Es (k := 3) (st' := (18, [(0, .ref a0), (1, .int a1)], [.int (1 <<< (a1 &&& 31)), va_rf x7.1, .ref p6, .ref p4], x7.2)) rfl ?_
    replace h := Option.bind_eq_some_iff.mp h
    obtain ⟨x8, ex8, h⟩ := h
    obtain ⟨hkx8, hcall⟩ := tb_on_some ex8
    refine tb_e_cv (as := [.ref p6, va_rf x7.1, .int (1 <<< (a1 &&& 31))]) (v := some (.int x8.1)) rfl (Or.inl ⟨_, rfl⟩) rfl rfl (Nat.le_of_ble_eq_true rfl) rfl (by simp only [List.map_cons, List.map_nil, List.sum_cons, List.sum_nil, tb_catq, tb_cR, tb_cI, tb_cJ, tb_cT]; exact Nat.le_of_ble_eq_true rfl) hkx8 ((dc_yr_firstFall hcall).up (by decide)) ?_
    refine tb_Es (k := 3) (st' := (22, [(2, .int x8.1), (0, .ref a0), (1, .int a1)], [.int (-1), .int x8.1], x8.2)) rfl ?_
    refine tb_b_cne rfl (fun hc => ?_) (fun hc => ?_)
    · rw [if_pos hc] at h
      refine tb_Es (k := 2) (st' := (26, [(2, .int x8.1), (0, .ref a0), (1, .int a1)], [.int (-2)], x8.2)) rfl ?_
      obtain rfl := Option.some.inj h
      subst hr
      exact tb_Er rfl rfl
    · rw [if_neg hc] at h
      refine tb_Es (k := 1) (st' := (26, [(2, .int x8.1), (0, .ref a0), (1, .int a1)], [.int x8.1], x8.2)) rfl ?_
      obtain rfl := Option.some.inj h
      subst hr
      exact tb_Er rfl rfl
/-! TannerBunting.needed()I -/
def fb_x_needed (a0 : Nat) (w : tb_Hp) : Option (Int32 × tb_Hp) := (tb_gN 21 5 a0 w).bind fun p1 => (tb_on 15 p1 w (fb_sc_isEmpty p1 w)).bind fun x2 => (if x2.1 = 0 then (tb_gN 21 9 a0 x2.2).bind fun p3 => (tb_gN 21 5 a0 x2.2).bind fun p4 => (tb_gN 15 0 p4 x2.2).bind fun p5 => (tb_on 10 p3 x2.2 (fb_h_linesNeeded p3 p5 x2.2)).bind fun x6 => some (x6.1, x6.2) else some (-1, x2.2))
set_option maxHeartbeats 4000000 in
set_option maxRecDepth 20000 in
theorem dc_x_needed {a0 : Nat} {w : tb_Hp} {o : Int32 × tb_Hp} (h : fb_x_needed a0 w = some o) : tb_Ev tb_P 6 108 (0, tb_ent [.ref a0], [], w) (some (.int o.1), o.2) := by
  unfold fb_x_needed at h
  obtain ⟨r, hr⟩ : ∃ r : Option Value × tb_Hp, r = (some (.int o.1), o.2) := ⟨_, rfl⟩
  rw [← hr]
  show tb_Ev tb_P 6 108 (0, [(0, .ref a0)], [], w) r
  refine tb_Es (k := 1) (st' := (1, [(0, .ref a0)], [.ref a0], w)) rfl ?_
  replace h := Option.bind_eq_some_iff.mp h
  obtain ⟨p1, ep1, h⟩ := h
  refine tb_e_gN rfl ep1 ?_
  replace h := Option.bind_eq_some_iff.mp h
  obtain ⟨x2, ex2, h⟩ := h
  obtain ⟨hkx2, hcall⟩ := tb_on_some ex2
  refine tb_e_cv (v := some (.int x2.1)) rfl (Or.inl ⟨_, rfl⟩) rfl rfl (Nat.le_of_ble_eq_true rfl) rfl (Nat.le_of_ble_eq_true rfl) hkx2 ((dc_sc_isEmpty hcall).up (by decide)) ?_
  refine tb_b_ieq rfl (fun hc => ?_) (fun hc => ?_)
  · rw [if_pos hc] at h
    refine tb_Es (k := 1) (st' := (7, [(0, .ref a0)], [.ref a0], x2.2)) rfl ?_
    replace h := Option.bind_eq_some_iff.mp h
    obtain ⟨p3, ep3, h⟩ := h
    refine tb_e_gN rfl ep3 ?_
    refine tb_Es (k := 1) (st' := (9, [(0, .ref a0)], [.ref a0, .ref p3], x2.2)) rfl ?_
    replace h := Option.bind_eq_some_iff.mp h
    obtain ⟨p4, ep4, h⟩ := h
    refine tb_e_gN rfl ep4 ?_
    replace h := Option.bind_eq_some_iff.mp h
    obtain ⟨p5, ep5, h⟩ := h
    refine tb_e_gN rfl ep5 ?_
    replace h := Option.bind_eq_some_iff.mp h
    obtain ⟨x6, ex6, h⟩ := h
    obtain ⟨hkx6, hcall⟩ := tb_on_some ex6
    refine tb_e_cv (v := some (.int x6.1)) rfl (Or.inl ⟨_, rfl⟩) rfl rfl (Nat.le_of_ble_eq_true rfl) rfl (Nat.le_of_ble_eq_true rfl) hkx6 ((dc_h_linesNeeded hcall).up (by decide)) ?_
    obtain rfl := Option.some.inj h
    subst hr
    exact tb_Er rfl rfl
  · rw [if_neg hc] at h
    refine tb_Es (k := 2) (st' := (12, [(0, .ref a0)], [.int (-1)], x2.2)) rfl ?_
    obtain rfl := Option.some.inj h
    subst hr
    exact tb_Er rfl rfl
/-! TannerBunting.fewest(II)I -/
def fb_x_fewest (a0 : Nat) (a1 : Int32) (a2 : Int32) (w : tb_Hp) : Option (Int32 × tb_Hp) := (tb_gN 21 5 a0 w).bind fun p1 => (tb_gN 15 0 p1 w).bind fun p2 => (tb_on 17 p2 w (fb_s_stands p2 a1 w)).bind fun x3 => (if x3.1 = 0 then some (-1, x3.2) else (fb_x_within a2 0 1 x3.2).bind fun x4 => (if x4.1 = 0 then some (-1, x4.2) else (tb_gN 21 9 a0 x4.2).bind fun p5 => (tb_gN 21 5 a0 x4.2).bind fun p6 => (tb_gN 15 0 p6 x4.2).bind fun p7 => (tb_on 10 p5 x4.2 (fb_h_fewestCut p5 p7 (1 <<< (a1 &&& 31)) x4.2)).bind fun x8 => (fb_x_ofSet x8.1 a2 x8.2).bind fun x9 => some (x9.1, x9.2)))
set_option maxHeartbeats 4000000 in
set_option maxRecDepth 20000 in
theorem dc_x_fewest {a0 : Nat} {a1 : Int32} {a2 : Int32} {w : tb_Hp} {o : Int32 × tb_Hp} (h : fb_x_fewest a0 a1 a2 w = some o) : tb_Ev tb_P 6 111 (0, tb_ent [.ref a0, .int a1, .int a2], [], w) (some (.int o.1), o.2) := by
  unfold fb_x_fewest at h
  obtain ⟨r, hr⟩ : ∃ r : Option Value × tb_Hp, r = (some (.int o.1), o.2) := ⟨_, rfl⟩
  rw [← hr]
  show tb_Ev tb_P 6 111 (0, [(0, .ref a0), (1, .int a1), (2, .int a2)], [], w) r
  refine tb_Es (k := 1) (st' := (1, [(0, .ref a0), (1, .int a1), (2, .int a2)], [.ref a0], w)) rfl ?_
  replace h := Option.bind_eq_some_iff.mp h
  obtain ⟨p1, ep1, h⟩ := h
  refine tb_e_gN rfl ep1 ?_
  replace h := Option.bind_eq_some_iff.mp h
  obtain ⟨p2, ep2, h⟩ := h
  refine tb_e_gN rfl ep2 ?_
  refine tb_Es (k := 1) (st' := (4, [(0, .ref a0), (1, .int a1), (2, .int a2)], [.int a1, .ref p2], w)) rfl ?_
  replace h := Option.bind_eq_some_iff.mp h
  obtain ⟨x3, ex3, h⟩ := h
  obtain ⟨hkx3, hcall⟩ := tb_on_some ex3
  refine tb_e_cv (v := some (.int x3.1)) rfl (Or.inl ⟨_, rfl⟩) rfl rfl (Nat.le_of_ble_eq_true rfl) rfl (Nat.le_of_ble_eq_true rfl) hkx3 ((dc_s_stands hcall).up (by decide)) ?_
  refine tb_b_ieq rfl (fun hc => ?_) (fun hc => ?_)
  · rw [if_pos hc] at h
    refine tb_Es (k := 1) (st' := (12, [(0, .ref a0), (1, .int a1), (2, .int a2)], [.int (-1)], x3.2)) rfl ?_
    obtain rfl := Option.some.inj h
    subst hr
    exact tb_Er rfl rfl
  · rw [if_neg hc] at h
    refine tb_Es (k := 3) (st' := (9, [(0, .ref a0), (1, .int a1), (2, .int a2)], [.int 1, .int 0, .int a2], x3.2)) rfl ?_
    replace h := Option.bind_eq_some_iff.mp h
    obtain ⟨x4, ex4, h⟩ := h
    have hcall := ex4
    refine tb_e_cs (v := some (.int x4.1)) rfl rfl rfl (Nat.le_of_ble_eq_true rfl) rfl (Nat.le_of_ble_eq_true rfl) ((dc_x_within hcall).up (by decide)) ?_
    refine tb_b_ine rfl (fun hc => ?_) (fun hc => ?_)
    · rw [if_pos hc] at h
      refine tb_Es (k := 1) (st' := (12, [(0, .ref a0), (1, .int a1), (2, .int a2)], [.int (-1)], x4.2)) rfl ?_
      obtain rfl := Option.some.inj h
      subst hr
      exact tb_Er rfl rfl
    · rw [if_neg hc] at h
      refine tb_Es (k := 1) (st' := (14, [(0, .ref a0), (1, .int a1), (2, .int a2)], [.ref a0], x4.2)) rfl ?_
      replace h := Option.bind_eq_some_iff.mp h
      obtain ⟨p5, ep5, h⟩ := h
      refine tb_e_gN rfl ep5 ?_
      refine tb_Es (k := 1) (st' := (16, [(0, .ref a0), (1, .int a1), (2, .int a2)], [.ref a0, .ref p5], x4.2)) rfl ?_
      replace h := Option.bind_eq_some_iff.mp h
      obtain ⟨p6, ep6, h⟩ := h
      refine tb_e_gN rfl ep6 ?_
      replace h := Option.bind_eq_some_iff.mp h
      obtain ⟨p7, ep7, h⟩ := h
      refine tb_e_gN rfl ep7 ?_
      refine tb_Es (k := 3) (st' := (21, [(0, .ref a0), (1, .int a1), (2, .int a2)], [.int (1 <<< (a1 &&& 31)), .ref p7, .ref p5], x4.2)) rfl ?_
      replace h := Option.bind_eq_some_iff.mp h
      obtain ⟨x8, ex8, h⟩ := h
      obtain ⟨hkx8, hcall⟩ := tb_on_some ex8
      refine tb_e_cv (v := some (.int x8.1)) rfl (Or.inl ⟨_, rfl⟩) rfl rfl (Nat.le_of_ble_eq_true rfl) rfl (Nat.le_of_ble_eq_true rfl) hkx8 ((dc_h_fewestCut hcall).up (by decide)) ?_
      refine tb_Es (k := 1) (st' := (23, [(0, .ref a0), (1, .int a1), (2, .int a2)], [.int a2, .int x8.1], x8.2)) rfl ?_
      replace h := Option.bind_eq_some_iff.mp h
      obtain ⟨x9, ex9, h⟩ := h
      have hcall := ex9
      refine tb_e_cs (v := some (.int x9.1)) rfl rfl rfl (Nat.le_of_ble_eq_true rfl) rfl (Nat.le_of_ble_eq_true rfl) ((dc_x_ofSet hcall).up (by decide)) ?_
      obtain rfl := Option.some.inj h
      subst hr
      exact tb_Er rfl rfl
