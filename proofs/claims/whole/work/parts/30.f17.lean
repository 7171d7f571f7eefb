/-! TannerBunting$Years.findRests(LTannerBunting$Street;[IIII)V -/
def fj_yr_findRests_j50 (k : Nat → Nat → (Option Nat) → Int32 → Int32 → Int32 → Int32 → Int32 → tb_Hp → Option (Nat × Nat × (Option Nat) × Int32 × Int32 × Int32 × Int32 × tb_Hp)) (v0 : Nat) (v1 : Nat) (v2 : Option Nat) (v3 : Int32) (v4 : Int32) (v5 : Int32) (v6 : Int32) (v7 : Int32) (s0 : Int32) (s1 : Int32) (s2 : Int32) (s3 : Int32) (s4 : Nat) (w : tb_Hp) : Option (Nat × Nat × (Option Nat) × Int32 × Int32 × Int32 × Int32 × tb_Hp) := (tb_on 20 s4 w (fb_yr_setGain s4 s3 s2 (s1 + s0) w)).bind fun x11 => (tb_on 20 v0 x11 (fb_yr_gainOf v0 v6 1 x11)).bind fun x12 => (tb_gN 20 0 v0 x12.2).bind fun p13 => (tb_on 17 p13 x12.2 (fb_s_stands p13 v4 x12.2)).bind fun x14 => (if x14.1 = 0 then (tb_on 20 v0 x14.2 (fb_yr_setGain v0 v6 1 (x12.1 + 0) x14.2)).bind fun x15 => k v0 v1 v2 v3 v4 v5 v6 (v7 + 1) x15 else (tb_on 20 v0 x14.2 (fb_yr_setGain v0 v6 1 (x12.1 + 1) x14.2)).bind fun x16 => k v0 v1 v2 v3 v4 v5 v6 (v7 + 1) x16)
set_option maxHeartbeats 4000000 in
set_option maxRecDepth 20000 in
theorem dj_yr_findRests_j50 (k : Nat → Nat → (Option Nat) → Int32 → Int32 → Int32 → Int32 → Int32 → tb_Hp → Option (Nat × Nat × (Option Nat) × Int32 × Int32 × Int32 × Int32 × tb_Hp)) (v0 : Nat) (v1 : Nat) (v2 : Option Nat) (v3 : Int32) (v4 : Int32) (v5 : Int32) (v6 : Int32) (v7 : Int32) (s0 : Int32) (s1 : Int32) (s2 : Int32) (s3 : Int32) (s4 : Nat) (w : tb_Hp) (o : Nat × Nat × (Option Nat) × Int32 × Int32 × Int32 × Int32 × tb_Hp) (h : fj_yr_findRests_j50 k v0 v1 v2 v3 v4 v5 v6 v7 s0 s1 s2 s3 s4 w = some o) (r : Option Value × tb_Hp) (hx : tb_Ev tb_P 5 145 (75, [(0, .ref o.1), (1, .ref o.2.1), (2, va_rf o.2.2.1), (3, .int o.2.2.2.1), (4, .int o.2.2.2.2.1), (5, .int o.2.2.2.2.2.1), (6, .int o.2.2.2.2.2.2.1)], [], o.2.2.2.2.2.2.2) r) (hk : ∀ (v0 : Nat) (v1 : Nat) (v2 : Option Nat) (v3 : Int32) (v4 : Int32) (v5 : Int32) (v6 : Int32) (v7 : Int32) (w : tb_Hp), k v0 v1 v2 v3 v4 v5 v6 v7 w = some o → tb_Ev tb_P 5 145 (27, [(0, .ref v0), (1, .ref v1), (2, va_rf v2), (3, .int v3), (4, .int v4), (5, .int v5), (6, .int v6), (7, .int v7)], [], w) r) : tb_Ev tb_P 5 145 (53, [(0, .ref v0), (1, .ref v1), (2, va_rf v2), (3, .int v3), (4, .int v4), (5, .int v5), (6, .int v6), (7, .int v7)], [.int s0, .int s1, .int s2, .int s3, .ref s4], w) r := by
  unfold fj_yr_findRests_j50 at h
  refine tb_Es (k := 1) (st' := (54, [(0, .ref v0), (1, .ref v1), (2, va_rf v2), (3, .int v3), (4, .int v4), (5, .int v5), (6, .int v6), (7, .int v7)], [.int (s1 + s0), .int s2, .int s3, .ref s4], w)) rfl ?_
  obtain ⟨x11, ex11, h⟩ := Option.bind_eq_some_iff.mp h
  obtain ⟨hkx11, hcall⟩ := tb_on_some ex11
  refine tb_e_cv (v := none) rfl (Or.inl ⟨_, rfl⟩) rfl rfl (Nat.le_of_ble_eq_true rfl) rfl (Nat.le_of_ble_eq_true rfl) hkx11 ((dc_yr_setGain hcall).up (by decide)) ?_
  refine tb_Es (k := 6) (st' := (61, [(0, .ref v0), (1, .ref v1), (2, va_rf v2), (3, .int v3), (4, .int v4), (5, .int v5), (6, .int v6), (7, .int v7)], [.int 1, .int v6, .ref v0, .int 1, .int v6, .ref v0], x11)) rfl ?_
  obtain ⟨x12, ex12, h⟩ := Option.bind_eq_some_iff.mp h
  obtain ⟨hkx12, hcall⟩ := tb_on_some ex12
  refine tb_e_cv (v := some (.int x12.1)) rfl (Or.inl ⟨_, rfl⟩) rfl rfl (Nat.le_of_ble_eq_true rfl) rfl (Nat.le_of_ble_eq_true rfl) hkx12 ((dc_yr_gainOf hcall).up (by decide)) ?_
  refine tb_Es (k := 1) (st' := (63, [(0, .ref v0), (1, .ref v1), (2, va_rf v2), (3, .int v3), (4, .int v4), (5, .int v5), (6, .int v6), (7, .int v7)], [.ref v0, .int x12.1, .int 1, .int v6, .ref v0], x12.2)) rfl ?_
  obtain ⟨p13, ep13, h⟩ := Option.bind_eq_some_iff.mp h
  refine tb_e_gN rfl ep13 ?_
  refine tb_Es (k := 1) (st' := (65, [(0, .ref v0), (1, .ref v1), (2, va_rf v2), (3, .int v3), (4, .int v4), (5, .int v5), (6, .int v6), (7, .int v7)], [.int v4, .ref p13, .int x12.1, .int 1, .int v6, .ref v0], x12.2)) rfl ?_
  obtain ⟨x14, ex14, h⟩ := Option.bind_eq_some_iff.mp h
  obtain ⟨hkx14, hcall⟩ := tb_on_some ex14
  refine tb_e_cv (v := some (.int x14.1)) rfl (Or.inl ⟨_, rfl⟩) rfl rfl (Nat.le_of_ble_eq_true rfl) rfl (Nat.le_of_ble_eq_true rfl) hkx14 ((dc_s_stands hcall).up (by decide)) ?_
  refine tb_b_ieq rfl (fun hc => ?_) (fun hc => ?_)
  · rw [if_pos hc] at h
    refine tb_Es (k := 2) (st' := (71, [(0, .ref v0), (1, .ref v1), (2, va_rf v2), (3, .int v3), (4, .int v4), (5, .int v5), (6, .int v6), (7, .int v7)], [.int (x12.1 + 0), .int 1, .int v6, .ref v0], x14.2)) rfl ?_
    obtain ⟨x15, ex15, h⟩ := Option.bind_eq_some_iff.mp h
    obtain ⟨hkx15, hcall⟩ := tb_on_some ex15
    refine tb_e_cv (v := none) rfl (Or.inl ⟨_, rfl⟩) rfl rfl (Nat.le_of_ble_eq_true rfl) rfl (Nat.le_of_ble_eq_true rfl) hkx15 ((dc_yr_setGain hcall).up (by decide)) ?_
    refine tb_Es (k := 3) (st' := (27, [(0, .ref v0), (1, .ref v1), (2, va_rf v2), (3, .int v3), (4, .int v4), (5, .int v5), (6, .int v6), (7, .int (v7 + 1))], [], x15)) rfl ?_
    exact hk v0 v1 v2 v3 v4 v5 v6 (v7 + 1) x15 h
  · rw [if_neg hc] at h
    refine tb_Es (k := 3) (st' := (71, [(0, .ref v0), (1, .ref v1), (2, va_rf v2), (3, .int v3), (4, .int v4), (5, .int v5), (6, .int v6), (7, .int v7)], [.int (x12.1 + 1), .int 1, .int v6, .ref v0], x14.2)) rfl ?_
    obtain ⟨x16, ex16, h⟩ := Option.bind_eq_some_iff.mp h
    obtain ⟨hkx16, hcall⟩ := tb_on_some ex16
    refine tb_e_cv (v := none) rfl (Or.inl ⟨_, rfl⟩) rfl rfl (Nat.le_of_ble_eq_true rfl) rfl (Nat.le_of_ble_eq_true rfl) hkx16 ((dc_yr_setGain hcall).up (by decide)) ?_
    refine tb_Es (k := 3) (st' := (27, [(0, .ref v0), (1, .ref v1), (2, va_rf v2), (3, .int v3), (4, .int v4), (5, .int v5), (6, .int v6), (7, .int (v7 + 1))], [], x16)) rfl ?_
    exact hk v0 v1 v2 v3 v4 v5 v6 (v7 + 1) x16 h
def fl_yr_findRests_25 : Nat → Nat → Nat → (Option Nat) → Int32 → Int32 → Int32 → Int32 → Int32 → tb_Hp → Option (Nat × Nat × (Option Nat) × Int32 × Int32 × Int32 × Int32 × tb_Hp)
  | 0, _, _, _, _, _, _, _, _, _ => none
  | n + 1, v0, v1, v2, v3, v4, v5, v6, v7, w => (if v7 < v5 then (tb_gN 20 5 v0 w).bind fun p5 => (tb_gN 20 0 v0 w).bind fun p6 => (tb_on 11 p5 w (fb_jg_passYear p5 p6 v2 w)).bind fun x7 => (tb_on 20 v0 x7.2 (fb_yr_gainOf v0 v6 0 x7.2)).bind fun x8 => (tb_gN 20 0 v0 x8.2).bind fun p9 => (tb_on 17 p9 x8.2 (fb_s_stands p9 v3 x8.2)).bind fun x10 => (if x10.1 = 0 then fj_yr_findRests_j50 (fl_yr_findRests_25 n) v0 v1 v2 v3 v4 v5 v6 v7 0 x8.1 0 v6 v0 x10.2 else fj_yr_findRests_j50 (fl_yr_findRests_25 n) v0 v1 v2 v3 v4 v5 v6 v7 1 x8.1 0 v6 v0 x10.2) else some ((v0, v1, v2, v3, v4, v5, v6, w)))
set_option maxHeartbeats 4000000 in
set_option maxRecDepth 20000 in
theorem dl_yr_findRests_25 : ∀ (n : Nat) (v0 : Nat) (v1 : Nat) (v2 : Option Nat) (v3 : Int32) (v4 : Int32) (v5 : Int32) (v6 : Int32) (v7 : Int32) (w : tb_Hp) (o : Nat × Nat × (Option Nat) × Int32 × Int32 × Int32 × Int32 × tb_Hp), fl_yr_findRests_25 n v0 v1 v2 v3 v4 v5 v6 v7 w = some o → ∀ (r : Option Value × tb_Hp), tb_Ev tb_P 5 145 (75, [(0, .ref o.1), (1, .ref o.2.1), (2, va_rf o.2.2.1), (3, .int o.2.2.2.1), (4, .int o.2.2.2.2.1), (5, .int o.2.2.2.2.2.1), (6, .int o.2.2.2.2.2.2.1)], [], o.2.2.2.2.2.2.2) r → tb_Ev tb_P 5 145 (27, [(0, .ref v0), (1, .ref v1), (2, va_rf v2), (3, .int v3), (4, .int v4), (5, .int v5), (6, .int v6), (7, .int v7)], [], w) r := by
  intro n
  induction n with
  | zero =>
    intro v0 v1 v2 v3 v4 v5 v6 v7 w o h
    cases h
  | succ n ih =>
    intro v0 v1 v2 v3 v4 v5 v6 v7 w o h r hx
    unfold fl_yr_findRests_25 at h
    refine tb_Es (k := 2) (st' := (29, [(0, .ref v0), (1, .ref v1), (2, va_rf v2), (3, .int v3), (4, .int v4), (5, .int v5), (6, .int v6), (7, .int v7)], [.int v5, .int v7], w)) rfl ?_
    refine tb_b_cge rfl (fun hc => ?_) (fun hc => ?_)
    · rw [if_pos hc] at h
      refine tb_Es (k := 1) (st' := (31, [(0, .ref v0), (1, .ref v1), (2, va_rf v2), (3, .int v3), (4, .int v4), (5, .int v5), (6, .int v6), (7, .int v7)], [.ref v0], w)) rfl ?_
      obtain ⟨p5, ep5, h⟩ := Option.bind_eq_some_iff.mp h
      refine tb_e_gN rfl ep5 ?_
      refine tb_Es (k := 1) (st' := (33, [(0, .ref v0), (1, .ref v1), (2, va_rf v2), (3, .int v3), (4, .int v4), (5, .int v5), (6, .int v6), (7, .int v7)], [.ref v0, .ref p5], w)) rfl ?_
      obtain ⟨p6, ep6, h⟩ := Option.bind_eq_some_iff.mp h
      refine tb_e_gN rfl ep6 ?_
      refine tb_q_aload (k := 2) rfl (Or.inr ⟨_, rfl, rfl⟩) rfl ?_
      obtain ⟨x7, ex7, h⟩ := Option.bind_eq_some_iff.mp h
      obtain ⟨hkx7, hcall⟩ := tb_on_some ex7
      refine tb_e_cv (v := some (.int x7.1)) rfl (Or.inl ⟨_, rfl⟩) rfl rfl (Nat.le_of_ble_eq_true rfl) rfl (by simp [tb_catq, Value.category]; try decide) hkx7 ((dc_jg_passYear hcall).up (by decide)) ?_
      refine tb_Es (k := 7) (st' := (43, [(0, .ref v0), (1, .ref v1), (2, va_rf v2), (3, .int v3), (4, .int v4), (5, .int v5), (6, .int v6), (7, .int v7)], [.int 0, .int v6, .ref v0, .int 0, .int v6, .ref v0], x7.2)) rfl ?_
      obtain ⟨x8, ex8, h⟩ := Option.bind_eq_some_iff.mp h
      obtain ⟨hkx8, hcall⟩ := tb_on_some ex8
      refine tb_e_cv (v := some (.int x8.1)) rfl (Or.inl ⟨_, rfl⟩) rfl rfl (Nat.le_of_ble_eq_true rfl) rfl (Nat.le_of_ble_eq_true rfl) hkx8 ((dc_yr_gainOf hcall).up (by decide)) ?_
      refine tb_Es (k := 1) (st' := (45, [(0, .ref v0), (1, .ref v1), (2, va_rf v2), (3, .int v3), (4, .int v4), (5, .int v5), (6, .int v6), (7, .int v7)], [.ref v0, .int x8.1, .int 0, .int v6, .ref v0], x8.2)) rfl ?_
      obtain ⟨p9, ep9, h⟩ := Option.bind_eq_some_iff.mp h
      refine tb_e_gN rfl ep9 ?_
      refine tb_Es (k := 1) (st' := (47, [(0, .ref v0), (1, .ref v1), (2, va_rf v2), (3, .int v3), (4, .int v4), (5, .int v5), (6, .int v6), (7, .int v7)], [.int v3, .ref p9, .int x8.1, .int 0, .int v6, .ref v0], x8.2)) rfl ?_
      obtain ⟨x10, ex10, h⟩ := Option.bind_eq_some_iff.mp h
      obtain ⟨hkx10, hcall⟩ := tb_on_some ex10
      refine tb_e_cv (v := some (.int x10.1)) rfl (Or.inl ⟨_, rfl⟩) rfl rfl (Nat.le_of_ble_eq_true rfl) rfl (Nat.le_of_ble_eq_true rfl) hkx10 ((dc_s_stands hcall).up (by decide)) ?_
      refine tb_b_ieq rfl (fun hc => ?_) (fun hc => ?_)
      · rw [if_pos hc] at h
        refine tb_Es (k := 2) (st' := (53, [(0, .ref v0), (1, .ref v1), (2, va_rf v2), (3, .int v3), (4, .int v4), (5, .int v5), (6, .int v6), (7, .int v7)], [.int 0, .int x8.1, .int 0, .int v6, .ref v0], x10.2)) rfl ?_
        exact dj_yr_findRests_j50 (fl_yr_findRests_25 n) v0 v1 v2 v3 v4 v5 v6 v7 0 x8.1 0 v6 v0 x10.2 _ h r hx (fun v0_ v1_ v2_ v3_ v4_ v5_ v6_ v7_ w_ h_ => ih v0_ v1_ v2_ v3_ v4_ v5_ v6_ v7_ w_ _ h_ r hx)
      · rw [if_neg hc] at h
        refine tb_Es (k := 3) (st' := (53, [(0, .ref v0), (1, .ref v1), (2, va_rf v2), (3, .int v3), (4, .int v4), (5, .int v5), (6, .int v6), (7, .int v7)], [.int 1, .int x8.1, .int 0, .int v6, .ref v0], x10.2)) rfl ?_
        exact dj_yr_findRests_j50 (fl_yr_findRests_25 n) v0 v1 v2 v3 v4 v5 v6 v7 1 x8.1 0 v6 v0 x10.2 _ h r hx (fun v0_ v1_ v2_ v3_ v4_ v5_ v6_ v7_ w_ h_ => ih v0_ v1_ v2_ v3_ v4_ v5_ v6_ v7_ w_ _ h_ r hx)
    · rw [if_neg hc] at h
      refine tb_Es (k := 1) (st' := (75, [(0, .ref v0), (1, .ref v1), (2, va_rf v2), (3, .int v3), (4, .int v4), (5, .int v5), (6, .int v6)], [], w)) rfl ?_
      cases h
      exact hx
def fl_yr_findRests_2 : Nat → Nat → Nat → (Option Nat) → Int32 → Int32 → Int32 → Int32 → tb_Hp → Option (Nat × tb_Hp)
  | 0, _, _, _, _, _, _, _, _ => none
  | n + 1, v0, v1, v2, v3, v4, v5, v6, w => (if v6 < 4 then (tb_on 20 v0 w (fb_yr_begin v0 v1 w)).bind fun x1 => (tb_on 20 v0 x1 (fb_yr_letGo v0 v6 v3 v4 x1)).bind fun x2 => (tb_on 20 v0 x2 (fb_yr_setGain v0 v6 0 0 x2)).bind fun x3 => (tb_on 20 v0 x3 (fb_yr_setGain v0 v6 1 0 x3)).bind fun x4 => (fl_yr_findRests_25 1048576 v0 v1 v2 v3 v4 v5 v6 0 x4).bind fun o17 => (tb_on 20 o17.1 o17.2.2.2.2.2.2.2 (fb_yr_gainOf o17.1 o17.2.2.2.2.2.2.1 0 o17.2.2.2.2.2.2.2)).bind fun x18 => (tb_gN 20 0 o17.1 x18.2).bind fun p19 => (tb_on 17 p19 x18.2 (fb_s_linesAt p19 o17.2.2.2.1 x18.2)).bind fun x20 => (fb_in_bitCount x20.1 x20.2).bind fun x21 => (tb_on 20 o17.1 x21.2 (fb_yr_setGain o17.1 o17.2.2.2.2.2.2.1 0 (x18.1 + x21.1) x21.2)).bind fun x22 => (tb_on 20 o17.1 x22 (fb_yr_gainOf o17.1 o17.2.2.2.2.2.2.1 1 x22)).bind fun x23 => (tb_gN 20 0 o17.1 x23.2).bind fun p24 => (tb_on 17 p24 x23.2 (fb_s_linesAt p24 o17.2.2.2.2.1 x23.2)).bind fun x25 => (fb_in_bitCount x25.1 x25.2).bind fun x26 => (tb_on 20 o17.1 x26.2 (fb_yr_setGain o17.1 o17.2.2.2.2.2.2.1 1 (x23.1 + x26.1) x26.2)).bind fun x27 => fl_yr_findRests_2 n o17.1 o17.2.1 o17.2.2.1 o17.2.2.2.1 o17.2.2.2.2.1 o17.2.2.2.2.2.1 (o17.2.2.2.2.2.2.1 + 1) x27 else some ((v0, w)))
set_option maxHeartbeats 4000000 in
set_option maxRecDepth 20000 in
theorem dl_yr_findRests_2 : ∀ (n : Nat) (v0 : Nat) (v1 : Nat) (v2 : Option Nat) (v3 : Int32) (v4 : Int32) (v5 : Int32) (v6 : Int32) (w : tb_Hp) (o : Nat × tb_Hp), fl_yr_findRests_2 n v0 v1 v2 v3 v4 v5 v6 w = some o → ∀ (r : Option Value × tb_Hp), tb_Ev tb_P 5 145 (106, [(0, .ref o.1)], [], o.2) r → tb_Ev tb_P 5 145 (3, [(0, .ref v0), (1, .ref v1), (2, va_rf v2), (3, .int v3), (4, .int v4), (5, .int v5), (6, .int v6)], [], w) r := by
  intro n
  induction n with
  | zero =>
    intro v0 v1 v2 v3 v4 v5 v6 w o h
    cases h
  | succ n ih =>
    intro v0 v1 v2 v3 v4 v5 v6 w o h r hx
    unfold fl_yr_findRests_2 at h
    refine tb_Es (k := 2) (st' := (5, [(0, .ref v0), (1, .ref v1), (2, va_rf v2), (3, .int v3), (4, .int v4), (5, .int v5), (6, .int v6)], [.int 4, .int v6], w)) rfl ?_
    refine tb_b_cge rfl (fun hc => ?_) (fun hc => ?_)
    · rw [if_pos hc] at h
      refine tb_Es (k := 2) (st' := (8, [(0, .ref v0), (1, .ref v1), (2, va_rf v2), (3, .int v3), (4, .int v4), (5, .int v5), (6, .int v6)], [.ref v1, .ref v0], w)) rfl ?_
      obtain ⟨x1, ex1, h⟩ := Option.bind_eq_some_iff.mp h
      obtain ⟨hkx1, hcall⟩ := tb_on_some ex1
      refine tb_e_cv (v := none) rfl (Or.inl ⟨_, rfl⟩) rfl rfl (Nat.le_of_ble_eq_true rfl) rfl (Nat.le_of_ble_eq_true rfl) hkx1 ((dc_yr_begin hcall).up (by decide)) ?_
      refine tb_Es (k := 4) (st' := (13, [(0, .ref v0), (1, .ref v1), (2, va_rf v2), (3, .int v3), (4, .int v4), (5, .int v5), (6, .int v6)], [.int v4, .int v3, .int v6, .ref v0], x1)) rfl ?_
      obtain ⟨x2, ex2, h⟩ := Option.bind_eq_some_iff.mp h
      obtain ⟨hkx2, hcall⟩ := tb_on_some ex2
      refine tb_e_cv (v := none) rfl (Or.inl ⟨_, rfl⟩) rfl rfl (Nat.le_of_ble_eq_true rfl) rfl (Nat.le_of_ble_eq_true rfl) hkx2 ((dc_yr_letGo hcall).up (by decide)) ?_
      refine tb_Es (k := 4) (st' := (18, [(0, .ref v0), (1, .ref v1), (2, va_rf v2), (3, .int v3), (4, .int v4), (5, .int v5), (6, .int v6)], [.int 0, .int 0, .int v6, .ref v0], x2)) rfl ?_
      obtain ⟨x3, ex3, h⟩ := Option.bind_eq_some_iff.mp h
      obtain ⟨hkx3, hcall⟩ := tb_on_some ex3
      refine tb_e_cv (v := none) rfl (Or.inl ⟨_, rfl⟩) rfl rfl (Nat.le_of_ble_eq_true rfl) rfl (Nat.le_of_ble_eq_true rfl) hkx3 ((dc_yr_setGain hcall).up (by decide)) ?_
      refine tb_Es (k := 4) (st' := (23, [(0, .ref v0), (1, .ref v1), (2, va_rf v2), (3, .int v3), (4, .int v4), (5, .int v5), (6, .int v6)], [.int 0, .int 1, .int v6, .ref v0], x3)) rfl ?_
      obtain ⟨x4, ex4, h⟩ := Option.bind_eq_some_iff.mp h
      obtain ⟨hkx4, hcall⟩ := tb_on_some ex4
      refine tb_e_cv (v := none) rfl (Or.inl ⟨_, rfl⟩) rfl rfl (Nat.le_of_ble_eq_true rfl) rfl (Nat.le_of_ble_eq_true rfl) hkx4 ((dc_yr_setGain hcall).up (by decide)) ?_
      refine tb_Es (k := 3) (st' := (27, [(0, .ref v0), (1, .ref v1), (2, va_rf v2), (3, .int v3), (4, .int v4), (5, .int v5), (6, .int v6), (7, .int 0)], [], x4)) rfl ?_
      obtain ⟨o17, eo17, h⟩ := Option.bind_eq_some_iff.mp h
      refine dl_yr_findRests_25 _ v0 v1 v2 v3 v4 v5 v6 0 x4 _ eo17 r ?_
      refine tb_Es (k := 6) (st' := (81, [(0, .ref o17.1), (1, .ref o17.2.1), (2, va_rf o17.2.2.1), (3, .int o17.2.2.2.1), (4, .int o17.2.2.2.2.1), (5, .int o17.2.2.2.2.2.1), (6, .int o17.2.2.2.2.2.2.1)], [.int 0, .int o17.2.2.2.2.2.2.1, .ref o17.1, .int 0, .int o17.2.2.2.2.2.2.1, .ref o17.1], o17.2.2.2.2.2.2.2)) rfl ?_
      obtain ⟨x18, ex18, h⟩ := Option.bind_eq_some_iff.mp h
      obtain ⟨hkx18, hcall⟩ := tb_on_some ex18
      refine tb_e_cv (v := some (.int x18.1)) rfl (Or.inl ⟨_, rfl⟩) rfl rfl (Nat.le_of_ble_eq_true rfl) rfl (Nat.le_of_ble_eq_true rfl) hkx18 ((dc_yr_gainOf hcall).up (by decide)) ?_
      refine tb_Es (k := 1) (st' := (83, [(0, .ref o17.1), (1, .ref o17.2.1), (2, va_rf o17.2.2.1), (3, .int o17.2.2.2.1), (4, .int o17.2.2.2.2.1), (5, .int o17.2.2.2.2.2.1), (6, .int o17.2.2.2.2.2.2.1)], [.ref o17.1, .int x18.1, .int 0, .int o17.2.2.2.2.2.2.1, .ref o17.1], x18.2)) rfl ?_
      obtain ⟨p19, ep19, h⟩ := Option.bind_eq_some_iff.mp h
      refine tb_e_gN rfl ep19 ?_
      refine tb_Es (k := 1) (st' := (85, [(0, .ref o17.1), (1, .ref o17.2.1), (2, va_rf o17.2.2.1), (3, .int o17.2.2.2.1), (4, .int o17.2.2.2.2.1), (5, .int o17.2.2.2.2.2.1), (6, .int o17.2.2.2.2.2.2.1)], [.int o17.2.2.2.1, .ref p19, .int x18.1, .int 0, .int o17.2.2.2.2.2.2.1, .ref o17.1], x18.2)) rfl ?_
      obtain ⟨x20, ex20, h⟩ := Option.bind_eq_some_iff.mp h
      obtain ⟨hkx20, hcall⟩ := tb_on_some ex20
      refine tb_e_cv (v := some (.int x20.1)) rfl (Or.inl ⟨_, rfl⟩) rfl rfl (Nat.le_of_ble_eq_true rfl) rfl (Nat.le_of_ble_eq_true rfl) hkx20 ((dc_s_linesAt hcall).up (by decide)) ?_
      obtain ⟨x21, ex21, h⟩ := Option.bind_eq_some_iff.mp h
      have hcall := ex21
      refine tb_e_cs (v := some (.int x21.1)) rfl rfl rfl (Nat.le_of_ble_eq_true rfl) rfl (Nat.le_of_ble_eq_true rfl) ((dc_in_bitCount hcall).up (by decide)) ?_
      refine tb_Es (k := 1) (st' := (88, [(0, .ref o17.1), (1, .ref o17.2.1), (2, va_rf o17.2.2.1), (3, .int o17.2.2.2.1), (4, .int o17.2.2.2.2.1), (5, .int o17.2.2.2.2.2.1), (6, .int o17.2.2.2.2.2.2.1)], [.int (x18.1 + x21.1), .int 0, .int o17.2.2.2.2.2.2.1, .ref o17.1], x21.2)) rfl ?_
      obtain ⟨x22, ex22, h⟩ := Option.bind_eq_some_iff.mp h
      obtain ⟨hkx22, hcall⟩ := tb_on_some ex22
      refine tb_e_cv (v := none) rfl (Or.inl ⟨_, rfl⟩) rfl rfl (Nat.le_of_ble_eq_true rfl) rfl (Nat.le_of_ble_eq_true rfl) hkx22 ((dc_yr_setGain hcall).up (by decide)) ?_
      refine tb_Es (k := 6) (st' := (95, [(0, .ref o17.1), (1, .ref o17.2.1), (2, va_rf o17.2.2.1), (3, .int o17.2.2.2.1), (4, .int o17.2.2.2.2.1), (5, .int o17.2.2.2.2.2.1), (6, .int o17.2.2.2.2.2.2.1)], [.int 1, .int o17.2.2.2.2.2.2.1, .ref o17.1, .int 1, .int o17.2.2.2.2.2.2.1, .ref o17.1], x22)) rfl ?_
      obtain ⟨x23, ex23, h⟩ := Option.bind_eq_some_iff.mp h
      obtain ⟨hkx23, hcall⟩ := tb_on_some ex23
      refine tb_e_cv (v := some (.int x23.1)) rfl (Or.inl ⟨_, rfl⟩) rfl rfl (Nat.le_of_ble_eq_true rfl) rfl (Nat.le_of_ble_eq_true rfl) hkx23 ((dc_yr_gainOf hcall).up (by decide)) ?_
      refine tb_Es (k := 1) (st' := (97, [(0, .ref o17.1), (1, .ref o17.2.1), (2, va_rf o17.2.2.1), (3, .int o17.2.2.2.1), (4, .int o17.2.2.2.2.1), (5, .int o17.2.2.2.2.2.1), (6, .int o17.2.2.2.2.2.2.1)], [.ref o17.1, .int x23.1, .int 1, .int o17.2.2.2.2.2.2.1, .ref o17.1], x23.2)) rfl ?_
      obtain ⟨p24, ep24, h⟩ := Option.bind_eq_some_iff.mp h
      refine tb_e_gN rfl ep24 ?_
      refine tb_Es (k := 1) (st' := (99, [(0, .ref o17.1), (1, .ref o17.2.1), (2, va_rf o17.2.2.1), (3, .int o17.2.2.2.1), (4, .int o17.2.2.2.2.1), (5, .int o17.2.2.2.2.2.1), (6, .int o17.2.2.2.2.2.2.1)], [.int o17.2.2.2.2.1, .ref p24, .int x23.1, .int 1, .int o17.2.2.2.2.2.2.1, .ref o17.1], x23.2)) rfl ?_
      obtain ⟨x25, ex25, h⟩ := Option.bind_eq_some_iff.mp h
      obtain ⟨hkx25, hcall⟩ := tb_on_some ex25
      refine tb_e_cv (v := some (.int x25.1)) rfl (Or.inl ⟨_, rfl⟩) rfl rfl (Nat.le_of_ble_eq_true rfl) rfl (Nat.le_of_ble_eq_true rfl) hkx25 ((dc_s_linesAt hcall).up (by decide)) ?_
      obtain ⟨x26, ex26, h⟩ := Option.bind_eq_some_iff.mp h
      have hcall := ex26
      refine tb_e_cs (v := some (.int x26.1)) rfl rfl rfl (Nat.le_of_ble_eq_true rfl) rfl (Nat.le_of_ble_eq_true rfl) ((dc_in_bitCount hcall).up (by decide)) ?_
      refine tb_Es (k := 1) (st' := (102, [(0, .ref o17.1), (1, .ref o17.2.1), (2, va_rf o17.2.2.1), (3, .int o17.2.2.2.1), (4, .int o17.2.2.2.2.1), (5, .int o17.2.2.2.2.2.1), (6, .int o17.2.2.2.2.2.2.1)], [.int (x23.1 + x26.1), .int 1, .int o17.2.2.2.2.2.2.1, .ref o17.1], x26.2)) rfl ?_
      obtain ⟨x27, ex27, h⟩ := Option.bind_eq_some_iff.mp h
      obtain ⟨hkx27, hcall⟩ := tb_on_some ex27
      refine tb_e_cv (v := none) rfl (Or.inl ⟨_, rfl⟩) rfl rfl (Nat.le_of_ble_eq_true rfl) rfl (Nat.le_of_ble_eq_true rfl) hkx27 ((dc_yr_setGain hcall).up (by decide)) ?_
      refine tb_Es (k := 3) (st' := (3, [(0, .ref o17.1), (1, .ref o17.2.1), (2, va_rf o17.2.2.1), (3, .int o17.2.2.2.1), (4, .int o17.2.2.2.2.1), (5, .int o17.2.2.2.2.2.1), (6, .int (o17.2.2.2.2.2.2.1 + 1))], [], x27)) rfl ?_
      exact ih o17.1 o17.2.1 o17.2.2.1 o17.2.2.2.1 o17.2.2.2.2.1 o17.2.2.2.2.2.1 (o17.2.2.2.2.2.2.1 + 1) x27 _ h r hx
    · rw [if_neg hc] at h
      refine tb_Es (k := 1) (st' := (106, [(0, .ref v0)], [], w)) rfl ?_
      cases h
      exact hx
def fj_yr_findRests_j150 (k : Nat → Int32 → tb_Hp → Option (tb_Hp)) (v0 : Nat) (v6 : Int32) (w : tb_Hp) : Option (tb_Hp) := (tb_gI 20 2 v0 w).bind fun x39 => (tb_pI 20 2 v0 (x39 + 1) w).bind fun w40 => k v0 (v6 + 1) w40
set_option maxHeartbeats 4000000 in
set_option maxRecDepth 20000 in
theorem dj_yr_findRests_j150 (k : Nat → Int32 → tb_Hp → Option (tb_Hp)) (v0 : Nat) (v6 : Int32) (w : tb_Hp) (o : tb_Hp) (h : fj_yr_findRests_j150 k v0 v6 w = some o) (r : Option Value × tb_Hp) (hx : tb_Ev tb_P 5 145 (166, [], [], o) r) (hk : ∀ (v0 : Nat) (v6 : Int32) (w : tb_Hp), k v0 v6 w = some o → tb_Ev tb_P 5 145 (118, [(0, .ref v0), (6, .int v6)], [], w) r) : tb_Ev tb_P 5 145 (157, [(0, .ref v0), (6, .int v6)], [], w) r := by
  unfold fj_yr_findRests_j150 at h
  refine tb_Es (k := 2) (st' := (159, [(0, .ref v0), (6, .int v6)], [.ref v0, .ref v0], w)) rfl ?_
  obtain ⟨x39, ex39, h⟩ := Option.bind_eq_some_iff.mp h
  refine tb_e_gI rfl ex39 ?_
  refine tb_Es (k := 2) (st' := (162, [(0, .ref v0), (6, .int v6)], [.int (x39 + 1), .ref v0], w)) rfl ?_
  obtain ⟨w40, ew40, h⟩ := Option.bind_eq_some_iff.mp h
  refine tb_e_pI rfl ew40 ?_
  refine tb_Es (k := 3) (st' := (118, [(0, .ref v0), (6, .int (v6 + 1))], [], w40)) rfl ?_
  exact hk v0 (v6 + 1) w40 h
def fl_yr_findRests_112 : Nat → Nat → Int32 → tb_Hp → Option (tb_Hp)
  | 0, _, _, _ => none
  | n + 1, v0, v6, w => (if v6 < 4 then (tb_on 20 v0 w (fb_yr_gainOf v0 (v6 ^^^ 2) 0 w)).bind fun x32 => (tb_on 20 v0 x32.2 (fb_yr_gainOf v0 v6 0 x32.2)).bind fun x33 => (if x32.1 ≤ x33.1 then (tb_on 20 v0 x33.2 (fb_yr_gainOf v0 (v6 ^^^ 1) 1 x33.2)).bind fun x34 => (tb_on 20 v0 x34.2 (fb_yr_gainOf v0 v6 1 x34.2)).bind fun x35 => (if x34.1 ≤ x35.1 then (tb_gI 20 2 v0 x35.2).bind fun x36 => (if x36 = 0 then (tb_pI 20 3 v0 (v6 >>> (1 &&& 31)) x35.2).bind fun w37 => (tb_pI 20 4 v0 (v6 &&& 1) w37).bind fun w38 => fj_yr_findRests_j150 (fl_yr_findRests_112 n) v0 v6 w38 else fj_yr_findRests_j150 (fl_yr_findRests_112 n) v0 v6 x35.2) else fl_yr_findRests_112 n v0 (v6 + 1) x35.2) else fl_yr_findRests_112 n v0 (v6 + 1) x33.2) else some (w))
set_option maxHeartbeats 4000000 in
set_option maxRecDepth 20000 in
theorem dl_yr_findRests_112 : ∀ (n : Nat) (v0 : Nat) (v6 : Int32) (w : tb_Hp) (o : tb_Hp), fl_yr_findRests_112 n v0 v6 w = some o → ∀ (r : Option Value × tb_Hp), tb_Ev tb_P 5 145 (166, [], [], o) r → tb_Ev tb_P 5 145 (118, [(0, .ref v0), (6, .int v6)], [], w) r := by
  intro n
  induction n with
  | zero =>
    intro v0 v6 w o h
    cases h
  | succ n ih =>
    intro v0 v6 w o h r hx
    unfold fl_yr_findRests_112 at h
    refine tb_Es (k := 2) (st' := (120, [(0, .ref v0), (6, .int v6)], [.int 4, .int v6], w)) rfl ?_
    refine tb_b_cge rfl (fun hc => ?_) (fun hc => ?_)
    · rw [if_pos hc] at h
      refine tb_Es (k := 5) (st' := (126, [(0, .ref v0), (6, .int v6)], [.int 0, .int (v6 ^^^ 2), .ref v0], w)) rfl ?_
      obtain ⟨x32, ex32, h⟩ := Option.bind_eq_some_iff.mp h
      obtain ⟨hkx32, hcall⟩ := tb_on_some ex32
      refine tb_e_cv (v := some (.int x32.1)) rfl (Or.inl ⟨_, rfl⟩) rfl rfl (Nat.le_of_ble_eq_true rfl) rfl (Nat.le_of_ble_eq_true rfl) hkx32 ((dc_yr_gainOf hcall).up (by decide)) ?_
      refine tb_Es (k := 3) (st' := (130, [(0, .ref v0), (6, .int v6)], [.int 0, .int v6, .ref v0, .int x32.1], x32.2)) rfl ?_
      obtain ⟨x33, ex33, h⟩ := Option.bind_eq_some_iff.mp h
      obtain ⟨hkx33, hcall⟩ := tb_on_some ex33
      refine tb_e_cv (v := some (.int x33.1)) rfl (Or.inl ⟨_, rfl⟩) rfl rfl (Nat.le_of_ble_eq_true rfl) rfl (Nat.le_of_ble_eq_true rfl) hkx33 ((dc_yr_gainOf hcall).up (by decide)) ?_
      refine tb_b_cgt rfl (fun hc => ?_) (fun hc => ?_)
      · rw [if_pos hc] at h
        refine tb_Es (k := 5) (st' := (137, [(0, .ref v0), (6, .int v6)], [.int 1, .int (v6 ^^^ 1), .ref v0], x33.2)) rfl ?_
        obtain ⟨x34, ex34, h⟩ := Option.bind_eq_some_iff.mp h
        obtain ⟨hkx34, hcall⟩ := tb_on_some ex34
        refine tb_e_cv (v := some (.int x34.1)) rfl (Or.inl ⟨_, rfl⟩) rfl rfl (Nat.le_of_ble_eq_true rfl) rfl (Nat.le_of_ble_eq_true rfl) hkx34 ((dc_yr_gainOf hcall).up (by decide)) ?_
        refine tb_Es (k := 3) (st' := (141, [(0, .ref v0), (6, .int v6)], [.int 1, .int v6, .ref v0, .int x34.1], x34.2)) rfl ?_
        obtain ⟨x35, ex35, h⟩ := Option.bind_eq_some_iff.mp h
        obtain ⟨hkx35, hcall⟩ := tb_on_some ex35
        refine tb_e_cv (v := some (.int x35.1)) rfl (Or.inl ⟨_, rfl⟩) rfl rfl (Nat.le_of_ble_eq_true rfl) rfl (Nat.le_of_ble_eq_true rfl) hkx35 ((dc_yr_gainOf hcall).up (by decide)) ?_
        refine tb_b_cgt rfl (fun hc => ?_) (fun hc => ?_)
        · rw [if_pos hc] at h
          refine tb_Es (k := 1) (st' := (144, [(0, .ref v0), (6, .int v6)], [.ref v0], x35.2)) rfl ?_
          obtain ⟨x36, ex36, h⟩ := Option.bind_eq_some_iff.mp h
          refine tb_e_gI rfl ex36 ?_
          refine tb_b_ine rfl (fun hc => ?_) (fun hc => ?_)
          · rw [if_pos hc] at h
            refine tb_Es (k := 4) (st' := (150, [(0, .ref v0), (6, .int v6)], [.int (v6 >>> (1 &&& 31)), .ref v0], x35.2)) rfl ?_
            obtain ⟨w37, ew37, h⟩ := Option.bind_eq_some_iff.mp h
            refine tb_e_pI rfl ew37 ?_
            refine tb_Es (k := 4) (st' := (155, [(0, .ref v0), (6, .int v6)], [.int (v6 &&& 1), .ref v0], w37)) rfl ?_
            obtain ⟨w38, ew38, h⟩ := Option.bind_eq_some_iff.mp h
            refine tb_e_pI rfl ew38 ?_
            refine tb_Es (k := 1) (st' := (157, [(0, .ref v0), (6, .int v6)], [], w38)) rfl ?_
            exact dj_yr_findRests_j150 (fl_yr_findRests_112 n) v0 v6 w38 _ h r hx (fun v0_ v6_ w_ h_ => ih v0_ v6_ w_ _ h_ r hx)
          · rw [if_neg hc] at h
            refine tb_Es (k := 1) (st' := (157, [(0, .ref v0), (6, .int v6)], [], x35.2)) rfl ?_
            exact dj_yr_findRests_j150 (fl_yr_findRests_112 n) v0 v6 x35.2 _ h r hx (fun v0_ v6_ w_ h_ => ih v0_ v6_ w_ _ h_ r hx)
        · rw [if_neg hc] at h
          refine tb_Es (k := 3) (st' := (118, [(0, .ref v0), (6, .int (v6 + 1))], [], x35.2)) rfl ?_
          exact ih v0 (v6 + 1) x35.2 _ h r hx
      · rw [if_neg hc] at h
        refine tb_Es (k := 3) (st' := (118, [(0, .ref v0), (6, .int (v6 + 1))], [], x33.2)) rfl ?_
        exact ih v0 (v6 + 1) x33.2 _ h r hx
    · rw [if_neg hc] at h
      refine tb_Es (k := 1) (st' := (166, [], [], w)) rfl ?_
      cases h
      exact hx
def fb_yr_findRests (a0 : Nat) (a1 : Nat) (a2 : Option Nat) (a3 : Int32) (a4 : Int32) (a5 : Int32) (w : tb_Hp) : Option (tb_Hp) := (fl_yr_findRests_2 1048576 a0 a1 a2 a3 a4 a5 0 w).bind fun o28 => (tb_pI 20 2 o28.1 0 o28.2).bind fun w29 => (tb_pI 20 3 o28.1 (-2) w29).bind fun w30 => (tb_pI 20 4 o28.1 (-2) w30).bind fun w31 => (fl_yr_findRests_112 1048576 o28.1 0 w31).bind fun o41 => some o41
set_option maxHeartbeats 4000000 in
set_option maxRecDepth 20000 in
theorem dc_yr_findRests {a0 : Nat} {a1 : Nat} {a2 : Option Nat} {a3 : Int32} {a4 : Int32} {a5 : Int32} {w : tb_Hp} {o : tb_Hp} (h : fb_yr_findRests a0 a1 a2 a3 a4 a5 w = some o) : tb_Ev tb_P 5 145 (0, tb_ent [.ref a0, .ref a1, va_rf a2, .int a3, .int a4, .int a5], [], w) (none, o) := by
  unfold fb_yr_findRests at h
  obtain ⟨r, hr⟩ : ∃ r : Option Value × tb_Hp, r = (none, o) := ⟨_, rfl⟩
  rw [← hr]
  show tb_Ev tb_P 5 145 (0, [(0, .ref a0), (1, .ref a1), (2, va_rf a2), (3, .int a3), (4, .int a4), (5, .int a5)], [], w) r
  refine tb_Es (k := 3) (st' := (3, [(0, .ref a0), (1, .ref a1), (2, va_rf a2), (3, .int a3), (4, .int a4), (5, .int a5), (6, .int 0)], [], w)) rfl ?_
  obtain ⟨o28, eo28, h⟩ := Option.bind_eq_some_iff.mp h
  refine dl_yr_findRests_2 _ a0 a1 a2 a3 a4 a5 0 w _ eo28 r ?_
  refine tb_Es (k := 2) (st' := (108, [(0, .ref o28.1)], [.int 0, .ref o28.1], o28.2)) rfl ?_
  obtain ⟨w29, ew29, h⟩ := Option.bind_eq_some_iff.mp h
  refine tb_e_pI rfl ew29 ?_
  refine tb_Es (k := 2) (st' := (111, [(0, .ref o28.1)], [.int (-2), .ref o28.1], w29)) rfl ?_
  obtain ⟨w30, ew30, h⟩ := Option.bind_eq_some_iff.mp h
  refine tb_e_pI rfl ew30 ?_
  refine tb_Es (k := 2) (st' := (114, [(0, .ref o28.1)], [.int (-2), .ref o28.1], w30)) rfl ?_
  obtain ⟨w31, ew31, h⟩ := Option.bind_eq_some_iff.mp h
  refine tb_e_pI rfl ew31 ?_
  refine tb_Es (k := 3) (st' := (118, [(0, .ref o28.1), (6, .int 0)], [], w31)) rfl ?_
  obtain ⟨o41, eo41, h⟩ := Option.bind_eq_some_iff.mp h
  refine dl_yr_findRests_112 _ o28.1 0 w31 _ eo41 r ?_
  cases h
  subst hr
  exact tb_Er rfl rfl
/-! TannerBunting$Years.snow(LTannerBunting$Scene;[IIII)V -/
def fl_yr_snow_21 : Nat → Nat → Nat → (Option Nat) → Int32 → Int32 → Int32 → Int32 → Int32 → tb_Hp → Option (Nat × Nat × (Option Nat) × Int32 × Int32 × Int32 × Int32 × tb_Hp)
  | 0, _, _, _, _, _, _, _, _, _ => none
  | n + 1, v0, v1, v2, v3, v4, v5, v6, v7, w => (if v7 < v4 then (tb_on 20 v0 w (fb_yr_snowOnce v0 v5 w)).bind fun x7 => (tb_gN 20 5 v0 x7).bind fun p8 => (tb_gN 20 0 v0 x7).bind fun p9 => (tb_on 11 p8 x7 (fb_jg_passYear p8 p9 v2 x7)).bind fun x10 => fl_yr_snow_21 n v0 v1 v2 v3 v4 v5 v6 (v7 + 1) x10.2 else some ((v0, v1, v2, v3, v4, v5, v6, w)))
set_option maxHeartbeats 4000000 in
set_option maxRecDepth 20000 in
theorem dl_yr_snow_21 : ∀ (n : Nat) (v0 : Nat) (v1 : Nat) (v2 : Option Nat) (v3 : Int32) (v4 : Int32) (v5 : Int32) (v6 : Int32) (v7 : Int32) (w : tb_Hp) (o : Nat × Nat × (Option Nat) × Int32 × Int32 × Int32 × Int32 × tb_Hp), fl_yr_snow_21 n v0 v1 v2 v3 v4 v5 v6 v7 w = some o → ∀ (r : Option Value × tb_Hp), tb_Ev tb_P 5 162 (39, [(0, .ref o.1), (1, .ref o.2.1), (2, va_rf o.2.2.1), (3, .int o.2.2.2.1), (4, .int o.2.2.2.2.1), (5, .int o.2.2.2.2.2.1), (6, .int o.2.2.2.2.2.2.1)], [], o.2.2.2.2.2.2.2) r → tb_Ev tb_P 5 162 (23, [(0, .ref v0), (1, .ref v1), (2, va_rf v2), (3, .int v3), (4, .int v4), (5, .int v5), (6, .int v6), (7, .int v7)], [], w) r := by
  intro n
  induction n with
  | zero =>
    intro v0 v1 v2 v3 v4 v5 v6 v7 w o h
    cases h
  | succ n ih =>
    intro v0 v1 v2 v3 v4 v5 v6 v7 w o h r hx
    unfold fl_yr_snow_21 at h
    refine tb_Es (k := 2) (st' := (25, [(0, .ref v0), (1, .ref v1), (2, va_rf v2), (3, .int v3), (4, .int v4), (5, .int v5), (6, .int v6), (7, .int v7)], [.int v4, .int v7], w)) rfl ?_
    refine tb_b_cge rfl (fun hc => ?_) (fun hc => ?_)
    · rw [if_pos hc] at h
      refine tb_Es (k := 2) (st' := (28, [(0, .ref v0), (1, .ref v1), (2, va_rf v2), (3, .int v3), (4, .int v4), (5, .int v5), (6, .int v6), (7, .int v7)], [.int v5, .ref v0], w)) rfl ?_
      obtain ⟨x7, ex7, h⟩ := Option.bind_eq_some_iff.mp h
      obtain ⟨hkx7, hcall⟩ := tb_on_some ex7
      refine tb_e_cv (v := none) rfl (Or.inl ⟨_, rfl⟩) rfl rfl (Nat.le_of_ble_eq_true rfl) rfl (Nat.le_of_ble_eq_true rfl) hkx7 ((dc_yr_snowOnce hcall).up (by decide)) ?_
      refine tb_Es (k := 1) (st' := (30, [(0, .ref v0), (1, .ref v1), (2, va_rf v2), (3, .int v3), (4, .int v4), (5, .int v5), (6, .int v6), (7, .int v7)], [.ref v0], x7)) rfl ?_
      obtain ⟨p8, ep8, h⟩ := Option.bind_eq_some_iff.mp h
      refine tb_e_gN rfl ep8 ?_
      refine tb_Es (k := 1) (st' := (32, [(0, .ref v0), (1, .ref v1), (2, va_rf v2), (3, .int v3), (4, .int v4), (5, .int v5), (6, .int v6), (7, .int v7)], [.ref v0, .ref p8], x7)) rfl ?_
      obtain ⟨p9, ep9, h⟩ := Option.bind_eq_some_iff.mp h
      refine tb_e_gN rfl ep9 ?_
      refine tb_q_aload (k := 2) rfl (Or.inr ⟨_, rfl, rfl⟩) rfl ?_
      obtain ⟨x10, ex10, h⟩ := Option.bind_eq_some_iff.mp h
      obtain ⟨hkx10, hcall⟩ := tb_on_some ex10
      refine tb_e_cv (v := some (.int x10.1)) rfl (Or.inl ⟨_, rfl⟩) rfl rfl (Nat.le_of_ble_eq_true rfl) rfl (by simp [tb_catq, Value.category]; try decide) hkx10 ((dc_jg_passYear hcall).up (by decide)) ?_
      refine tb_Es (k := 4) (st' := (23, [(0, .ref v0), (1, .ref v1), (2, va_rf v2), (3, .int v3), (4, .int v4), (5, .int v5), (6, .int v6), (7, .int (v7 + 1))], [], x10.2)) rfl ?_
      exact ih v0 v1 v2 v3 v4 v5 v6 (v7 + 1) x10.2 _ h r hx
    · rw [if_neg hc] at h
      refine tb_Es (k := 1) (st' := (39, [(0, .ref v0), (1, .ref v1), (2, va_rf v2), (3, .int v3), (4, .int v4), (5, .int v5), (6, .int v6)], [], w)) rfl ?_
      cases h
      exact hx
def fl_yr_snow_12 : Nat → Nat → Nat → (Option Nat) → Int32 → Int32 → Int32 → Int32 → tb_Hp → Option (tb_Hp)
  | 0, _, _, _, _, _, _, _, _ => none
  | n + 1, v0, v1, v2, v3, v4, v5, v6, w => (if v6 < v3 then (tb_gN 15 0 v1 w).bind fun p5 => (tb_on 20 v0 w (fb_yr_begin v0 p5 w)).bind fun x6 => (fl_yr_snow_21 1048576 v0 v1 v2 v3 v4 v5 v6 0 x6).bind fun o11 => (tb_gI 20 3 o11.1 o11.2.2.2.2.2.2.2).bind fun x12 => (tb_gN 20 0 o11.1 o11.2.2.2.2.2.2.2).bind fun p13 => (tb_gI 17 5 p13 o11.2.2.2.2.2.2.2).bind fun x14 => (fb_in_bitCount x14 o11.2.2.2.2.2.2.2).bind fun x15 => (tb_pI 20 3 o11.1 (x12 + x15.1) x15.2).bind fun w16 => (tb_gI 20 4 o11.1 w16).bind fun x17 => (tb_gN 20 0 o11.1 w16).bind fun p18 => (tb_gI 17 4 p18 w16).bind fun x19 => (fb_in_bitCount x19 w16).bind fun x20 => (tb_pI 20 4 o11.1 (x17 + x20.1) x20.2).bind fun w21 => fl_yr_snow_12 n o11.1 o11.2.1 o11.2.2.1 o11.2.2.2.1 o11.2.2.2.2.1 o11.2.2.2.2.2.1 (o11.2.2.2.2.2.2.1 + 1) w21 else some (w))
set_option maxHeartbeats 4000000 in
set_option maxRecDepth 20000 in
theorem dl_yr_snow_12 : ∀ (n : Nat) (v0 : Nat) (v1 : Nat) (v2 : Option Nat) (v3 : Int32) (v4 : Int32) (v5 : Int32) (v6 : Int32) (w : tb_Hp) (o : tb_Hp), fl_yr_snow_12 n v0 v1 v2 v3 v4 v5 v6 w = some o → ∀ (r : Option Value × tb_Hp), tb_Ev tb_P 5 162 (60, [], [], o) r → tb_Ev tb_P 5 162 (13, [(0, .ref v0), (1, .ref v1), (2, va_rf v2), (3, .int v3), (4, .int v4), (5, .int v5), (6, .int v6)], [], w) r := by
  intro n
  induction n with
  | zero =>
    intro v0 v1 v2 v3 v4 v5 v6 w o h
    cases h
  | succ n ih =>
    intro v0 v1 v2 v3 v4 v5 v6 w o h r hx
    unfold fl_yr_snow_12 at h
    refine tb_Es (k := 2) (st' := (15, [(0, .ref v0), (1, .ref v1), (2, va_rf v2), (3, .int v3), (4, .int v4), (5, .int v5), (6, .int v6)], [.int v3, .int v6], w)) rfl ?_
    refine tb_b_cge rfl (fun hc => ?_) (fun hc => ?_)
    · rw [if_pos hc] at h
      refine tb_Es (k := 2) (st' := (18, [(0, .ref v0), (1, .ref v1), (2, va_rf v2), (3, .int v3), (4, .int v4), (5, .int v5), (6, .int v6)], [.ref v1, .ref v0], w)) rfl ?_
      obtain ⟨p5, ep5, h⟩ := Option.bind_eq_some_iff.mp h
      refine tb_e_gN rfl ep5 ?_
      obtain ⟨x6, ex6, h⟩ := Option.bind_eq_some_iff.mp h
      obtain ⟨hkx6, hcall⟩ := tb_on_some ex6
      refine tb_e_cv (v := none) rfl (Or.inl ⟨_, rfl⟩) rfl rfl (Nat.le_of_ble_eq_true rfl) rfl (Nat.le_of_ble_eq_true rfl) hkx6 ((dc_yr_begin hcall).up (by decide)) ?_
      refine tb_Es (k := 3) (st' := (23, [(0, .ref v0), (1, .ref v1), (2, va_rf v2), (3, .int v3), (4, .int v4), (5, .int v5), (6, .int v6), (7, .int 0)], [], x6)) rfl ?_
      obtain ⟨o11, eo11, h⟩ := Option.bind_eq_some_iff.mp h
      refine dl_yr_snow_21 _ v0 v1 v2 v3 v4 v5 v6 0 x6 _ eo11 r ?_
      refine tb_Es (k := 2) (st' := (41, [(0, .ref o11.1), (1, .ref o11.2.1), (2, va_rf o11.2.2.1), (3, .int o11.2.2.2.1), (4, .int o11.2.2.2.2.1), (5, .int o11.2.2.2.2.2.1), (6, .int o11.2.2.2.2.2.2.1)], [.ref o11.1, .ref o11.1], o11.2.2.2.2.2.2.2)) rfl ?_
      obtain ⟨x12, ex12, h⟩ := Option.bind_eq_some_iff.mp h
      refine tb_e_gI rfl ex12 ?_
      refine tb_Es (k := 1) (st' := (43, [(0, .ref o11.1), (1, .ref o11.2.1), (2, va_rf o11.2.2.1), (3, .int o11.2.2.2.1), (4, .int o11.2.2.2.2.1), (5, .int o11.2.2.2.2.2.1), (6, .int o11.2.2.2.2.2.2.1)], [.ref o11.1, .int x12, .ref o11.1], o11.2.2.2.2.2.2.2)) rfl ?_
      obtain ⟨p13, ep13, h⟩ := Option.bind_eq_some_iff.mp h
      refine tb_e_gN rfl ep13 ?_
      obtain ⟨x14, ex14, h⟩ := Option.bind_eq_some_iff.mp h
      refine tb_e_gI rfl ex14 ?_
      obtain ⟨x15, ex15, h⟩ := Option.bind_eq_some_iff.mp h
      have hcall := ex15
      refine tb_e_cs (v := some (.int x15.1)) rfl rfl rfl (Nat.le_of_ble_eq_true rfl) rfl (Nat.le_of_ble_eq_true rfl) ((dc_in_bitCount hcall).up (by decide)) ?_
      refine tb_Es (k := 1) (st' := (47, [(0, .ref o11.1), (1, .ref o11.2.1), (2, va_rf o11.2.2.1), (3, .int o11.2.2.2.1), (4, .int o11.2.2.2.2.1), (5, .int o11.2.2.2.2.2.1), (6, .int o11.2.2.2.2.2.2.1)], [.int (x12 + x15.1), .ref o11.1], x15.2)) rfl ?_
      obtain ⟨w16, ew16, h⟩ := Option.bind_eq_some_iff.mp h
      refine tb_e_pI rfl ew16 ?_
      refine tb_Es (k := 2) (st' := (50, [(0, .ref o11.1), (1, .ref o11.2.1), (2, va_rf o11.2.2.1), (3, .int o11.2.2.2.1), (4, .int o11.2.2.2.2.1), (5, .int o11.2.2.2.2.2.1), (6, .int o11.2.2.2.2.2.2.1)], [.ref o11.1, .ref o11.1], w16)) rfl ?_
      obtain ⟨x17, ex17, h⟩ := Option.bind_eq_some_iff.mp h
      refine tb_e_gI rfl ex17 ?_
      refine tb_Es (k := 1) (st' := (52, [(0, .ref o11.1), (1, .ref o11.2.1), (2, va_rf o11.2.2.1), (3, .int o11.2.2.2.1), (4, .int o11.2.2.2.2.1), (5, .int o11.2.2.2.2.2.1), (6, .int o11.2.2.2.2.2.2.1)], [.ref o11.1, .int x17, .ref o11.1], w16)) rfl ?_
      obtain ⟨p18, ep18, h⟩ := Option.bind_eq_some_iff.mp h
      refine tb_e_gN rfl ep18 ?_
      obtain ⟨x19, ex19, h⟩ := Option.bind_eq_some_iff.mp h
      refine tb_e_gI rfl ex19 ?_
      obtain ⟨x20, ex20, h⟩ := Option.bind_eq_some_iff.mp h
      have hcall := ex20
      refine tb_e_cs (v := some (.int x20.1)) rfl rfl rfl (Nat.le_of_ble_eq_true rfl) rfl (Nat.le_of_ble_eq_true rfl) ((dc_in_bitCount hcall).up (by decide)) ?_
      refine tb_Es (k := 1) (st' := (56, [(0, .ref o11.1), (1, .ref o11.2.1), (2, va_rf o11.2.2.1), (3, .int o11.2.2.2.1), (4, .int o11.2.2.2.2.1), (5, .int o11.2.2.2.2.2.1), (6, .int o11.2.2.2.2.2.2.1)], [.int (x17 + x20.1), .ref o11.1], x20.2)) rfl ?_
      obtain ⟨w21, ew21, h⟩ := Option.bind_eq_some_iff.mp h
      refine tb_e_pI rfl ew21 ?_
      refine tb_Es (k := 3) (st' := (13, [(0, .ref o11.1), (1, .ref o11.2.1), (2, va_rf o11.2.2.1), (3, .int o11.2.2.2.1), (4, .int o11.2.2.2.2.1), (5, .int o11.2.2.2.2.2.1), (6, .int (o11.2.2.2.2.2.2.1 + 1))], [], w21)) rfl ?_
      exact ih o11.1 o11.2.1 o11.2.2.1 o11.2.2.2.1 o11.2.2.2.2.1 o11.2.2.2.2.2.1 (o11.2.2.2.2.2.2.1 + 1) w21 _ h r hx
    · rw [if_neg hc] at h
      refine tb_Es (k := 1) (st' := (60, [], [], w)) rfl ?_
      cases h
      exact hx
def fb_yr_snow (a0 : Nat) (a1 : Nat) (a2 : Option Nat) (a3 : Int32) (a4 : Int32) (a5 : Int32) (w : tb_Hp) : Option (tb_Hp) := (tb_gI 15 4 a1 w).bind fun x1 => (tb_pI 20 7 a0 x1 w).bind fun w2 => (tb_pI 20 3 a0 0 w2).bind fun w3 => (tb_pI 20 4 a0 0 w3).bind fun w4 => (fl_yr_snow_12 1048576 a0 a1 a2 a3 a4 a5 0 w4).bind fun o22 => some o22
set_option maxHeartbeats 4000000 in
set_option maxRecDepth 20000 in
theorem dc_yr_snow {a0 : Nat} {a1 : Nat} {a2 : Option Nat} {a3 : Int32} {a4 : Int32} {a5 : Int32} {w : tb_Hp} {o : tb_Hp} (h : fb_yr_snow a0 a1 a2 a3 a4 a5 w = some o) : tb_Ev tb_P 5 162 (0, tb_ent [.ref a0, .ref a1, va_rf a2, .int a3, .int a4, .int a5], [], w) (none, o) := by
  unfold fb_yr_snow at h
  obtain ⟨r, hr⟩ : ∃ r : Option Value × tb_Hp, r = (none, o) := ⟨_, rfl⟩
  rw [← hr]
  show tb_Ev tb_P 5 162 (0, [(0, .ref a0), (1, .ref a1), (2, va_rf a2), (3, .int a3), (4, .int a4), (5, .int a5)], [], w) r
  refine tb_Es (k := 2) (st' := (2, [(0, .ref a0), (1, .ref a1), (2, va_rf a2), (3, .int a3), (4, .int a4), (5, .int a5)], [.ref a1, .ref a0], w)) rfl ?_
  obtain ⟨x1, ex1, h⟩ := Option.bind_eq_some_iff.mp h
  refine tb_e_gI rfl ex1 ?_
  obtain ⟨w2, ew2, h⟩ := Option.bind_eq_some_iff.mp h
  refine tb_e_pI rfl ew2 ?_
  refine tb_Es (k := 2) (st' := (6, [(0, .ref a0), (1, .ref a1), (2, va_rf a2), (3, .int a3), (4, .int a4), (5, .int a5)], [.int 0, .ref a0], w2)) rfl ?_
  obtain ⟨w3, ew3, h⟩ := Option.bind_eq_some_iff.mp h
  refine tb_e_pI rfl ew3 ?_
  refine tb_Es (k := 2) (st' := (9, [(0, .ref a0), (1, .ref a1), (2, va_rf a2), (3, .int a3), (4, .int a4), (5, .int a5)], [.int 0, .ref a0], w3)) rfl ?_
  obtain ⟨w4, ew4, h⟩ := Option.bind_eq_some_iff.mp h
  refine tb_e_pI rfl ew4 ?_
  refine tb_Es (k := 3) (st' := (13, [(0, .ref a0), (1, .ref a1), (2, va_rf a2), (3, .int a3), (4, .int a4), (5, .int a5), (6, .int 0)], [], w4)) rfl ?_
  obtain ⟨o22, eo22, h⟩ := Option.bind_eq_some_iff.mp h
  refine dl_yr_snow_12 _ a0 a1 a2 a3 a4 a5 0 w4 _ eo22 r ?_
  cases h
  subst hr
  exact tb_Er rfl rfl
/-! TannerBuntingModel.sum()Z -/
def fj_m_sum_j33 (k : Nat → tb_Hp → Option (Int32 × tb_Hp)) (w : tb_Hp) : Option (Int32 × tb_Hp) := some ((0, w))
set_option maxHeartbeats 4000000 in
set_option maxRecDepth 20000 in
theorem dj_m_sum_j33 (k : Nat → tb_Hp → Option (Int32 × tb_Hp)) (w : tb_Hp) (o : Int32 × tb_Hp) (h : fj_m_sum_j33 k  w = some o) (r : Option Value × tb_Hp) (hx : r = (some (.int o.1), o.2)) (hk : ∀ (v0 : Nat) (w : tb_Hp), k v0 w = some o → tb_Ev tb_P 5 192 (6, [(0, .ref v0)], [], w) r) : tb_Ev tb_P 5 192 (37, [], [], w) r := by
  unfold fj_m_sum_j33 at h
  refine tb_Es (k := 1) (st' := (38, [], [.int 0], w)) rfl ?_
  cases h
  try dsimp only at hx
  subst hx
  exact tb_Er rfl rfl
def fj_m_sum_j23 (k : Nat → tb_Hp → Option (Int32 × tb_Hp)) (v0 : Nat) (s0 : Int32) (w : tb_Hp) : Option (Int32 × tb_Hp) := (tb_gI 22 8 v0 w).bind fun x6 => (tb_pI 22 8 v0 (x6 + 1) w).bind fun w7 => (tb_on 22 v0 w7 (fb_m_term v0 w7)).bind fun x8 => (if x8.1 = 0 then fj_m_sum_j33 k  x8.2 else (tb_on 22 v0 x8.2 (fb_m_puts v0 s0 0 x8.2)).bind fun x9 => k v0 x9)
set_option maxHeartbeats 4000000 in
set_option maxRecDepth 20000 in
theorem dj_m_sum_j23 (k : Nat → tb_Hp → Option (Int32 × tb_Hp)) (v0 : Nat) (s0 : Int32) (w : tb_Hp) (o : Int32 × tb_Hp) (h : fj_m_sum_j23 k v0 s0 w = some o) (r : Option Value × tb_Hp) (hx : r = (some (.int o.1), o.2)) (hk : ∀ (v0 : Nat) (w : tb_Hp), k v0 w = some o → tb_Ev tb_P 5 192 (6, [(0, .ref v0)], [], w) r) : tb_Ev tb_P 5 192 (26, [(0, .ref v0)], [.int s0], w) r := by
  unfold fj_m_sum_j23 at h
  refine tb_Es (k := 3) (st' := (29, [(1, .int s0), (0, .ref v0)], [.ref v0, .ref v0], w)) rfl ?_
  obtain ⟨x6, ex6, h⟩ := Option.bind_eq_some_iff.mp h
  refine tb_e_gI rfl ex6 ?_
  refine tb_Es (k := 2) (st' := (32, [(1, .int s0), (0, .ref v0)], [.int (x6 + 1), .ref v0], w)) rfl ?_
  obtain ⟨w7, ew7, h⟩ := Option.bind_eq_some_iff.mp h
  refine tb_e_pI rfl ew7 ?_
  refine tb_Es (k := 1) (st' := (34, [(1, .int s0), (0, .ref v0)], [.ref v0], w7)) rfl ?_
  obtain ⟨x8, ex8, h⟩ := Option.bind_eq_some_iff.mp h
  obtain ⟨hkx8, hcall⟩ := tb_on_some ex8
  refine tb_e_cv (v := some (.int x8.1)) rfl (Or.inl ⟨_, rfl⟩) rfl rfl (Nat.le_of_ble_eq_true rfl) rfl (Nat.le_of_ble_eq_true rfl) hkx8 ((dc_m_term hcall).up (by decide)) ?_
  refine tb_b_ine rfl (fun hc => ?_) (fun hc => ?_)
  · rw [if_pos hc] at h
    refine tb_Es (k := 1) (st' := (37, [], [], x8.2)) rfl ?_
    exact dj_m_sum_j33 k  x8.2 _ h r hx hk
  · rw [if_neg hc] at h
    refine tb_Es (k := 3) (st' := (42, [(1, .int s0), (0, .ref v0)], [.int 0, .int s0, .ref v0], x8.2)) rfl ?_
    obtain ⟨x9, ex9, h⟩ := Option.bind_eq_some_iff.mp h
    obtain ⟨hkx9, hcall⟩ := tb_on_some ex9
    refine tb_e_cv (v := none) rfl (Or.inl ⟨_, rfl⟩) rfl rfl (Nat.le_of_ble_eq_true rfl) rfl (Nat.le_of_ble_eq_true rfl) hkx9 ((dc_m_puts hcall).up (by decide)) ?_
    refine tb_Es (k := 2) (st' := (6, [(0, .ref v0)], [], x9)) rfl ?_
    exact hk v0 x9 h
def fj_m_sum_j13 (k : Nat → tb_Hp → Option (Int32 × tb_Hp)) (v0 : Nat) (w : tb_Hp) : Option (Int32 × tb_Hp) := (tb_gN 22 0 v0 w).bind fun p3 => (tb_gI 22 8 v0 w).bind fun x4 => (tb_lI [0, 3] p3 x4 w).bind fun x5 => (if x5 = 43 then fj_m_sum_j23 k v0 2 w else fj_m_sum_j23 k v0 3 w)
set_option maxHeartbeats 4000000 in
set_option maxRecDepth 20000 in
theorem dj_m_sum_j13 (k : Nat → tb_Hp → Option (Int32 × tb_Hp)) (v0 : Nat) (w : tb_Hp) (o : Int32 × tb_Hp) (h : fj_m_sum_j13 k v0 w = some o) (r : Option Value × tb_Hp) (hx : r = (some (.int o.1), o.2)) (hk : ∀ (v0 : Nat) (w : tb_Hp), k v0 w = some o → tb_Ev tb_P 5 192 (6, [(0, .ref v0)], [], w) r) : tb_Ev tb_P 5 192 (15, [(0, .ref v0)], [], w) r := by
  unfold fj_m_sum_j13 at h
  refine tb_Es (k := 1) (st' := (16, [(0, .ref v0)], [.ref v0], w)) rfl ?_
  obtain ⟨p3, ep3, h⟩ := Option.bind_eq_some_iff.mp h
  refine tb_e_gN rfl ep3 ?_
  refine tb_Es (k := 1) (st' := (18, [(0, .ref v0)], [.ref v0, .ref p3], w)) rfl ?_
  obtain ⟨x4, ex4, h⟩ := Option.bind_eq_some_iff.mp h
  refine tb_e_gI rfl ex4 ?_
  obtain ⟨x5, ex5, h⟩ := Option.bind_eq_some_iff.mp h
  refine tb_e_lI rfl (Or.inr ⟨rfl, rfl⟩) ex5 ?_
  refine tb_Es (k := 1) (st' := (21, [(0, .ref v0)], [.int 43, .int x5], w)) rfl ?_
  refine tb_b_cne rfl (fun hc => ?_) (fun hc => ?_)
  · rw [if_pos hc] at h
    refine tb_Es (k := 3) (st' := (26, [(0, .ref v0)], [.int 2], w)) rfl ?_
    exact dj_m_sum_j23 k v0 2 w _ h r hx hk
  · rw [if_neg hc] at h
    refine tb_Es (k := 2) (st' := (26, [(0, .ref v0)], [.int 3], w)) rfl ?_
    exact dj_m_sum_j23 k v0 3 w _ h r hx hk
def fj_m_sum_j40 (k : Nat → tb_Hp → Option (Int32 × tb_Hp)) (w : tb_Hp) : Option (Int32 × tb_Hp) := some ((1, w))
set_option maxHeartbeats 4000000 in
set_option maxRecDepth 20000 in
theorem dj_m_sum_j40 (k : Nat → tb_Hp → Option (Int32 × tb_Hp)) (w : tb_Hp) (o : Int32 × tb_Hp) (h : fj_m_sum_j40 k  w = some o) (r : Option Value × tb_Hp) (hx : r = (some (.int o.1), o.2)) (hk : ∀ (v0 : Nat) (w : tb_Hp), k v0 w = some o → tb_Ev tb_P 5 192 (6, [(0, .ref v0)], [], w) r) : tb_Ev tb_P 5 192 (45, [], [], w) r := by
  unfold fj_m_sum_j40 at h
  refine tb_Es (k := 1) (st' := (46, [], [.int 1], w)) rfl ?_
  cases h
  try dsimp only at hx
  subst hx
  exact tb_Er rfl rfl
def fl_m_sum_5 : Nat → Nat → tb_Hp → Option (Int32 × tb_Hp)
  | 0, _, _ => none
  | n + 1, v0, w => (tb_on 22 v0 w (fb_m_see v0 w)).bind fun x2 => (if x2.1 = 43 then fj_m_sum_j13 (fl_m_sum_5 n) v0 x2.2 else (tb_on 22 v0 x2.2 (fb_m_see v0 x2.2)).bind fun x10 => (if x10.1 = 45 then fj_m_sum_j13 (fl_m_sum_5 n) v0 x10.2 else fj_m_sum_j40 (fl_m_sum_5 n)  x10.2))
set_option maxHeartbeats 4000000 in
set_option maxRecDepth 20000 in
theorem dl_m_sum_5 : ∀ (n : Nat) (v0 : Nat) (w : tb_Hp) (o : Int32 × tb_Hp), fl_m_sum_5 n v0 w = some o → ∀ (r : Option Value × tb_Hp), r = (some (.int o.1), o.2) → tb_Ev tb_P 5 192 (6, [(0, .ref v0)], [], w) r := by
  intro n
  induction n with
  | zero =>
    intro v0 w o h
    cases h
  | succ n ih =>
    intro v0 w o h r hx
    unfold fl_m_sum_5 at h
    refine tb_Es (k := 1) (st' := (7, [(0, .ref v0)], [.ref v0], w)) rfl ?_
    obtain ⟨x2, ex2, h⟩ := Option.bind_eq_some_iff.mp h
    obtain ⟨hkx2, hcall⟩ := tb_on_some ex2
    refine tb_e_cv (v := some (.int x2.1)) rfl (Or.inl ⟨_, rfl⟩) rfl rfl (Nat.le_of_ble_eq_true rfl) rfl (Nat.le_of_ble_eq_true rfl) hkx2 ((dc_m_see hcall).up (by decide)) ?_
    refine tb_Es (k := 1) (st' := (9, [(0, .ref v0)], [.int 43, .int x2.1], x2.2)) rfl ?_
    refine tb_b_ceq rfl (fun hc => ?_) (fun hc => ?_)
    · rw [if_pos hc] at h
      refine tb_Es (k := 1) (st' := (15, [(0, .ref v0)], [], x2.2)) rfl ?_
      exact dj_m_sum_j13 (fl_m_sum_5 n) v0 x2.2 _ h r hx (fun v0_ w_ h_ => ih v0_ w_ _ h_ r hx)
    · rw [if_neg hc] at h
      refine tb_Es (k := 1) (st' := (11, [(0, .ref v0)], [.ref v0], x2.2)) rfl ?_
      obtain ⟨x10, ex10, h⟩ := Option.bind_eq_some_iff.mp h
      obtain ⟨hkx10, hcall⟩ := tb_on_some ex10
      refine tb_e_cv (v := some (.int x10.1)) rfl (Or.inl ⟨_, rfl⟩) rfl rfl (Nat.le_of_ble_eq_true rfl) rfl (Nat.le_of_ble_eq_true rfl) hkx10 ((dc_m_see hcall).up (by decide)) ?_
      refine tb_Es (k := 1) (st' := (13, [(0, .ref v0)], [.int 45, .int x10.1], x10.2)) rfl ?_
      refine tb_b_cne rfl (fun hc => ?_) (fun hc => ?_)
      · rw [if_pos hc] at h
        refine tb_Es (k := 1) (st' := (15, [(0, .ref v0)], [], x10.2)) rfl ?_
        exact dj_m_sum_j13 (fl_m_sum_5 n) v0 x10.2 _ h r hx (fun v0_ w_ h_ => ih v0_ w_ _ h_ r hx)
      · rw [if_neg hc] at h
        refine tb_Es (k := 1) (st' := (45, [], [], x10.2)) rfl ?_
        exact dj_m_sum_j40 (fl_m_sum_5 n)  x10.2 _ h r hx (fun v0_ w_ h_ => ih v0_ w_ _ h_ r hx)
def fb_m_sum (a0 : Nat) (w : tb_Hp) : Option (Int32 × tb_Hp) := (tb_on 22 a0 w (fb_m_term a0 w)).bind fun x1 => (if x1.1 = 0 then some (0, x1.2) else (fl_m_sum_5 1048576 a0 x1.2).bind fun o11 => some o11)
set_option maxHeartbeats 4000000 in
set_option maxRecDepth 20000 in
theorem dc_m_sum {a0 : Nat} {w : tb_Hp} {o : Int32 × tb_Hp} (h : fb_m_sum a0 w = some o) : tb_Ev tb_P 5 192 (0, tb_ent [.ref a0], [], w) (some (.int o.1), o.2) := by
  unfold fb_m_sum at h
  obtain ⟨r, hr⟩ : ∃ r : Option Value × tb_Hp, r = (some (.int o.1), o.2) := ⟨_, rfl⟩
  rw [← hr]
  show tb_Ev tb_P 5 192 (0, [(0, .ref a0)], [], w) r
  refine tb_Es (k := 1) (st' := (1, [(0, .ref a0)], [.ref a0], w)) rfl ?_
  obtain ⟨x1, ex1, h⟩ := Option.bind_eq_some_iff.mp h
  obtain ⟨hkx1, hcall⟩ := tb_on_some ex1
  refine tb_e_cv (v := some (.int x1.1)) rfl (Or.inl ⟨_, rfl⟩) rfl rfl (Nat.le_of_ble_eq_true rfl) rfl (Nat.le_of_ble_eq_true rfl) hkx1 ((dc_m_term hcall).up (by decide)) ?_
  refine tb_b_ine rfl (fun hc => ?_) (fun hc => ?_)
  · rw [if_pos hc] at h
    refine tb_Es (k := 1) (st' := (4, [(0, .ref a0)], [.int 0], x1.2)) rfl ?_
    cases h
    subst hr
    exact tb_Er rfl rfl
  · rw [if_neg hc] at h
    refine tb_Es (k := 1) (st' := (6, [(0, .ref a0)], [], x1.2)) rfl ?_
    obtain ⟨o11, eo11, h⟩ := Option.bind_eq_some_iff.mp h
    refine dl_m_sum_5 _ a0 x1.2 _ eo11 r ?_
    cases h
    exact hr
/-! TannerBuntingModel.letGo()I -/
def fl_m_letGo_4 : Nat → Nat → Int32 → Int32 → tb_Hp → Option (Int32 × tb_Hp)
  | 0, _, _, _, _ => none
  | n + 1, v0, v1, v2, w => (tb_gN 22 20 v0 w).bind fun p1 => (tb_lI [1, 9] p1 11 w).bind fun x2 => (if v2 < x2 then (tb_gI 22 21 v0 w).bind fun x3 => (if x3 < 0 then some ((v1, w)) else (tb_on 22 v0 w (fb_m_isUp v0 v2 w)).bind fun x4 => (if x4.1 = 0 then fl_m_letGo_4 n v0 (v1 ||| 0) (v2 + 1) x4.2 else (tb_on 22 v0 x4.2 (fb_m_isKept v0 v2 x4.2)).bind fun x5 => (if x5.1 = 0 then fl_m_letGo_4 n v0 (v1 ||| (1 <<< (v2 &&& 31))) (v2 + 1) x5.2 else fl_m_letGo_4 n v0 (v1 ||| 0) (v2 + 1) x5.2))) else some ((v1, w)))
set_option maxHeartbeats 4000000 in
set_option maxRecDepth 20000 in
theorem dl_m_letGo_4 : ∀ (n : Nat) (v0 : Nat) (v1 : Int32) (v2 : Int32) (w : tb_Hp) (o : Int32 × tb_Hp), fl_m_letGo_4 n v0 v1 v2 w = some o → ∀ (r : Option Value × tb_Hp), tb_Ev tb_P 5 227 (33, [(1, .int o.1)], [], o.2) r → tb_Ev tb_P 5 227 (5, [(0, .ref v0), (1, .int v1), (2, .int v2)], [], w) r := by
  intro n
  induction n with
  | zero =>
    intro v0 v1 v2 w o h
    cases h
  | succ n ih =>
    intro v0 v1 v2 w o h r hx
    unfold fl_m_letGo_4 at h
    refine tb_Es (k := 2) (st' := (7, [(0, .ref v0), (1, .int v1), (2, .int v2)], [.ref v0, .int v2], w)) rfl ?_
    obtain ⟨p1, ep1, h⟩ := Option.bind_eq_some_iff.mp h
    refine tb_e_gN rfl ep1 ?_
    refine tb_Es (k := 1) (st' := (9, [(0, .ref v0), (1, .int v1), (2, .int v2)], [.int 11, .ref p1, .int v2], w)) rfl ?_
    obtain ⟨x2, ex2, h⟩ := Option.bind_eq_some_iff.mp h
    refine tb_e_lI rfl (Or.inl ⟨rfl, rfl⟩) ex2 ?_
    refine tb_b_cge rfl (fun hc => ?_) (fun hc => ?_)
    · rw [if_pos hc] at h
      refine tb_Es (k := 1) (st' := (12, [(0, .ref v0), (1, .int v1), (2, .int v2)], [.ref v0], w)) rfl ?_
      obtain ⟨x3, ex3, h⟩ := Option.bind_eq_some_iff.mp h
      refine tb_e_gI rfl ex3 ?_
      refine tb_b_ilt rfl (fun hc => ?_) (fun hc => ?_)
      · rw [if_pos hc] at h
        refine tb_Es (k := 1) (st' := (33, [(1, .int v1)], [], w)) rfl ?_
        cases h
        exact hx
      · rw [if_neg hc] at h
        refine tb_Es (k := 3) (st' := (17, [(0, .ref v0), (1, .int v1), (2, .int v2)], [.int v2, .ref v0, .int v1], w)) rfl ?_
        obtain ⟨x4, ex4, h⟩ := Option.bind_eq_some_iff.mp h
        obtain ⟨hkx4, hcall⟩ := tb_on_some ex4
        refine tb_e_cv (v := some (.int x4.1)) rfl (Or.inl ⟨_, rfl⟩) rfl rfl (Nat.le_of_ble_eq_true rfl) rfl (Nat.le_of_ble_eq_true rfl) hkx4 ((dc_m_isUp hcall).up (by decide)) ?_
        refine tb_b_ieq rfl (fun hc => ?_) (fun hc => ?_)
        · rw [if_pos hc] at h
          refine tb_Es (k := 6) (st' := (5, [(0, .ref v0), (1, .int (v1 ||| 0)), (2, .int (v2 + 1))], [], x4.2)) rfl ?_
          exact ih v0 (v1 ||| 0) (v2 + 1) x4.2 _ h r hx
        · rw [if_neg hc] at h
          refine tb_Es (k := 2) (st' := (21, [(0, .ref v0), (1, .int v1), (2, .int v2)], [.int v2, .ref v0, .int v1], x4.2)) rfl ?_
          obtain ⟨x5, ex5, h⟩ := Option.bind_eq_some_iff.mp h
          obtain ⟨hkx5, hcall⟩ := tb_on_some ex5
          refine tb_e_cv (v := some (.int x5.1)) rfl (Or.inl ⟨_, rfl⟩) rfl rfl (Nat.le_of_ble_eq_true rfl) rfl (Nat.le_of_ble_eq_true rfl) hkx5 ((dc_m_isKept hcall).up (by decide)) ?_
          refine tb_b_ine rfl (fun hc => ?_) (fun hc => ?_)
          · rw [if_pos hc] at h
            refine tb_Es (k := 9) (st' := (5, [(0, .ref v0), (1, .int (v1 ||| (1 <<< (v2 &&& 31)))), (2, .int (v2 + 1))], [], x5.2)) rfl ?_
            exact ih v0 (v1 ||| (1 <<< (v2 &&& 31))) (v2 + 1) x5.2 _ h r hx
          · rw [if_neg hc] at h
            refine tb_Es (k := 6) (st' := (5, [(0, .ref v0), (1, .int (v1 ||| 0)), (2, .int (v2 + 1))], [], x5.2)) rfl ?_
            exact ih v0 (v1 ||| 0) (v2 + 1) x5.2 _ h r hx
    · rw [if_neg hc] at h
      refine tb_Es (k := 1) (st' := (33, [(1, .int v1)], [], w)) rfl ?_
      cases h
      exact hx
def fb_m_letGo (a0 : Nat) (w : tb_Hp) : Option (Int32 × tb_Hp) := (fl_m_letGo_4 1048576 a0 0 0 w).bind fun o6 => some (o6.1, o6.2)
set_option maxHeartbeats 4000000 in
set_option maxRecDepth 20000 in
theorem dc_m_letGo {a0 : Nat} {w : tb_Hp} {o : Int32 × tb_Hp} (h : fb_m_letGo a0 w = some o) : tb_Ev tb_P 5 227 (0, tb_ent [.ref a0], [], w) (some (.int o.1), o.2) := by
  unfold fb_m_letGo at h
  obtain ⟨r, hr⟩ : ∃ r : Option Value × tb_Hp, r = (some (.int o.1), o.2) := ⟨_, rfl⟩
  rw [← hr]
  show tb_Ev tb_P 5 227 (0, [(0, .ref a0)], [], w) r
  refine tb_Es (k := 5) (st' := (5, [(0, .ref a0), (1, .int 0), (2, .int 0)], [], w)) rfl ?_
  obtain ⟨o6, eo6, h⟩ := Option.bind_eq_some_iff.mp h
  refine dl_m_letGo_4 _ a0 0 0 w _ eo6 r ?_
  refine tb_Es (k := 1) (st' := (34, [(1, .int o6.1)], [.int o6.1], o6.2)) rfl ?_
  cases h
  subst hr
  exact tb_Er rfl rfl
/-! TannerBuntingModel.givesWay()I -/
def fl_m_givesWay_9 : Nat → Nat → Int32 → Int32 → Int32 → tb_Hp → Option (Nat × Int32 × Int32 × tb_Hp)
  | 0, _, _, _, _, _ => none
  | n + 1, v0, v1, v2, v3, w => (tb_on 22 v0 w (fb_m_houses v0 w)).bind fun x2 => (if v3 < x2.1 then (fb_m_isOf v2 v3 x2.2).bind fun x3 => (if x3.1 = 0 then fl_m_givesWay_9 n v0 v1 v2 (v3 + 1) x3.2 else (tb_gN 22 20 v0 x3.2).bind fun p4 => (tb_tI p4 (32 + v3) 0 x3.2).bind fun w5 => (tb_on 22 v0 w5 (fb_m_linesAt v0 v3 w5)).bind fun x6 => (tb_on 22 v0 x6.2 (fb_m_downsAll v0 x6.1 x6.2)).bind fun x7 => fl_m_givesWay_9 n v0 v1 v2 (v3 + 1) x7) else some ((v0, v1, v2, x2.2)))
set_option maxHeartbeats 4000000 in
set_option maxRecDepth 20000 in
theorem dl_m_givesWay_9 : ∀ (n : Nat) (v0 : Nat) (v1 : Int32) (v2 : Int32) (v3 : Int32) (w : tb_Hp) (o : Nat × Int32 × Int32 × tb_Hp), fl_m_givesWay_9 n v0 v1 v2 v3 w = some o → ∀ (r : Option Value × tb_Hp), tb_Ev tb_P 5 243 (35, [(0, .ref o.1), (1, .int o.2.1), (2, .int o.2.2.1)], [], o.2.2.2) r → tb_Ev tb_P 5 243 (11, [(0, .ref v0), (1, .int v1), (2, .int v2), (3, .int v3)], [], w) r := by
  intro n
  induction n with
  | zero =>
    intro v0 v1 v2 v3 w o h
    cases h
  | succ n ih =>
    intro v0 v1 v2 v3 w o h r hx
    unfold fl_m_givesWay_9 at h
    refine tb_Es (k := 2) (st' := (13, [(0, .ref v0), (1, .int v1), (2, .int v2), (3, .int v3)], [.ref v0, .int v3], w)) rfl ?_
    obtain ⟨x2, ex2, h⟩ := Option.bind_eq_some_iff.mp h
    obtain ⟨hkx2, hcall⟩ := tb_on_some ex2
    refine tb_e_cv (v := some (.int x2.1)) rfl (Or.inl ⟨_, rfl⟩) rfl rfl (Nat.le_of_ble_eq_true rfl) rfl (Nat.le_of_ble_eq_true rfl) hkx2 ((dc_m_houses hcall).up (by decide)) ?_
    refine tb_b_cge rfl (fun hc => ?_) (fun hc => ?_)
    · rw [if_pos hc] at h
      refine tb_Es (k := 2) (st' := (17, [(0, .ref v0), (1, .int v1), (2, .int v2), (3, .int v3)], [.int v3, .int v2], x2.2)) rfl ?_
      obtain ⟨x3, ex3, h⟩ := Option.bind_eq_some_iff.mp h
      have hcall := ex3
      refine tb_e_cs (v := some (.int x3.1)) rfl rfl rfl (Nat.le_of_ble_eq_true rfl) rfl (Nat.le_of_ble_eq_true rfl) ((dc_m_isOf hcall).up (by decide)) ?_
      refine tb_b_ine rfl (fun hc => ?_) (fun hc => ?_)
      · rw [if_pos hc] at h
        refine tb_Es (k := 4) (st' := (11, [(0, .ref v0), (1, .int v1), (2, .int v2), (3, .int (v3 + 1))], [], x3.2)) rfl ?_
        exact ih v0 v1 v2 (v3 + 1) x3.2 _ h r hx
      · rw [if_neg hc] at h
        refine tb_Es (k := 1) (st' := (21, [(0, .ref v0), (1, .int v1), (2, .int v2), (3, .int v3)], [.ref v0], x3.2)) rfl ?_
        obtain ⟨p4, ep4, h⟩ := Option.bind_eq_some_iff.mp h
        refine tb_e_gN rfl ep4 ?_
        refine tb_Es (k := 4) (st' := (26, [(0, .ref v0), (1, .int v1), (2, .int v2), (3, .int v3)], [.int 0, .int (32 + v3), .ref p4], x3.2)) rfl ?_
        obtain ⟨w5, ew5, h⟩ := Option.bind_eq_some_iff.mp h
        refine tb_e_tI rfl ew5 ?_
        refine tb_Es (k := 3) (st' := (30, [(0, .ref v0), (1, .int v1), (2, .int v2), (3, .int v3)], [.int v3, .ref v0, .ref v0], w5)) rfl ?_
        obtain ⟨x6, ex6, h⟩ := Option.bind_eq_some_iff.mp h
        obtain ⟨hkx6, hcall⟩ := tb_on_some ex6
        refine tb_e_cv (v := some (.int x6.1)) rfl (Or.inl ⟨_, rfl⟩) rfl rfl (Nat.le_of_ble_eq_true rfl) rfl (Nat.le_of_ble_eq_true rfl) hkx6 ((dc_m_linesAt hcall).up (by decide)) ?_
        obtain ⟨x7, ex7, h⟩ := Option.bind_eq_some_iff.mp h
        obtain ⟨hkx7, hcall⟩ := tb_on_some ex7
        refine tb_e_cv (v := none) rfl (Or.inl ⟨_, rfl⟩) rfl rfl (Nat.le_of_ble_eq_true rfl) rfl (Nat.le_of_ble_eq_true rfl) hkx7 ((dc_m_downsAll hcall).up (by decide)) ?_
        refine tb_Es (k := 3) (st' := (11, [(0, .ref v0), (1, .int v1), (2, .int v2), (3, .int (v3 + 1))], [], x7)) rfl ?_
        exact ih v0 v1 v2 (v3 + 1) x7 _ h r hx
    · rw [if_neg hc] at h
      refine tb_Es (k := 1) (st' := (35, [(0, .ref v0), (1, .int v1), (2, .int v2)], [], x2.2)) rfl ?_
      cases h
      exact hx
def fl_m_givesWay_5 : Nat → Nat → Int32 → Int32 → tb_Hp → Option (Int32 × tb_Hp)
  | 0, _, _, _, _ => none
  | n + 1, v0, v1, v2, w => (if v2 = 0 then some ((v1, w)) else (fl_m_givesWay_9 1048576 v0 v1 v2 0 w).bind fun o8 => (tb_on 22 o8.1 o8.2.2.2 (fb_m_looseOnes o8.1 o8.2.2.2)).bind fun x9 => fl_m_givesWay_5 n o8.1 (o8.2.1 ||| o8.2.2.1) x9.1 x9.2)
set_option maxHeartbeats 4000000 in
set_option maxRecDepth 20000 in
theorem dl_m_givesWay_5 : ∀ (n : Nat) (v0 : Nat) (v1 : Int32) (v2 : Int32) (w : tb_Hp) (o : Int32 × tb_Hp), fl_m_givesWay_5 n v0 v1 v2 w = some o → ∀ (r : Option Value × tb_Hp), tb_Ev tb_P 5 243 (44, [(1, .int o.1)], [], o.2) r → tb_Ev tb_P 5 243 (6, [(0, .ref v0), (1, .int v1), (2, .int v2)], [], w) r := by
  intro n
  induction n with
  | zero =>
    intro v0 v1 v2 w o h
    cases h
  | succ n ih =>
    intro v0 v1 v2 w o h r hx
    unfold fl_m_givesWay_5 at h
    refine tb_Es (k := 1) (st' := (7, [(0, .ref v0), (1, .int v1), (2, .int v2)], [.int v2], w)) rfl ?_
    refine tb_b_ieq rfl (fun hc => ?_) (fun hc => ?_)
    · rw [if_pos hc] at h
      refine tb_Es (k := 1) (st' := (44, [(1, .int v1)], [], w)) rfl ?_
      cases h
      exact hx
    · rw [if_neg hc] at h
      refine tb_Es (k := 3) (st' := (11, [(0, .ref v0), (1, .int v1), (2, .int v2), (3, .int 0)], [], w)) rfl ?_
      obtain ⟨o8, eo8, h⟩ := Option.bind_eq_some_iff.mp h
      refine dl_m_givesWay_9 _ v0 v1 v2 0 w _ eo8 r ?_
      refine tb_Es (k := 5) (st' := (40, [(1, .int (o8.2.1 ||| o8.2.2.1)), (0, .ref o8.1), (2, .int o8.2.2.1)], [.ref o8.1], o8.2.2.2)) rfl ?_
      obtain ⟨x9, ex9, h⟩ := Option.bind_eq_some_iff.mp h
      obtain ⟨hkx9, hcall⟩ := tb_on_some ex9
      refine tb_e_cv (v := some (.int x9.1)) rfl (Or.inl ⟨_, rfl⟩) rfl rfl (Nat.le_of_ble_eq_true rfl) rfl (Nat.le_of_ble_eq_true rfl) hkx9 ((dc_m_looseOnes hcall).up (by decide)) ?_
      refine tb_Es (k := 3) (st' := (6, [(0, .ref o8.1), (1, .int (o8.2.1 ||| o8.2.2.1)), (2, .int x9.1)], [], x9.2)) rfl ?_
      exact ih o8.1 (o8.2.1 ||| o8.2.2.1) x9.1 x9.2 _ h r hx
def fb_m_givesWay (a0 : Nat) (w : tb_Hp) : Option (Int32 × tb_Hp) := (tb_on 22 a0 w (fb_m_looseOnes a0 w)).bind fun x1 => (fl_m_givesWay_5 1048576 a0 0 x1.1 x1.2).bind fun o10 => some (o10.1, o10.2)
set_option maxHeartbeats 4000000 in
set_option maxRecDepth 20000 in
theorem dc_m_givesWay {a0 : Nat} {w : tb_Hp} {o : Int32 × tb_Hp} (h : fb_m_givesWay a0 w = some o) : tb_Ev tb_P 5 243 (0, tb_ent [.ref a0], [], w) (some (.int o.1), o.2) := by
  unfold fb_m_givesWay at h
  obtain ⟨r, hr⟩ : ∃ r : Option Value × tb_Hp, r = (some (.int o.1), o.2) := ⟨_, rfl⟩
  rw [← hr]
  show tb_Ev tb_P 5 243 (0, [(0, .ref a0)], [], w) r
  refine tb_Es (k := 3) (st' := (3, [(1, .int 0), (0, .ref a0)], [.ref a0], w)) rfl ?_
  obtain ⟨x1, ex1, h⟩ := Option.bind_eq_some_iff.mp h
  obtain ⟨hkx1, hcall⟩ := tb_on_some ex1
  refine tb_e_cv (v := some (.int x1.1)) rfl (Or.inl ⟨_, rfl⟩) rfl rfl (Nat.le_of_ble_eq_true rfl) rfl (Nat.le_of_ble_eq_true rfl) hkx1 ((dc_m_looseOnes hcall).up (by decide)) ?_
  refine tb_Es (k := 2) (st' := (6, [(0, .ref a0), (1, .int 0), (2, .int x1.1)], [], x1.2)) rfl ?_
  obtain ⟨o10, eo10, h⟩ := Option.bind_eq_some_iff.mp h
  refine dl_m_givesWay_5 _ a0 0 x1.1 x1.2 _ eo10 r ?_
  refine tb_Es (k := 1) (st' := (45, [(1, .int o10.1)], [.int o10.1], o10.2)) rfl ?_
  cases h
  subst hr
  exact tb_Er rfl rfl
