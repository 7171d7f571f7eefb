/-! TannerBunting.down(I)I -/
def fb_x_down (a0 : Nat) (a1 : Int32) (w : tb_Hp) : Option (Int32 × tb_Hp) := (tb_gN 21 5 a0 w).bind fun p1 => (tb_on 15 p1 w (fb_sc_isEmpty p1 w)).bind fun x2 => (if x2.1 = 0 then (fb_x_within a1 0 1 x2.2).bind fun x3 => (if x3.1 = 0 then some (-1, x3.2) else (tb_gN 21 9 a0 x3.2).bind fun p4 => (tb_gN 21 5 a0 x3.2).bind fun p5 => (tb_gN 15 0 p5 x3.2).bind fun p6 => (tb_gN 21 5 a0 x3.2).bind fun p7 => (tb_gN 15 0 p7 x3.2).bind fun p8 => (tb_gI 17 5 p8 x3.2).bind fun x9 => (tb_on 10 p4 x3.2 (fb_h_fewestCut p4 p6 x9 x3.2)).bind fun x10 => (fb_x_ofSet x10.1 a1 x10.2).bind fun x11 => some (x11.1, x11.2)) else some (-1, x2.2))
set_option maxHeartbeats 4000000 in
set_option maxRecDepth 20000 in
theorem dc_x_down {a0 : Nat} {a1 : Int32} {w : tb_Hp} {o : Int32 × tb_Hp} (h : fb_x_down a0 a1 w = some o) : tb_Ev tb_P 6 115 (0, tb_ent [.ref a0, .int a1], [], w) (some (.int o.1), o.2) := by
  unfold fb_x_down at h
  obtain ⟨r, hr⟩ : ∃ r : Option Value × tb_Hp, r = (some (.int o.1), o.2) := ⟨_, rfl⟩
  rw [← hr]
  show tb_Ev tb_P 6 115 (0, [(0, .ref a0), (1, .int a1)], [], w) r
  refine tb_Es (k := 1) (st' := (1, [(0, .ref a0), (1, .int a1)], [.ref a0], w)) rfl ?_
  replace h := Option.bind_eq_some_iff.mp h
  obtain ⟨p1, ep1, h⟩ := h
  refine tb_e_gN rfl ep1 ?_
  replace h := Option.bind_eq_some_iff.mp h
  obtain ⟨x2, ex2, h⟩ := h
  obtain ⟨hkx2, hcall⟩ := tb_on_some ex2
  refine tb_e_cv (v := some (.int x2.1)) rfl (Or.inl ⟨_, rfl⟩) rfl rfl (Nat.le_of_ble_eq_true rfl) rfl (Nat.le_of_ble_eq_true rfl) hkx2 ((dc_sc_isEmpty hcall).up (by decide)) ?_
  refine tb_b_ine rfl (fun hc => ?_) (fun hc => ?_)
  · rw [if_pos hc] at h
    refine tb_Es (k := 3) (st' := (7, [(0, .ref a0), (1, .int a1)], [.int 1, .int 0, .int a1], x2.2)) rfl ?_
    replace h := Option.bind_eq_some_iff.mp h
    obtain ⟨x3, ex3, h⟩ := h
    have hcall := ex3
    refine tb_e_cs (v := some (.int x3.1)) rfl rfl rfl (Nat.le_of_ble_eq_true rfl) rfl (Nat.le_of_ble_eq_true rfl) ((dc_x_within hcall).up (by decide)) ?_
    refine tb_b_ine rfl (fun hc => ?_) (fun hc => ?_)
    · rw [if_pos hc] at h
      refine tb_Es (k := 1) (st' := (10, [(0, .ref a0), (1, .int a1)], [.int (-1)], x3.2)) rfl ?_
      obtain rfl := Option.some.inj h
      subst hr
      exact tb_Er rfl rfl
    · rw [if_neg hc] at h
      refine tb_Es (k := 1) (st' := (12, [(0, .ref a0), (1, .int a1)], [.ref a0], x3.2)) rfl ?_
      replace h := Option.bind_eq_some_iff.mp h
      obtain ⟨p4, ep4, h⟩ := h
      refine tb_e_gN rfl ep4 ?_
      refine tb_Es (k := 1) (st' := (14, [(0, .ref a0), (1, .int a1)], [.ref a0, .ref p4], x3.2)) rfl ?_
      replace h := Option.bind_eq_some_iff.mp h
      obtain ⟨p5, ep5, h⟩ := h
      refine tb_e_gN rfl ep5 ?_
      replace h := Option.bind_eq_some_iff.mp h
      obtain ⟨p6, ep6, h⟩ := h
      refine tb_e_gN rfl ep6 ?_
      refine tb_Es (k := 1) (st' := (17, [(0, .ref a0), (1, .int a1)], [.ref a0, .ref p6, .ref p4], x3.2)) rfl ?_
      replace h := Option.bind_eq_some_iff.mp h
      obtain ⟨p7, ep7, h⟩ := h
      refine tb_e_gN rfl ep7 ?_
      replace h := Option.bind_eq_some_iff.mp h
      obtain ⟨p8, ep8, h⟩ := h
      refine tb_e_gN rfl ep8 ?_
      replace h := Option.bind_eq_some_iff.mp h
      obtain ⟨x9, ex9, h⟩ := h
      refine tb_e_gI rfl ex9 ?_
      replace h := Option.bind_eq_some_iff.mp h
      obtain ⟨x10, ex10, h⟩ := h
      obtain ⟨hkx10, hcall⟩ := tb_on_some ex10
      refine tb_e_cv (v := some (.int x10.1)) rfl (Or.inl ⟨_, rfl⟩) rfl rfl (Nat.le_of_ble_eq_true rfl) rfl (Nat.le_of_ble_eq_true rfl) hkx10 ((dc_h_fewestCut hcall).up (by decide)) ?_
      refine tb_Es (k := 1) (st' := (22, [(0, .ref a0), (1, .int a1)], [.int a1, .int x10.1], x10.2)) rfl ?_
      replace h := Option.bind_eq_some_iff.mp h
      obtain ⟨x11, ex11, h⟩ := h
      have hcall := ex11
      refine tb_e_cs (v := some (.int x11.1)) rfl rfl rfl (Nat.le_of_ble_eq_true rfl) rfl (Nat.le_of_ble_eq_true rfl) ((dc_x_ofSet hcall).up (by decide)) ?_
      obtain rfl := Option.some.inj h
      subst hr
      exact tb_Er rfl rfl
  · rw [if_neg hc] at h
    refine tb_Es (k := 1) (st' := (10, [(0, .ref a0), (1, .int a1)], [.int (-1)], x2.2)) rfl ?_
    obtain rfl := Option.some.inj h
    subst hr
    exact tb_Er rfl rfl
/-! TannerBunting.byThese(I)I -/
def fb_x_byThese (a0 : Nat) (a1 : Int32) (w : tb_Hp) : Option (Int32 × tb_Hp) := (tb_gN 21 5 a0 w).bind fun p1 => (tb_on 15 p1 w (fb_sc_isEmpty p1 w)).bind fun x2 => (if x2.1 = 0 then (fb_x_within a1 0 1 x2.2).bind fun x3 => (if x3.1 = 0 then some (-1, x3.2) else (tb_gN 21 9 a0 x3.2).bind fun p4 => (tb_gN 21 5 a0 x3.2).bind fun p5 => (tb_gN 15 0 p5 x3.2).bind fun p6 => (tb_on 10 p4 x3.2 (fb_h_fewestKept p4 p6 x3.2)).bind fun x7 => (fb_x_ofSet x7.1 a1 x7.2).bind fun x8 => some (x8.1, x8.2)) else some (-1, x2.2))
set_option maxHeartbeats 4000000 in
set_option maxRecDepth 20000 in
theorem dc_x_byThese {a0 : Nat} {a1 : Int32} {w : tb_Hp} {o : Int32 × tb_Hp} (h : fb_x_byThese a0 a1 w = some o) : tb_Ev tb_P 6 116 (0, tb_ent [.ref a0, .int a1], [], w) (some (.int o.1), o.2) := by
  unfold fb_x_byThese at h
  obtain ⟨r, hr⟩ : ∃ r : Option Value × tb_Hp, r = (some (.int o.1), o.2) := ⟨_, rfl⟩
  rw [← hr]
  show tb_Ev tb_P 6 116 (0, [(0, .ref a0), (1, .int a1)], [], w) r
  refine tb_Es (k := 1) (st' := (1, [(0, .ref a0), (1, .int a1)], [.ref a0], w)) rfl ?_
  replace h := Option.bind_eq_some_iff.mp h
  obtain ⟨p1, ep1, h⟩ := h
  refine tb_e_gN rfl ep1 ?_
  replace h := Option.bind_eq_some_iff.mp h
  obtain ⟨x2, ex2, h⟩ := h
  obtain ⟨hkx2, hcall⟩ := tb_on_some ex2
  refine tb_e_cv (v := some (.int x2.1)) rfl (Or.inl ⟨_, rfl⟩) rfl rfl (Nat.le_of_ble_eq_true rfl) rfl (Nat.le_of_ble_eq_true rfl) hkx2 ((dc_sc_isEmpty hcall).up (by decide)) ?_
  refine tb_b_ine rfl (fun hc => ?_) (fun hc => ?_)
  · rw [if_pos hc] at h
    refine tb_Es (k := 3) (st' := (7, [(0, .ref a0), (1, .int a1)], [.int 1, .int 0, .int a1], x2.2)) rfl ?_
    replace h := Option.bind_eq_some_iff.mp h
    obtain ⟨x3, ex3, h⟩ := h
    have hcall := ex3
    refine tb_e_cs (v := some (.int x3.1)) rfl rfl rfl (Nat.le_of_ble_eq_true rfl) rfl (Nat.le_of_ble_eq_true rfl) ((dc_x_within hcall).up (by decide)) ?_
    refine tb_b_ine rfl (fun hc => ?_) (fun hc => ?_)
    · rw [if_pos hc] at h
      refine tb_Es (k := 1) (st' := (10, [(0, .ref a0), (1, .int a1)], [.int (-1)], x3.2)) rfl ?_
      obtain rfl := Option.some.inj h
      subst hr
      exact tb_Er rfl rfl
    · rw [if_neg hc] at h
      refine tb_Es (k := 1) (st' := (12, [(0, .ref a0), (1, .int a1)], [.ref a0], x3.2)) rfl ?_
      replace h := Option.bind_eq_some_iff.mp h
      obtain ⟨p4, ep4, h⟩ := h
      refine tb_e_gN rfl ep4 ?_
      refine tb_Es (k := 1) (st' := (14, [(0, .ref a0), (1, .int a1)], [.ref a0, .ref p4], x3.2)) rfl ?_
      replace h := Option.bind_eq_some_iff.mp h
      obtain ⟨p5, ep5, h⟩ := h
      refine tb_e_gN rfl ep5 ?_
      replace h := Option.bind_eq_some_iff.mp h
      obtain ⟨p6, ep6, h⟩ := h
      refine tb_e_gN rfl ep6 ?_
      replace h := Option.bind_eq_some_iff.mp h
      obtain ⟨x7, ex7, h⟩ := h
      obtain ⟨hkx7, hcall⟩ := tb_on_some ex7
      refine tb_e_cv (v := some (.int x7.1)) rfl (Or.inl ⟨_, rfl⟩) rfl rfl (Nat.le_of_ble_eq_true rfl) rfl (Nat.le_of_ble_eq_true rfl) hkx7 ((dc_h_fewestKept hcall).up (by decide)) ?_
      refine tb_Es (k := 1) (st' := (18, [(0, .ref a0), (1, .int a1)], [.int a1, .int x7.1], x7.2)) rfl ?_
      replace h := Option.bind_eq_some_iff.mp h
      obtain ⟨x8, ex8, h⟩ := h
      have hcall := ex8
      refine tb_e_cs (v := some (.int x8.1)) rfl rfl rfl (Nat.le_of_ble_eq_true rfl) rfl (Nat.le_of_ble_eq_true rfl) ((dc_x_ofSet hcall).up (by decide)) ?_
      obtain rfl := Option.some.inj h
      subst hr
      exact tb_Er rfl rfl
  · rw [if_neg hc] at h
    refine tb_Es (k := 1) (st' := (10, [(0, .ref a0), (1, .int a1)], [.int (-1)], x2.2)) rfl ?_
    obtain rfl := Option.some.inj h
    subst hr
    exact tb_Er rfl rfl
/-! TannerBunting$Years.leastProp(LTannerBunting$Street;[III)I -/
def fj_yr_leastProp_j26 (k : Nat → Nat → (Option Nat) → Int32 → Int32 → Int32 → tb_Hp → Option (Int32 × tb_Hp)) (v5 : Int32) (w : tb_Hp) : Option (Int32 × tb_Hp) := some ((v5, w))
set_option maxHeartbeats 4000000 in
set_option maxRecDepth 20000 in
theorem dj_yr_leastProp_j26 (k : Nat → Nat → (Option Nat) → Int32 → Int32 → Int32 → tb_Hp → Option (Int32 × tb_Hp)) (v5 : Int32) (w : tb_Hp) (o : Int32 × tb_Hp) (h : fj_yr_leastProp_j26 k v5 w = some o) (r : Option Value × tb_Hp) (hx : r = (some (.int o.1), o.2)) (hk : ∀ (v0 : Nat) (v1 : Nat) (v2 : Option Nat) (v3 : Int32) (v4 : Int32) (v5 : Int32) (w : tb_Hp), k v0 v1 v2 v3 v4 v5 w = some o → tb_Ev tb_P 6 125 (3, [(0, .ref v0), (1, .ref v1), (2, va_rf v2), (3, .int v3), (4, .int v4), (5, .int v5)], [], w) r) : tb_Ev tb_P 6 125 (28, [(5, .int v5)], [], w) r := by
  unfold fj_yr_leastProp_j26 at h
  refine tb_Es (k := 1) (st' := (29, [(5, .int v5)], [.int v5], w)) rfl ?_
  obtain rfl := Option.some.inj h
  replace hx : r = _ := hx
  subst hx
  exact tb_Er rfl rfl
def fj_yr_leastProp_j30 (k : Nat → Nat → (Option Nat) → Int32 → Int32 → Int32 → tb_Hp → Option (Int32 × tb_Hp)) (w : tb_Hp) : Option (Int32 × tb_Hp) := some ((-1, w))
set_option maxHeartbeats 4000000 in
set_option maxRecDepth 20000 in
theorem dj_yr_leastProp_j30 (k : Nat → Nat → (Option Nat) → Int32 → Int32 → Int32 → tb_Hp → Option (Int32 × tb_Hp)) (w : tb_Hp) (o : Int32 × tb_Hp) (h : fj_yr_leastProp_j30 k  w = some o) (r : Option Value × tb_Hp) (hx : r = (some (.int o.1), o.2)) (hk : ∀ (v0 : Nat) (v1 : Nat) (v2 : Option Nat) (v3 : Int32) (v4 : Int32) (v5 : Int32) (w : tb_Hp), k v0 v1 v2 v3 v4 v5 w = some o → tb_Ev tb_P 6 125 (3, [(0, .ref v0), (1, .ref v1), (2, va_rf v2), (3, .int v3), (4, .int v4), (5, .int v5)], [], w) r) : tb_Ev tb_P 6 125 (33, [], [], w) r := by
  unfold fj_yr_leastProp_j30 at h
  refine tb_Es (k := 1) (st' := (34, [], [.int (-1)], w)) rfl ?_
  obtain rfl := Option.some.inj h
  replace hx : r = _ := hx
  subst hx
  exact tb_Er rfl rfl
def fl_yr_leastProp_2 : Nat → Nat → Nat → (Option Nat) → Int32 → Int32 → Int32 → tb_Hp → Option (Int32 × tb_Hp)
  | 0, _, _, _, _, _, _, _ => none
  | n + 1, v0, v1, v2, v3, v4, v5, w => (if v5 ≤ 60 then (tb_on 20 v0 w (fb_yr_begin v0 v1 w)).bind fun x1 => (tb_gN 20 0 v0 x1).bind fun p2 => (tb_on 17 v1 x1 (fb_s_footOf v1 v3 x1)).bind fun x3 => (tb_on 17 p2 x3.2 (fb_s_setFoot p2 v3 (x3.1 + v5) x3.2)).bind fun x4 => (tb_on 20 v0 x4 (fb_yr_goOn v0 v2 v4 x4)).bind fun x5 => (tb_gN 20 0 v0 x5).bind fun p6 => (tb_on 17 p6 x5 (fb_s_stands p6 v3 x5)).bind fun x7 => (if x7.1 = 0 then fl_yr_leastProp_2 n v0 v1 v2 v3 v4 (v5 + 1) x7.2 else fj_yr_leastProp_j26 (fl_yr_leastProp_2 n) v5 x7.2) else fj_yr_leastProp_j30 (fl_yr_leastProp_2 n)  w)
set_option maxHeartbeats 4000000 in
set_option maxRecDepth 20000 in
theorem dl_yr_leastProp_2 : ∀ (n : Nat) (v0 : Nat) (v1 : Nat) (v2 : Option Nat) (v3 : Int32) (v4 : Int32) (v5 : Int32) (w : tb_Hp) (o : Int32 × tb_Hp), fl_yr_leastProp_2 n v0 v1 v2 v3 v4 v5 w = some o → ∀ (r : Option Value × tb_Hp), r = (some (.int o.1), o.2) → tb_Ev tb_P 6 125 (3, [(0, .ref v0), (1, .ref v1), (2, va_rf v2), (3, .int v3), (4, .int v4), (5, .int v5)], [], w) r := by
  intro n
  induction n with
  | zero =>
    intro v0 v1 v2 v3 v4 v5 w o h
    cases h
  | succ n ih =>
    intro v0 v1 v2 v3 v4 v5 w o h r hx
    unfold fl_yr_leastProp_2 at h
    refine tb_Es (k := 2) (st' := (5, [(0, .ref v0), (1, .ref v1), (2, va_rf v2), (3, .int v3), (4, .int v4), (5, .int v5)], [.int 60, .int v5], w)) rfl ?_
    refine tb_b_cgt rfl (fun hc => ?_) (fun hc => ?_)
    · rw [if_pos hc] at h
      refine tb_Es (k := 2) (st' := (8, [(0, .ref v0), (1, .ref v1), (2, va_rf v2), (3, .int v3), (4, .int v4), (5, .int v5)], [.ref v1, .ref v0], w)) rfl ?_
      replace h := Option.bind_eq_some_iff.mp h
      obtain ⟨x1, ex1, h⟩ := h
      obtain ⟨hkx1, hcall⟩ := tb_on_some ex1
      refine tb_e_cv (v := none) rfl (Or.inl ⟨_, rfl⟩) rfl rfl (Nat.le_of_ble_eq_true rfl) rfl (Nat.le_of_ble_eq_true rfl) hkx1 ((dc_yr_begin hcall).up (by decide)) ?_
      refine tb_Es (k := 1) (st' := (10, [(0, .ref v0), (1, .ref v1), (2, va_rf v2), (3, .int v3), (4, .int v4), (5, .int v5)], [.ref v0], x1)) rfl ?_
      replace h := Option.bind_eq_some_iff.mp h
      obtain ⟨p2, ep2, h⟩ := h
      refine tb_e_gN rfl ep2 ?_
      refine tb_Es (k := 3) (st' := (14, [(0, .ref v0), (1, .ref v1), (2, va_rf v2), (3, .int v3), (4, .int v4), (5, .int v5)], [.int v3, .ref v1, .int v3, .ref p2], x1)) rfl ?_
      replace h := Option.bind_eq_some_iff.mp h
      obtain ⟨x3, ex3, h⟩ := h
      obtain ⟨hkx3, hcall⟩ := tb_on_some ex3
      refine tb_e_cv (v := some (.int x3.1)) rfl (Or.inl ⟨_, rfl⟩) rfl rfl (Nat.le_of_ble_eq_true rfl) rfl (Nat.le_of_ble_eq_true rfl) hkx3 ((dc_s_footOf hcall).up (by decide)) ?_
      refine tb_Es (k := 2) (st' := (17, [(0, .ref v0), (1, .ref v1), (2, va_rf v2), (3, .int v3), (4, .int v4), (5, .int v5)], [.int (x3.1 + v5), .int v3, .ref p2], x3.2)) rfl ?_
      replace h := Option.bind_eq_some_iff.mp h
      obtain ⟨x4, ex4, h⟩ := h
      obtain ⟨hkx4, hcall⟩ := tb_on_some ex4
      refine tb_e_cv (v := none) rfl (Or.inl ⟨_, rfl⟩) rfl rfl (Nat.le_of_ble_eq_true rfl) rfl (Nat.le_of_ble_eq_true rfl) hkx4 ((dc_s_setFoot hcall).up (by decide)) ?_
      refine tb_Es (k := 1) (st' := (19, [(0, .ref v0), (1, .ref v1), (2, va_rf v2), (3, .int v3), (4, .int v4), (5, .int v5)], [.ref v0], x4)) rfl ?_
      refine tb_q_aload (k := 2) rfl (Or.inr ⟨_, rfl, rfl⟩) rfl ?_
      refine tb_Es (k := 1) (st' := (21, [(0, .ref v0), (1, .ref v1), (2, va_rf v2), (3, .int v3), (4, .int v4), (5, .int v5)], [.int v4, va_rf v2, .ref v0], x4)) rfl ?_
      replace h := Option.bind_eq_some_iff.mp h
      obtain ⟨x5, ex5, h⟩ := h
      obtain ⟨hkx5, hcall⟩ := tb_on_some ex5
      refine tb_e_cv (as := [va_rf v2, .int v4]) (v := none) rfl (Or.inl ⟨_, rfl⟩) rfl rfl (Nat.le_of_ble_eq_true rfl) rfl (by simp only [List.map_cons, List.map_nil, List.sum_cons, List.sum_nil, tb_catq, tb_cR, tb_cI, tb_cJ, tb_cT]; exact Nat.le_of_ble_eq_true rfl) hkx5 ((dc_yr_goOn hcall).up (by decide)) ?_
      refine tb_Es (k := 1) (st' := (23, [(0, .ref v0), (1, .ref v1), (2, va_rf v2), (3, .int v3), (4, .int v4), (5, .int v5)], [.ref v0], x5)) rfl ?_
      replace h := Option.bind_eq_some_iff.mp h
      obtain ⟨p6, ep6, h⟩ := h
      refine tb_e_gN rfl ep6 ?_
      refine tb_Es (k := 1) (st' := (25, [(0, .ref v0), (1, .ref v1), (2, va_rf v2), (3, .int v3), (4, .int v4), (5, .int v5)], [.int v3, .ref p6], x5)) rfl ?_
      replace h := Option.bind_eq_some_iff.mp h
      obtain ⟨x7, ex7, h⟩ := h
      obtain ⟨hkx7, hcall⟩ := tb_on_some ex7
      refine tb_e_cv (v := some (.int x7.1)) rfl (Or.inl ⟨_, rfl⟩) rfl rfl (Nat.le_of_ble_eq_true rfl) rfl (Nat.le_of_ble_eq_true rfl) hkx7 ((dc_s_stands hcall).up (by decide)) ?_
      refine tb_b_ieq rfl (fun hc => ?_) (fun hc => ?_)
      · rw [if_pos hc] at h
        refine tb_Es (k := 3) (st' := (3, [(0, .ref v0), (1, .ref v1), (2, va_rf v2), (3, .int v3), (4, .int v4), (5, .int (v5 + 1))], [], x7.2)) rfl ?_
        exact ih v0 v1 v2 v3 v4 (v5 + 1) x7.2 _ h r hx
      · rw [if_neg hc] at h
        refine tb_Es (k := 1) (st' := (28, [(5, .int v5)], [], x7.2)) rfl ?_
        exact dj_yr_leastProp_j26 (fl_yr_leastProp_2 n) v5 x7.2 _ h r hx (fun v0_ v1_ v2_ v3_ v4_ v5_ w_ h_ => ih v0_ v1_ v2_ v3_ v4_ v5_ w_ _ h_ r hx)
    · rw [if_neg hc] at h
      refine tb_Es (k := 1) (st' := (33, [], [], w)) rfl ?_
      exact dj_yr_leastProp_j30 (fl_yr_leastProp_2 n)  w _ h r hx (fun v0_ v1_ v2_ v3_ v4_ v5_ w_ h_ => ih v0_ v1_ v2_ v3_ v4_ v5_ w_ _ h_ r hx)
def fb_yr_leastProp (a0 : Nat) (a1 : Nat) (a2 : Option Nat) (a3 : Int32) (a4 : Int32) (w : tb_Hp) : Option (Int32 × tb_Hp) := (fl_yr_leastProp_2 1048576 a0 a1 a2 a3 a4 0 w).bind fun o8 => some o8
set_option maxHeartbeats 4000000 in
set_option maxRecDepth 20000 in
theorem dc_yr_leastProp {a0 : Nat} {a1 : Nat} {a2 : Option Nat} {a3 : Int32} {a4 : Int32} {w : tb_Hp} {o : Int32 × tb_Hp} (h : fb_yr_leastProp a0 a1 a2 a3 a4 w = some o) : tb_Ev tb_P 6 125 (0, tb_ent [.ref a0, .ref a1, va_rf a2, .int a3, .int a4], [], w) (some (.int o.1), o.2) := by
  unfold fb_yr_leastProp at h
  obtain ⟨r, hr⟩ : ∃ r : Option Value × tb_Hp, r = (some (.int o.1), o.2) := ⟨_, rfl⟩
  rw [← hr]
  rw [show tb_ent [.ref a0, .ref a1, va_rf a2, .int a3, .int a4] = [(0, .ref a0), (1, .ref a1), (2, va_rf a2), (3, .int a3), (4, .int a4)] by simp [tb_ent, lv_args, tb_catq, tb_cR, tb_cI, tb_cJ]]
  show tb_Ev tb_P 6 125 (0, [(0, .ref a0), (1, .ref a1), (2, va_rf a2), (3, .int a3), (4, .int a4)], [], w) r
  refine tb_Es (k := 3) (st' := (3, [(0, .ref a0), (1, .ref a1), (2, va_rf a2), (3, .int a3), (4, .int a4), (5, .int 0)], [], w)) rfl ?_
  replace h := Option.bind_eq_some_iff.mp h
  obtain ⟨o8, eo8, h⟩ := h
  refine dl_yr_leastProp_2 _ a0 a1 a2 a3 a4 0 w _ eo8 r ?_
  obtain rfl := Option.some.inj h
  exact hr
/-! TannerBunting.marry(I)I -/
def fb_x_marry (a0 : Nat) (a1 : Int32) (w : tb_Hp) : Option (Int32 × tb_Hp) := (tb_gN 21 5 a0 w).bind fun p1 => (tb_on 15 p1 w (fb_sc_isEmpty p1 w)).bind fun x2 => (if x2.1 = 0 then (fb_x_within a1 (-1) 4 x2.2).bind fun x3 => (if x3.1 = 0 then some (-3, x3.2) else (tb_gN 21 5 a0 x3.2).bind fun p4 => (tb_gN 15 0 p4 x3.2).bind fun p5 => (tb_gI 17 0 p5 x3.2).bind fun x6 => (if a1 < x6 then (tb_gN 21 9 a0 x3.2).bind fun p7 => (tb_gN 21 5 a0 x3.2).bind fun p8 => (tb_gN 15 0 p8 x3.2).bind fun p9 => (tb_on 10 p7 x3.2 (fb_h_marryAll p7 p9 x3.2)).bind fun x10 => (if a1 = (-1) then some (x10.1, x10.2) else (tb_gN 21 9 a0 x10.2).bind fun p11 => (tb_on 10 p11 x10.2 (fb_h_partnerOf p11 a1 x10.2)).bind fun x12 => some (x12.1, x12.2)) else some (-2, x3.2))) else some (-3, x2.2))
set_option maxHeartbeats 4000000 in
set_option maxRecDepth 20000 in
theorem dc_x_marry {a0 : Nat} {a1 : Int32} {w : tb_Hp} {o : Int32 × tb_Hp} (h : fb_x_marry a0 a1 w = some o) : tb_Ev tb_P 6 126 (0, tb_ent [.ref a0, .int a1], [], w) (some (.int o.1), o.2) := by
  unfold fb_x_marry at h
  obtain ⟨r, hr⟩ : ∃ r : Option Value × tb_Hp, r = (some (.int o.1), o.2) := ⟨_, rfl⟩
  rw [← hr]
  show tb_Ev tb_P 6 126 (0, [(0, .ref a0), (1, .int a1)], [], w) r
  refine tb_Es (k := 1) (st' := (1, [(0, .ref a0), (1, .int a1)], [.ref a0], w)) rfl ?_
  replace h := Option.bind_eq_some_iff.mp h
  obtain ⟨p1, ep1, h⟩ := h
  refine tb_e_gN rfl ep1 ?_
  replace h := Option.bind_eq_some_iff.mp h
  obtain ⟨x2, ex2, h⟩ := h
  obtain ⟨hkx2, hcall⟩ := tb_on_some ex2
  refine tb_e_cv (v := some (.int x2.1)) rfl (Or.inl ⟨_, rfl⟩) rfl rfl (Nat.le_of_ble_eq_true rfl) rfl (Nat.le_of_ble_eq_true rfl) hkx2 ((dc_sc_isEmpty hcall).up (by decide)) ?_
  refine tb_b_ine rfl (fun hc => ?_) (fun hc => ?_)
  · rw [if_pos hc] at h
    refine tb_Es (k := 3) (st' := (7, [(0, .ref a0), (1, .int a1)], [.int 4, .int (-1), .int a1], x2.2)) rfl ?_
    replace h := Option.bind_eq_some_iff.mp h
    obtain ⟨x3, ex3, h⟩ := h
    have hcall := ex3
    refine tb_e_cs (v := some (.int x3.1)) rfl rfl rfl (Nat.le_of_ble_eq_true rfl) rfl (Nat.le_of_ble_eq_true rfl) ((dc_x_within hcall).up (by decide)) ?_
    refine tb_b_ine rfl (fun hc => ?_) (fun hc => ?_)
    · rw [if_pos hc] at h
      refine tb_Es (k := 1) (st' := (10, [(0, .ref a0), (1, .int a1)], [.int (-3)], x3.2)) rfl ?_
      obtain rfl := Option.some.inj h
      subst hr
      exact tb_Er rfl rfl
    · rw [if_neg hc] at h
      refine tb_Es (k := 2) (st' := (13, [(0, .ref a0), (1, .int a1)], [.ref a0, .int a1], x3.2)) rfl ?_
      replace h := Option.bind_eq_some_iff.mp h
      obtain ⟨p4, ep4, h⟩ := h
      refine tb_e_gN rfl ep4 ?_
      replace h := Option.bind_eq_some_iff.mp h
      obtain ⟨p5, ep5, h⟩ := h
      refine tb_e_gN rfl ep5 ?_
      replace h := Option.bind_eq_some_iff.mp h
      obtain ⟨x6, ex6, h⟩ := h
      refine tb_e_gI rfl ex6 ?_
      refine tb_b_clt rfl (fun hc => ?_) (fun hc => ?_)
      · rw [if_pos hc] at h
        refine tb_Es (k := 1) (st' := (20, [(0, .ref a0), (1, .int a1)], [.ref a0], x3.2)) rfl ?_
        replace h := Option.bind_eq_some_iff.mp h
        obtain ⟨p7, ep7, h⟩ := h
        refine tb_e_gN rfl ep7 ?_
        refine tb_Es (k := 1) (st' := (22, [(0, .ref a0), (1, .int a1)], [.ref a0, .ref p7], x3.2)) rfl ?_
        replace h := Option.bind_eq_some_iff.mp h
        obtain ⟨p8, ep8, h⟩ := h
        refine tb_e_gN rfl ep8 ?_
        replace h := Option.bind_eq_some_iff.mp h
        obtain ⟨p9, ep9, h⟩ := h
        refine tb_e_gN rfl ep9 ?_
        replace h := Option.bind_eq_some_iff.mp h
        obtain ⟨x10, ex10, h⟩ := h
        obtain ⟨hkx10, hcall⟩ := tb_on_some ex10
        refine tb_e_cv (v := some (.int x10.1)) rfl (Or.inl ⟨_, rfl⟩) rfl rfl (Nat.le_of_ble_eq_true rfl) rfl (Nat.le_of_ble_eq_true rfl) hkx10 ((dc_h_marryAll hcall).up (by decide)) ?_
        refine tb_Es (k := 3) (st' := (28, [(2, .int x10.1), (0, .ref a0), (1, .int a1)], [.int (-1), .int a1], x10.2)) rfl ?_
        refine tb_b_cne rfl (fun hc => ?_) (fun hc => ?_)
        · rw [if_pos hc] at h
          refine tb_Es (k := 2) (st' := (35, [(2, .int x10.1), (0, .ref a0), (1, .int a1)], [.int x10.1], x10.2)) rfl ?_
          obtain rfl := Option.some.inj h
          subst hr
          exact tb_Er rfl rfl
        · rw [if_neg hc] at h
          refine tb_Es (k := 1) (st' := (32, [(2, .int x10.1), (0, .ref a0), (1, .int a1)], [.ref a0], x10.2)) rfl ?_
          replace h := Option.bind_eq_some_iff.mp h
          obtain ⟨p11, ep11, h⟩ := h
          refine tb_e_gN rfl ep11 ?_
          refine tb_Es (k := 1) (st' := (34, [(2, .int x10.1), (0, .ref a0), (1, .int a1)], [.int a1, .ref p11], x10.2)) rfl ?_
          replace h := Option.bind_eq_some_iff.mp h
          obtain ⟨x12, ex12, h⟩ := h
          obtain ⟨hkx12, hcall⟩ := tb_on_some ex12
          refine tb_e_cv (v := some (.int x12.1)) rfl (Or.inl ⟨_, rfl⟩) rfl rfl (Nat.le_of_ble_eq_true rfl) rfl (Nat.le_of_ble_eq_true rfl) hkx12 ((dc_h_partnerOf hcall).up (by decide)) ?_
          obtain rfl := Option.some.inj h
          subst hr
          exact tb_Er rfl rfl
      · rw [if_neg hc] at h
        refine tb_Es (k := 1) (st' := (18, [(0, .ref a0), (1, .int a1)], [.int (-2)], x3.2)) rfl ?_
        obtain rfl := Option.some.inj h
        subst hr
        exact tb_Er rfl rfl
  · rw [if_neg hc] at h
    refine tb_Es (k := 1) (st' := (10, [(0, .ref a0), (1, .int a1)], [.int (-3)], x2.2)) rfl ?_
    obtain rfl := Option.some.inj h
    subst hr
    exact tb_Er rfl rfl
/-! TannerBunting$Years.findNewLine(LTannerBunting$Street;[III)V -/
def fl_yr_findNewLine_35 : Nat → Nat → Nat → (Option Nat) → Int32 → Int32 → Int32 → Int32 → Int32 → tb_Hp → Option (Nat × Nat × (Option Nat) × Int32 × Int32 × Int32 × Int32 × tb_Hp)
  | 0, _, _, _, _, _, _, _, _, _ => none
  | n + 1, v0, v1, v2, v3, v4, v5, v6, v7, w => (tb_on 17 v1 w (fb_s_houses v1 w)).bind fun x12 => (if v7 < x12.1 then (tb_on 17 v1 x12.2 (fb_s_canJoin v1 v6 v7 x12.2)).bind fun x13 => (if x13.1 = 0 then fl_yr_findNewLine_35 n v0 v1 v2 v3 v4 v5 v6 (v7 + 1) x13.2 else (tb_on 20 v0 x13.2 (fb_yr_begin v0 v1 x13.2)).bind fun x14 => (tb_gN 20 0 v0 x14).bind fun p15 => (tb_on 17 p15 x14 (fb_s_putUp p15 v5 v6 v7 v3 x14)).bind fun x16 => (tb_on 20 v0 x16 (fb_yr_goOn v0 v2 v4 x16)).bind fun x17 => (tb_gN 20 0 v0 x17).bind fun p18 => (tb_gI 17 5 p18 x17).bind fun x19 => (fb_in_bitCount x19 x17).bind fun x20 => (tb_on 20 v0 x20.2 (fb_yr_takeIfMore v0 x20.1 v6 v7 x20.2)).bind fun x21 => fl_yr_findNewLine_35 n v0 v1 v2 v3 v4 v5 v6 (v7 + 1) x21) else some ((v0, v1, v2, v3, v4, v5, v6, x12.2)))
set_option maxHeartbeats 4000000 in
set_option maxRecDepth 20000 in
theorem dl_yr_findNewLine_35 : ∀ (n : Nat) (v0 : Nat) (v1 : Nat) (v2 : Option Nat) (v3 : Int32) (v4 : Int32) (v5 : Int32) (v6 : Int32) (v7 : Int32) (w : tb_Hp) (o : Nat × Nat × (Option Nat) × Int32 × Int32 × Int32 × Int32 × tb_Hp), fl_yr_findNewLine_35 n v0 v1 v2 v3 v4 v5 v6 v7 w = some o → ∀ (r : Option Value × tb_Hp), tb_Ev tb_P 6 135 (71, [(0, .ref o.1), (1, .ref o.2.1), (2, va_rf o.2.2.1), (3, .int o.2.2.2.1), (4, .int o.2.2.2.2.1), (5, .int o.2.2.2.2.2.1), (6, .int o.2.2.2.2.2.2.1)], [], o.2.2.2.2.2.2.2) r → tb_Ev tb_P 6 135 (37, [(0, .ref v0), (1, .ref v1), (2, va_rf v2), (3, .int v3), (4, .int v4), (5, .int v5), (6, .int v6), (7, .int v7)], [], w) r := by
  intro n
  induction n with
  | zero =>
    intro v0 v1 v2 v3 v4 v5 v6 v7 w o h
    cases h
  | succ n ih =>
    intro v0 v1 v2 v3 v4 v5 v6 v7 w o h r hx
    unfold fl_yr_findNewLine_35 at h
    refine tb_Es (k := 2) (st' := (39, [(0, .ref v0), (1, .ref v1), (2, va_rf v2), (3, .int v3), (4, .int v4), (5, .int v5), (6, .int v6), (7, .int v7)], [.ref v1, .int v7], w)) rfl ?_
    replace h := Option.bind_eq_some_iff.mp h
    obtain ⟨x12, ex12, h⟩ := h
    obtain ⟨hkx12, hcall⟩ := tb_on_some ex12
    refine tb_e_cv (v := some (.int x12.1)) rfl (Or.inl ⟨_, rfl⟩) rfl rfl (Nat.le_of_ble_eq_true rfl) rfl (Nat.le_of_ble_eq_true rfl) hkx12 ((dc_s_houses hcall).up (by decide)) ?_
    refine tb_b_cge rfl (fun hc => ?_) (fun hc => ?_)
    · rw [if_pos hc] at h
      refine tb_Es (k := 3) (st' := (44, [(0, .ref v0), (1, .ref v1), (2, va_rf v2), (3, .int v3), (4, .int v4), (5, .int v5), (6, .int v6), (7, .int v7)], [.int v7, .int v6, .ref v1], x12.2)) rfl ?_
      replace h := Option.bind_eq_some_iff.mp h
      obtain ⟨x13, ex13, h⟩ := h
      obtain ⟨hkx13, hcall⟩ := tb_on_some ex13
      refine tb_e_cv (v := some (.int x13.1)) rfl (Or.inl ⟨_, rfl⟩) rfl rfl (Nat.le_of_ble_eq_true rfl) rfl (Nat.le_of_ble_eq_true rfl) hkx13 ((dc_s_canJoin hcall).up (by decide)) ?_
      refine tb_b_ieq rfl (fun hc => ?_) (fun hc => ?_)
      · rw [if_pos hc] at h
        refine tb_Es (k := 3) (st' := (37, [(0, .ref v0), (1, .ref v1), (2, va_rf v2), (3, .int v3), (4, .int v4), (5, .int v5), (6, .int v6), (7, .int (v7 + 1))], [], x13.2)) rfl ?_
        exact ih v0 v1 v2 v3 v4 v5 v6 (v7 + 1) x13.2 _ h r hx
      · rw [if_neg hc] at h
        refine tb_Es (k := 2) (st' := (48, [(0, .ref v0), (1, .ref v1), (2, va_rf v2), (3, .int v3), (4, .int v4), (5, .int v5), (6, .int v6), (7, .int v7)], [.ref v1, .ref v0], x13.2)) rfl ?_
        replace h := Option.bind_eq_some_iff.mp h
        obtain ⟨x14, ex14, h⟩ := h
        obtain ⟨hkx14, hcall⟩ := tb_on_some ex14
        refine tb_e_cv (v := none) rfl (Or.inl ⟨_, rfl⟩) rfl rfl (Nat.le_of_ble_eq_true rfl) rfl (Nat.le_of_ble_eq_true rfl) hkx14 ((dc_yr_begin hcall).up (by decide)) ?_
        refine tb_Es (k := 1) (st' := (50, [(0, .ref v0), (1, .ref v1), (2, va_rf v2), (3, .int v3), (4, .int v4), (5, .int v5), (6, .int v6), (7, .int v7)], [.ref v0], x14)) rfl ?_
        replace h := Option.bind_eq_some_iff.mp h
        obtain ⟨p15, ep15, h⟩ := h
        refine tb_e_gN rfl ep15 ?_
        refine tb_Es (k := 4) (st' := (55, [(0, .ref v0), (1, .ref v1), (2, va_rf v2), (3, .int v3), (4, .int v4), (5, .int v5), (6, .int v6), (7, .int v7)], [.int v3, .int v7, .int v6, .int v5, .ref p15], x14)) rfl ?_
        replace h := Option.bind_eq_some_iff.mp h
        obtain ⟨x16, ex16, h⟩ := h
        obtain ⟨hkx16, hcall⟩ := tb_on_some ex16
        refine tb_e_cv (v := none) rfl (Or.inl ⟨_, rfl⟩) rfl rfl (Nat.le_of_ble_eq_true rfl) rfl (Nat.le_of_ble_eq_true rfl) hkx16 ((dc_s_putUp hcall).up (by decide)) ?_
        refine tb_Es (k := 1) (st' := (57, [(0, .ref v0), (1, .ref v1), (2, va_rf v2), (3, .int v3), (4, .int v4), (5, .int v5), (6, .int v6), (7, .int v7)], [.ref v0], x16)) rfl ?_
        refine tb_q_aload (k := 2) rfl (Or.inr ⟨_, rfl, rfl⟩) rfl ?_
        refine tb_Es (k := 1) (st' := (59, [(0, .ref v0), (1, .ref v1), (2, va_rf v2), (3, .int v3), (4, .int v4), (5, .int v5), (6, .int v6), (7, .int v7)], [.int v4, va_rf v2, .ref v0], x16)) rfl ?_
        replace h := Option.bind_eq_some_iff.mp h
        obtain ⟨x17, ex17, h⟩ := h
        obtain ⟨hkx17, hcall⟩ := tb_on_some ex17
        refine tb_e_cv (as := [va_rf v2, .int v4]) (v := none) rfl (Or.inl ⟨_, rfl⟩) rfl rfl (Nat.le_of_ble_eq_true rfl) rfl (by simp only [List.map_cons, List.map_nil, List.sum_cons, List.sum_nil, tb_catq, tb_cR, tb_cI, tb_cJ, tb_cT]; exact Nat.le_of_ble_eq_true rfl) hkx17 ((dc_yr_goOn hcall).up (by decide)) ?_
        refine tb_Es (k := 2) (st' := (62, [(0, .ref v0), (1, .ref v1), (2, va_rf v2), (3, .int v3), (4, .int v4), (5, .int v5), (6, .int v6), (7, .int v7)], [.ref v0, .ref v0], x17)) rfl ?_
        replace h := Option.bind_eq_some_iff.mp h
        obtain ⟨p18, ep18, h⟩ := h
        refine tb_e_gN rfl ep18 ?_
        replace h := Option.bind_eq_some_iff.mp h
        obtain ⟨x19, ex19, h⟩ := h
        refine tb_e_gI rfl ex19 ?_
        replace h := Option.bind_eq_some_iff.mp h
        obtain ⟨x20, ex20, h⟩ := h
        have hcall := ex20
        refine tb_e_cs (v := some (.int x20.1)) rfl rfl rfl (Nat.le_of_ble_eq_true rfl) rfl (Nat.le_of_ble_eq_true rfl) ((dc_in_bitCount hcall).up (by decide)) ?_
        refine tb_Es (k := 2) (st' := (67, [(0, .ref v0), (1, .ref v1), (2, va_rf v2), (3, .int v3), (4, .int v4), (5, .int v5), (6, .int v6), (7, .int v7)], [.int v7, .int v6, .int x20.1, .ref v0], x20.2)) rfl ?_
        replace h := Option.bind_eq_some_iff.mp h
        obtain ⟨x21, ex21, h⟩ := h
        obtain ⟨hkx21, hcall⟩ := tb_on_some ex21
        refine tb_e_cv (v := none) rfl (Or.inl ⟨_, rfl⟩) rfl rfl (Nat.le_of_ble_eq_true rfl) rfl (Nat.le_of_ble_eq_true rfl) hkx21 ((dc_yr_takeIfMore hcall).up (by decide)) ?_
        refine tb_Es (k := 3) (st' := (37, [(0, .ref v0), (1, .ref v1), (2, va_rf v2), (3, .int v3), (4, .int v4), (5, .int v5), (6, .int v6), (7, .int (v7 + 1))], [], x21)) rfl ?_
        exact ih v0 v1 v2 v3 v4 v5 v6 (v7 + 1) x21 _ h r hx
    · rw [if_neg hc] at h
      refine tb_Es (k := 1) (st' := (71, [(0, .ref v0), (1, .ref v1), (2, va_rf v2), (3, .int v3), (4, .int v4), (5, .int v5), (6, .int v6)], [], x12.2)) rfl ?_
      obtain rfl := Option.some.inj h
      exact hx
def fl_yr_findNewLine_28 : Nat → Nat → Nat → (Option Nat) → Int32 → Int32 → Int32 → Int32 → tb_Hp → Option (tb_Hp)
  | 0, _, _, _, _, _, _, _, _ => none
  | n + 1, v0, v1, v2, v3, v4, v5, v6, w => (tb_gI 17 0 v1 w).bind fun x10 => (if v6 < x10 then (tb_gI 17 0 v1 w).bind fun x11 => (fl_yr_findNewLine_35 1048576 v0 v1 v2 v3 v4 v5 v6 x11 w).bind fun o22 => fl_yr_findNewLine_28 n o22.1 o22.2.1 o22.2.2.1 o22.2.2.2.1 o22.2.2.2.2.1 o22.2.2.2.2.2.1 (o22.2.2.2.2.2.2.1 + 1) o22.2.2.2.2.2.2.2 else some (w))
set_option maxHeartbeats 4000000 in
set_option maxRecDepth 20000 in
theorem dl_yr_findNewLine_28 : ∀ (n : Nat) (v0 : Nat) (v1 : Nat) (v2 : Option Nat) (v3 : Int32) (v4 : Int32) (v5 : Int32) (v6 : Int32) (w : tb_Hp) (o : tb_Hp), fl_yr_findNewLine_28 n v0 v1 v2 v3 v4 v5 v6 w = some o → ∀ (r : Option Value × tb_Hp), tb_Ev tb_P 6 135 (74, [], [], o) r → tb_Ev tb_P 6 135 (29, [(0, .ref v0), (1, .ref v1), (2, va_rf v2), (3, .int v3), (4, .int v4), (5, .int v5), (6, .int v6)], [], w) r := by
  intro n
  induction n with
  | zero =>
    intro v0 v1 v2 v3 v4 v5 v6 w o h
    cases h
  | succ n ih =>
    intro v0 v1 v2 v3 v4 v5 v6 w o h r hx
    unfold fl_yr_findNewLine_28 at h
    refine tb_Es (k := 2) (st' := (31, [(0, .ref v0), (1, .ref v1), (2, va_rf v2), (3, .int v3), (4, .int v4), (5, .int v5), (6, .int v6)], [.ref v1, .int v6], w)) rfl ?_
    replace h := Option.bind_eq_some_iff.mp h
    obtain ⟨x10, ex10, h⟩ := h
    refine tb_e_gI rfl ex10 ?_
    refine tb_b_cge rfl (fun hc => ?_) (fun hc => ?_)
    · rw [if_pos hc] at h
      refine tb_Es (k := 1) (st' := (34, [(0, .ref v0), (1, .ref v1), (2, va_rf v2), (3, .int v3), (4, .int v4), (5, .int v5), (6, .int v6)], [.ref v1], w)) rfl ?_
      replace h := Option.bind_eq_some_iff.mp h
      obtain ⟨x11, ex11, h⟩ := h
      refine tb_e_gI rfl ex11 ?_
      refine tb_Es (k := 2) (st' := (37, [(0, .ref v0), (1, .ref v1), (2, va_rf v2), (3, .int v3), (4, .int v4), (5, .int v5), (6, .int v6), (7, .int x11)], [], w)) rfl ?_
      replace h := Option.bind_eq_some_iff.mp h
      obtain ⟨o22, eo22, h⟩ := h
      refine dl_yr_findNewLine_35 _ v0 v1 v2 v3 v4 v5 v6 x11 w _ eo22 r ?_
      refine tb_Es (k := 3) (st' := (29, [(0, .ref o22.1), (1, .ref o22.2.1), (2, va_rf o22.2.2.1), (3, .int o22.2.2.2.1), (4, .int o22.2.2.2.2.1), (5, .int o22.2.2.2.2.2.1), (6, .int (o22.2.2.2.2.2.2.1 + 1))], [], o22.2.2.2.2.2.2.2)) rfl ?_
      exact ih o22.1 o22.2.1 o22.2.2.1 o22.2.2.2.1 o22.2.2.2.2.1 o22.2.2.2.2.2.1 (o22.2.2.2.2.2.2.1 + 1) o22.2.2.2.2.2.2.2 _ h r hx
    · rw [if_neg hc] at h
      refine tb_Es (k := 1) (st' := (74, [], [], w)) rfl ?_
      obtain rfl := Option.some.inj h
      exact hx
def fb_yr_findNewLine (a0 : Nat) (a1 : Nat) (a2 : Option Nat) (a3 : Int32) (a4 : Int32) (w : tb_Hp) : Option (tb_Hp) := (tb_on 20 a0 w (fb_yr_begin a0 a1 w)).bind fun x1 => (tb_on 20 a0 x1 (fb_yr_goOn a0 a2 a4 x1)).bind fun x2 => (tb_gN 20 0 a0 x2).bind fun p3 => (tb_gI 17 5 p3 x2).bind fun x4 => (fb_in_bitCount x4 x2).bind fun x5 => (tb_pI 20 2 a0 x5.1 x5.2).bind fun w6 => (tb_pI 20 3 a0 (-1) w6).bind fun w7 => (tb_pI 20 4 a0 (-1) w7).bind fun w8 => (tb_on 17 a1 w8 (fb_s_leastNotUp a1 w8)).bind fun x9 => (if x9.1 = (-1) then some x9.2 else (fl_yr_findNewLine_28 1048576 a0 a1 a2 a3 a4 x9.1 0 x9.2).bind fun o23 => some o23)
set_option maxHeartbeats 4000000 in
set_option maxRecDepth 20000 in
theorem dc_yr_findNewLine {a0 : Nat} {a1 : Nat} {a2 : Option Nat} {a3 : Int32} {a4 : Int32} {w : tb_Hp} {o : tb_Hp} (h : fb_yr_findNewLine a0 a1 a2 a3 a4 w = some o) : tb_Ev tb_P 6 135 (0, tb_ent [.ref a0, .ref a1, va_rf a2, .int a3, .int a4], [], w) (none, o) := by
  unfold fb_yr_findNewLine at h
  obtain ⟨r, hr⟩ : ∃ r : Option Value × tb_Hp, r = (none, o) := ⟨_, rfl⟩
  rw [← hr]
  rw [show tb_ent [.ref a0, .ref a1, va_rf a2, .int a3, .int a4] = [(0, .ref a0), (1, .ref a1), (2, va_rf a2), (3, .int a3), (4, .int a4)] by simp [tb_ent, lv_args, tb_catq, tb_cR, tb_cI, tb_cJ]]
  show tb_Ev tb_P 6 135 (0, [(0, .ref a0), (1, .ref a1), (2, va_rf a2), (3, .int a3), (4, .int a4)], [], w) r
  refine tb_Es (k := 2) (st' := (2, [(0, .ref a0), (1, .ref a1), (2, va_rf a2), (3, .int a3), (4, .int a4)], [.ref a1, .ref a0], w)) rfl ?_
  replace h := Option.bind_eq_some_iff.mp h
  obtain ⟨x1, ex1, h⟩ := h
  obtain ⟨hkx1, hcall⟩ := tb_on_some ex1
  refine tb_e_cv (v := none) rfl (Or.inl ⟨_, rfl⟩) rfl rfl (Nat.le_of_ble_eq_true rfl) rfl (Nat.le_of_ble_eq_true rfl) hkx1 ((dc_yr_begin hcall).up (by decide)) ?_
  refine tb_Es (k := 1) (st' := (4, [(0, .ref a0), (1, .ref a1), (2, va_rf a2), (3, .int a3), (4, .int a4)], [.ref a0], x1)) rfl ?_
  refine tb_q_aload (k := 2) rfl (Or.inr ⟨_, rfl, rfl⟩) rfl ?_
  refine tb_Es (k := 1) (st' := (6, [(0, .ref a0), (1, .ref a1), (2, va_rf a2), (3, .int a3), (4, .int a4)], [.int a4, va_rf a2, .ref a0], x1)) rfl ?_
  replace h := Option.bind_eq_some_iff.mp h
  obtain ⟨x2, ex2, h⟩ := h
  obtain ⟨hkx2, hcall⟩ := tb_on_some ex2
  refine tb_e_cv (as := [va_rf a2, .int a4]) (v := none) rfl (Or.inl ⟨_, rfl⟩) rfl rfl (Nat.le_of_ble_eq_true rfl) rfl (by simp only [List.map_cons, List.map_nil, List.sum_cons, List.sum_nil, tb_catq, tb_cR, tb_cI, tb_cJ, tb_cT]; exact Nat.le_of_ble_eq_true rfl) hkx2 ((dc_yr_goOn hcall).up (by decide)) ?_
  refine tb_Es (k := 2) (st' := (9, [(0, .ref a0), (1, .ref a1), (2, va_rf a2), (3, .int a3), (4, .int a4)], [.ref a0, .ref a0], x2)) rfl ?_
  replace h := Option.bind_eq_some_iff.mp h
  obtain ⟨p3, ep3, h⟩ := h
  refine tb_e_gN rfl ep3 ?_
  replace h := Option.bind_eq_some_iff.mp h
  obtain ⟨x4, ex4, h⟩ := h
  refine tb_e_gI rfl ex4 ?_
  replace h := Option.bind_eq_some_iff.mp h
  obtain ⟨x5, ex5, h⟩ := h
  have hcall := ex5
  refine tb_e_cs (v := some (.int x5.1)) rfl rfl rfl (Nat.le_of_ble_eq_true rfl) rfl (Nat.le_of_ble_eq_true rfl) ((dc_in_bitCount hcall).up (by decide)) ?_
  replace h := Option.bind_eq_some_iff.mp h
  obtain ⟨w6, ew6, h⟩ := h
  refine tb_e_pI rfl ew6 ?_
  refine tb_Es (k := 2) (st' := (15, [(0, .ref a0), (1, .ref a1), (2, va_rf a2), (3, .int a3), (4, .int a4)], [.int (-1), .ref a0], w6)) rfl ?_
  replace h := Option.bind_eq_some_iff.mp h
  obtain ⟨w7, ew7, h⟩ := h
  refine tb_e_pI rfl ew7 ?_
  refine tb_Es (k := 2) (st' := (18, [(0, .ref a0), (1, .ref a1), (2, va_rf a2), (3, .int a3), (4, .int a4)], [.int (-1), .ref a0], w7)) rfl ?_
  replace h := Option.bind_eq_some_iff.mp h
  obtain ⟨w8, ew8, h⟩ := h
  refine tb_e_pI rfl ew8 ?_
  refine tb_Es (k := 1) (st' := (20, [(0, .ref a0), (1, .ref a1), (2, va_rf a2), (3, .int a3), (4, .int a4)], [.ref a1], w8)) rfl ?_
  replace h := Option.bind_eq_some_iff.mp h
  obtain ⟨x9, ex9, h⟩ := h
  obtain ⟨hkx9, hcall⟩ := tb_on_some ex9
  refine tb_e_cv (v := some (.int x9.1)) rfl (Or.inl ⟨_, rfl⟩) rfl rfl (Nat.le_of_ble_eq_true rfl) rfl (Nat.le_of_ble_eq_true rfl) hkx9 ((dc_s_leastNotUp hcall).up (by decide)) ?_
  refine tb_Es (k := 3) (st' := (24, [(5, .int x9.1), (0, .ref a0), (1, .ref a1), (2, va_rf a2), (3, .int a3), (4, .int a4)], [.int (-1), .int x9.1], x9.2)) rfl ?_
  refine tb_b_cne rfl (fun hc => ?_) (fun hc => ?_)
  · rw [if_pos hc] at h
    obtain rfl := Option.some.inj h
    subst hr
    exact tb_Er rfl rfl
  · rw [if_neg hc] at h
    refine tb_Es (k := 3) (st' := (29, [(0, .ref a0), (1, .ref a1), (2, va_rf a2), (3, .int a3), (4, .int a4), (5, .int x9.1), (6, .int 0)], [], x9.2)) rfl ?_
    replace h := Option.bind_eq_some_iff.mp h
    obtain ⟨o23, eo23, h⟩ := h
    refine dl_yr_findNewLine_28 _ a0 a1 a2 a3 a4 x9.1 0 x9.2 _ eo23 r ?_
    obtain rfl := Option.some.inj h
    subst hr
    exact tb_Er rfl rfl
/-! TannerBunting$Story.findPulls(LTannerBunting$Scene;[II)V -/
def fl_so_findPulls_4 : Nat → Nat → Nat → (Option Nat) → Int32 → Int32 → tb_Hp → Option (tb_Hp)
  | 0, _, _, _, _, _, _ => none
  | n + 1, v0, v1, v2, v3, v4, w => (if v4 ≤ 40 then (tb_gN 16 3 v0 w).bind fun p2 => (tb_gN 15 1 v1 w).bind fun p3 => (tb_on 17 p2 w (fb_s_copyFrom p2 p3 w)).bind fun x4 => (tb_gN 16 3 v0 x4).bind fun p5 => (tb_on 17 p5 x4 (fb_s_setPull p5 v3 v4 x4)).bind fun x6 => (tb_gN 15 2 v1 x6).bind fun p7 => (tb_on 16 v0 x6 (fb_so_fits v0 p7 v2 x6)).bind fun x8 => (if x8.1 = 0 then fl_so_findPulls_4 n v0 v1 v2 v3 (v4 + 1) x8.2 else (tb_on 16 v0 x8.2 (fb_so_take v0 v4 x8.2)).bind fun x9 => fl_so_findPulls_4 n v0 v1 v2 v3 (v4 + 1) x9) else some (w))
set_option maxHeartbeats 4000000 in
set_option maxRecDepth 20000 in
theorem dl_so_findPulls_4 : ∀ (n : Nat) (v0 : Nat) (v1 : Nat) (v2 : Option Nat) (v3 : Int32) (v4 : Int32) (w : tb_Hp) (o : tb_Hp), fl_so_findPulls_4 n v0 v1 v2 v3 v4 w = some o → ∀ (r : Option Value × tb_Hp), tb_Ev tb_P 6 138 (30, [], [], o) r → tb_Ev tb_P 6 138 (5, [(0, .ref v0), (1, .ref v1), (2, va_rf v2), (3, .int v3), (4, .int v4)], [], w) r := by
  intro n
  induction n with
  | zero =>
    intro v0 v1 v2 v3 v4 w o h
    cases h
  | succ n ih =>
    intro v0 v1 v2 v3 v4 w o h r hx
    unfold fl_so_findPulls_4 at h
    refine tb_Es (k := 2) (st' := (7, [(0, .ref v0), (1, .ref v1), (2, va_rf v2), (3, .int v3), (4, .int v4)], [.int 40, .int v4], w)) rfl ?_
    refine tb_b_cgt rfl (fun hc => ?_) (fun hc => ?_)
    · rw [if_pos hc] at h
      refine tb_Es (k := 1) (st' := (9, [(0, .ref v0), (1, .ref v1), (2, va_rf v2), (3, .int v3), (4, .int v4)], [.ref v0], w)) rfl ?_
      replace h := Option.bind_eq_some_iff.mp h
      obtain ⟨p2, ep2, h⟩ := h
      refine tb_e_gN rfl ep2 ?_
      refine tb_Es (k := 1) (st' := (11, [(0, .ref v0), (1, .ref v1), (2, va_rf v2), (3, .int v3), (4, .int v4)], [.ref v1, .ref p2], w)) rfl ?_
      replace h := Option.bind_eq_some_iff.mp h
      obtain ⟨p3, ep3, h⟩ := h
      refine tb_e_gN rfl ep3 ?_
      replace h := Option.bind_eq_some_iff.mp h
      obtain ⟨x4, ex4, h⟩ := h
      obtain ⟨hkx4, hcall⟩ := tb_on_some ex4
      refine tb_e_cv (v := none) rfl (Or.inl ⟨_, rfl⟩) rfl rfl (Nat.le_of_ble_eq_true rfl) rfl (Nat.le_of_ble_eq_true rfl) hkx4 ((dc_s_copyFrom hcall).up (by decide)) ?_
      refine tb_Es (k := 1) (st' := (14, [(0, .ref v0), (1, .ref v1), (2, va_rf v2), (3, .int v3), (4, .int v4)], [.ref v0], x4)) rfl ?_
      replace h := Option.bind_eq_some_iff.mp h
      obtain ⟨p5, ep5, h⟩ := h
      refine tb_e_gN rfl ep5 ?_
      refine tb_Es (k := 2) (st' := (17, [(0, .ref v0), (1, .ref v1), (2, va_rf v2), (3, .int v3), (4, .int v4)], [.int v4, .int v3, .ref p5], x4)) rfl ?_
      replace h := Option.bind_eq_some_iff.mp h
      obtain ⟨x6, ex6, h⟩ := h
      obtain ⟨hkx6, hcall⟩ := tb_on_some ex6
      refine tb_e_cv (v := none) rfl (Or.inl ⟨_, rfl⟩) rfl rfl (Nat.le_of_ble_eq_true rfl) rfl (Nat.le_of_ble_eq_true rfl) hkx6 ((dc_s_setPull hcall).up (by decide)) ?_
      refine tb_Es (k := 2) (st' := (20, [(0, .ref v0), (1, .ref v1), (2, va_rf v2), (3, .int v3), (4, .int v4)], [.ref v1, .ref v0], x6)) rfl ?_
      replace h := Option.bind_eq_some_iff.mp h
      obtain ⟨p7, ep7, h⟩ := h
      refine tb_e_gN rfl ep7 ?_
      refine tb_q_aload (k := 2) rfl (Or.inr ⟨_, rfl, rfl⟩) rfl ?_
      replace h := Option.bind_eq_some_iff.mp h
      obtain ⟨x8, ex8, h⟩ := h
      obtain ⟨hkx8, hcall⟩ := tb_on_some ex8
      refine tb_e_cv (as := [.ref p7, va_rf v2]) (v := some (.int x8.1)) rfl (Or.inl ⟨_, rfl⟩) rfl rfl (Nat.le_of_ble_eq_true rfl) rfl (by simp only [List.map_cons, List.map_nil, List.sum_cons, List.sum_nil, tb_catq, tb_cR, tb_cI, tb_cJ, tb_cT]; exact Nat.le_of_ble_eq_true rfl) hkx8 ((dc_so_fits hcall).up (by decide)) ?_
      refine tb_b_ieq rfl (fun hc => ?_) (fun hc => ?_)
      · rw [if_pos hc] at h
        refine tb_Es (k := 3) (st' := (5, [(0, .ref v0), (1, .ref v1), (2, va_rf v2), (3, .int v3), (4, .int (v4 + 1))], [], x8.2)) rfl ?_
        exact ih v0 v1 v2 v3 (v4 + 1) x8.2 _ h r hx
      · rw [if_neg hc] at h
        refine tb_Es (k := 2) (st' := (26, [(0, .ref v0), (1, .ref v1), (2, va_rf v2), (3, .int v3), (4, .int v4)], [.int v4, .ref v0], x8.2)) rfl ?_
        replace h := Option.bind_eq_some_iff.mp h
        obtain ⟨x9, ex9, h⟩ := h
        obtain ⟨hkx9, hcall⟩ := tb_on_some ex9
        refine tb_e_cv (v := none) rfl (Or.inl ⟨_, rfl⟩) rfl rfl (Nat.le_of_ble_eq_true rfl) rfl (Nat.le_of_ble_eq_true rfl) hkx9 ((dc_so_take hcall).up (by decide)) ?_
        refine tb_Es (k := 3) (st' := (5, [(0, .ref v0), (1, .ref v1), (2, va_rf v2), (3, .int v3), (4, .int (v4 + 1))], [], x9)) rfl ?_
        exact ih v0 v1 v2 v3 (v4 + 1) x9 _ h r hx
    · rw [if_neg hc] at h
      refine tb_Es (k := 1) (st' := (30, [], [], w)) rfl ?_
      obtain rfl := Option.some.inj h
      exact hx
def fb_so_findPulls (a0 : Nat) (a1 : Nat) (a2 : Option Nat) (a3 : Int32) (w : tb_Hp) : Option (tb_Hp) := (tb_on 16 a0 w (fb_so_forget a0 w)).bind fun x1 => (fl_so_findPulls_4 1048576 a0 a1 a2 a3 1 x1).bind fun o10 => some o10
set_option maxHeartbeats 4000000 in
set_option maxRecDepth 20000 in
theorem dc_so_findPulls {a0 : Nat} {a1 : Nat} {a2 : Option Nat} {a3 : Int32} {w : tb_Hp} {o : tb_Hp} (h : fb_so_findPulls a0 a1 a2 a3 w = some o) : tb_Ev tb_P 6 138 (0, tb_ent [.ref a0, .ref a1, va_rf a2, .int a3], [], w) (none, o) := by
  unfold fb_so_findPulls at h
  obtain ⟨r, hr⟩ : ∃ r : Option Value × tb_Hp, r = (none, o) := ⟨_, rfl⟩
  rw [← hr]
  rw [show tb_ent [.ref a0, .ref a1, va_rf a2, .int a3] = [(0, .ref a0), (1, .ref a1), (2, va_rf a2), (3, .int a3)] by simp [tb_ent, lv_args, tb_catq, tb_cR, tb_cI, tb_cJ]]
  show tb_Ev tb_P 6 138 (0, [(0, .ref a0), (1, .ref a1), (2, va_rf a2), (3, .int a3)], [], w) r
  refine tb_Es (k := 1) (st' := (1, [(0, .ref a0), (1, .ref a1), (2, va_rf a2), (3, .int a3)], [.ref a0], w)) rfl ?_
  replace h := Option.bind_eq_some_iff.mp h
  obtain ⟨x1, ex1, h⟩ := h
  obtain ⟨hkx1, hcall⟩ := tb_on_some ex1
  refine tb_e_cv (v := none) rfl (Or.inl ⟨_, rfl⟩) rfl rfl (Nat.le_of_ble_eq_true rfl) rfl (Nat.le_of_ble_eq_true rfl) hkx1 ((dc_so_forget hcall).up (by decide)) ?_
  refine tb_Es (k := 3) (st' := (5, [(0, .ref a0), (1, .ref a1), (2, va_rf a2), (3, .int a3), (4, .int 1)], [], x1)) rfl ?_
  replace h := Option.bind_eq_some_iff.mp h
  obtain ⟨o10, eo10, h⟩ := h
  refine dl_so_findPulls_4 _ a0 a1 a2 a3 1 x1 _ eo10 r ?_
  obtain rfl := Option.some.inj h
  subst hr
  exact tb_Er rfl rfl
/-! TannerBunting.rests(IIII)I -/
def fj_x_rests_j18 (v0 : Nat) (v1 : Int32) (v2 : Int32) (v3 : Int32) (v4 : Int32) (s0 : Int32) (w : tb_Hp) : Option (Int32 × tb_Hp) := (if s0 = 0 then some (-1, w) else (fb_x_within v3 1 20 w).bind fun x1 => (if x1.1 = 0 then some (-1, x1.2) else (fb_x_within v4 0 2 x1.2).bind fun x2 => (if x2.1 = 0 then some (-1, x2.2) else (tb_gN 21 10 v0 x2.2).bind fun p3 => (tb_gN 21 5 v0 x2.2).bind fun p4 => (tb_gN 15 0 p4 x2.2).bind fun p5 => (tb_on 21 v0 x2.2 (fb_x_ruleInForce v0 x2.2)).bind fun x6 => (tb_on 20 p3 x6.2 (fb_yr_findRests p3 p5 x6.1 v1 v2 v3 x6.2)).bind fun x7 => (if v4 = 0 then (tb_gN 21 10 v0 x7).bind fun p8 => (tb_gI 20 2 p8 x7).bind fun x9 => some (x9, x7) else (if v4 = 1 then (tb_gN 21 10 v0 x7).bind fun p10 => (tb_gI 20 3 p10 x7).bind fun x11 => some (x11, x7) else (tb_gN 21 10 v0 x7).bind fun p12 => (tb_gI 20 4 p12 x7).bind fun x13 => some (x13, x7))))))
set_option maxHeartbeats 4000000 in
set_option maxRecDepth 20000 in
theorem dj_x_rests_j18 (v0 : Nat) (v1 : Int32) (v2 : Int32) (v3 : Int32) (v4 : Int32) (s0 : Int32) (w : tb_Hp) (o : Int32 × tb_Hp) (h : fj_x_rests_j18 v0 v1 v2 v3 v4 s0 w = some o) (r : Option Value × tb_Hp) (hr : r = (some (.int o.1), o.2)) : tb_Ev tb_P 6 144 (19, [(0, .ref v0), (1, .int v1), (2, .int v2), (3, .int v3), (4, .int v4)], [.int s0], w) r := by
  unfold fj_x_rests_j18 at h
  refine tb_Es (k := 2) (st' := (21, [(5, .int s0), (0, .ref v0), (1, .int v1), (2, .int v2), (3, .int v3), (4, .int v4)], [.int s0], w)) rfl ?_
  refine tb_b_ieq rfl (fun hc => ?_) (fun hc => ?_)
  · rw [if_pos hc] at h
    refine tb_Es (k := 1) (st' := (33, [(5, .int s0), (0, .ref v0), (1, .int v1), (2, .int v2), (3, .int v3), (4, .int v4)], [.int (-1)], w)) rfl ?_
    obtain rfl := Option.some.inj h
    subst hr
    exact tb_Er rfl rfl
  · rw [if_neg hc] at h
    refine tb_Es (k := 3) (st' := (25, [(5, .int s0), (0, .ref v0), (1, .int v1), (2, .int v2), (3, .int v3), (4, .int v4)], [.int 20, .int 1, .int v3], w)) rfl ?_
    replace h := Option.bind_eq_some_iff.mp h
    obtain ⟨x1, ex1, h⟩ := h
    have hcall := ex1
    refine tb_e_cs (v := some (.int x1.1)) rfl rfl rfl (Nat.le_of_ble_eq_true rfl) rfl (Nat.le_of_ble_eq_true rfl) ((dc_x_within hcall).up (by decide)) ?_
    refine tb_b_ieq rfl (fun hc => ?_) (fun hc => ?_)
    · rw [if_pos hc] at h
      refine tb_Es (k := 1) (st' := (33, [(5, .int s0), (0, .ref v0), (1, .int v1), (2, .int v2), (3, .int v3), (4, .int v4)], [.int (-1)], x1.2)) rfl ?_
      obtain rfl := Option.some.inj h
      subst hr
      exact tb_Er rfl rfl
    · rw [if_neg hc] at h
      refine tb_Es (k := 3) (st' := (30, [(5, .int s0), (0, .ref v0), (1, .int v1), (2, .int v2), (3, .int v3), (4, .int v4)], [.int 2, .int 0, .int v4], x1.2)) rfl ?_
      replace h := Option.bind_eq_some_iff.mp h
      obtain ⟨x2, ex2, h⟩ := h
      have hcall := ex2
      refine tb_e_cs (v := some (.int x2.1)) rfl rfl rfl (Nat.le_of_ble_eq_true rfl) rfl (Nat.le_of_ble_eq_true rfl) ((dc_x_within hcall).up (by decide)) ?_
      refine tb_b_ine rfl (fun hc => ?_) (fun hc => ?_)
      · rw [if_pos hc] at h
        refine tb_Es (k := 1) (st' := (33, [(5, .int s0), (0, .ref v0), (1, .int v1), (2, .int v2), (3, .int v3), (4, .int v4)], [.int (-1)], x2.2)) rfl ?_
        obtain rfl := Option.some.inj h
        subst hr
        exact tb_Er rfl rfl
      · rw [if_neg hc] at h
        refine tb_Es (k := 1) (st' := (35, [(5, .int s0), (0, .ref v0), (1, .int v1), (2, .int v2), (3, .int v3), (4, .int v4)], [.ref v0], x2.2)) rfl ?_
        replace h := Option.bind_eq_some_iff.mp h
        obtain ⟨p3, ep3, h⟩ := h
        refine tb_e_gN rfl ep3 ?_
        refine tb_Es (k := 1) (st' := (37, [(5, .int s0), (0, .ref v0), (1, .int v1), (2, .int v2), (3, .int v3), (4, .int v4)], [.ref v0, .ref p3], x2.2)) rfl ?_
        replace h := Option.bind_eq_some_iff.mp h
        obtain ⟨p4, ep4, h⟩ := h
        refine tb_e_gN rfl ep4 ?_
        replace h := Option.bind_eq_some_iff.mp h
        obtain ⟨p5, ep5, h⟩ := h
        refine tb_e_gN rfl ep5 ?_
        refine tb_Es (k := 1) (st' := (40, [(5, .int s0), (0, .ref v0), (1, .int v1), (2, .int v2), (3, .int v3), (4, .int v4)], [.ref v0, .ref p5, .ref p3], x2.2)) rfl ?_
        replace h := Option.bind_eq_some_iff.mp h
        obtain ⟨x6, ex6, h⟩ := h
        obtain ⟨hkx6, hcall⟩ := tb_on_some ex6
        refine tb_e_cv (v := some (va_rf x6.1)) rfl (Or.inl ⟨_, rfl⟩) rfl rfl (Nat.le_of_ble_eq_true rfl) rfl (Nat.le_of_ble_eq_true rfl) hkx6 ((dc_x_ruleInForce hcall).up (by decide)) ?_
        refine tb_Es (k := 3) (st' := (44, [(5, .int s0), (0, .ref v0), (1, .int v1), (2, .int v2), (3, .int v3), (4, .int v4)], [.int v3, .int v2, .int v1, va_rf x6.1, .ref p5, .ref p3], x6.2)) rfl ?_
        replace h := Option.bind_eq_some_iff.mp h
        obtain ⟨x7, ex7, h⟩ := h
        obtain ⟨hkx7, hcall⟩ := tb_on_some ex7
        refine tb_e_cv (as := [.ref p5, va_rf x6.1, .int v1, .int v2, .int v3]) (v := none) rfl (Or.inl ⟨_, rfl⟩) rfl rfl (Nat.le_of_ble_eq_true rfl) rfl (by simp only [List.map_cons, List.map_nil, List.sum_cons, List.sum_nil, tb_catq, tb_cR, tb_cI, tb_cJ, tb_cT]; exact Nat.le_of_ble_eq_true rfl) hkx7 ((dc_yr_findRests hcall).up (by decide)) ?_
        refine tb_Es (k := 1) (st' := (46, [(5, .int s0), (0, .ref v0), (1, .int v1), (2, .int v2), (3, .int v3), (4, .int v4)], [.int v4], x7)) rfl ?_
        refine tb_w_lks rfl ?_
        refine tb_w_one (k := 0) (by decide) (fun hc => ?_) (fun hc => ?_)
        · rw [if_pos hc] at h
          refine tb_Es (k := 1) (st' := (48, [(5, .int s0), (0, .ref v0), (1, .int v1), (2, .int v2), (3, .int v3), (4, .int v4)], [.ref v0], x7)) rfl ?_
          replace h := Option.bind_eq_some_iff.mp h
          obtain ⟨p8, ep8, h⟩ := h
          refine tb_e_gN rfl ep8 ?_
          replace h := Option.bind_eq_some_iff.mp h
          obtain ⟨x9, ex9, h⟩ := h
          refine tb_e_gI rfl ex9 ?_
          obtain rfl := Option.some.inj h
          subst hr
          exact tb_Er rfl rfl
        rw [if_neg hc] at h
        refine tb_w_one (k := 1) (by decide) (fun hc => ?_) (fun hc => ?_)
        · rw [if_pos hc] at h
          refine tb_Es (k := 1) (st' := (52, [(5, .int s0), (0, .ref v0), (1, .int v1), (2, .int v2), (3, .int v3), (4, .int v4)], [.ref v0], x7)) rfl ?_
          replace h := Option.bind_eq_some_iff.mp h
          obtain ⟨p10, ep10, h⟩ := h
          refine tb_e_gN rfl ep10 ?_
          replace h := Option.bind_eq_some_iff.mp h
          obtain ⟨x11, ex11, h⟩ := h
          refine tb_e_gI rfl ex11 ?_
          obtain rfl := Option.some.inj h
          subst hr
          exact tb_Er rfl rfl
        rw [if_neg hc] at h
        refine tb_w_end ?_
        refine tb_Es (k := 1) (st' := (56, [(5, .int s0), (0, .ref v0), (1, .int v1), (2, .int v2), (3, .int v3), (4, .int v4)], [.ref v0], x7)) rfl ?_
        replace h := Option.bind_eq_some_iff.mp h
        obtain ⟨p12, ep12, h⟩ := h
        refine tb_e_gN rfl ep12 ?_
        replace h := Option.bind_eq_some_iff.mp h
        obtain ⟨x13, ex13, h⟩ := h
        refine tb_e_gI rfl ex13 ?_
        obtain rfl := Option.some.inj h
        subst hr
        exact tb_Er rfl rfl
def fb_x_rests (a0 : Nat) (a1 : Int32) (a2 : Int32) (a3 : Int32) (a4 : Int32) (w : tb_Hp) : Option (Int32 × tb_Hp) := (if a1 = a2 then fj_x_rests_j18 a0 a1 a2 a3 a4 0 w else (tb_gN 21 5 a0 w).bind fun p14 => (tb_gN 15 0 p14 w).bind fun p15 => (tb_on 17 p15 w (fb_s_stands p15 a1 w)).bind fun x16 => (if x16.1 = 0 then fj_x_rests_j18 a0 a1 a2 a3 a4 0 x16.2 else (tb_gN 21 5 a0 x16.2).bind fun p17 => (tb_gN 15 0 p17 x16.2).bind fun p18 => (tb_on 17 p18 x16.2 (fb_s_stands p18 a2 x16.2)).bind fun x19 => (if x19.1 = 0 then fj_x_rests_j18 a0 a1 a2 a3 a4 0 x19.2 else fj_x_rests_j18 a0 a1 a2 a3 a4 1 x19.2)))
set_option maxHeartbeats 4000000 in
set_option maxRecDepth 20000 in
theorem dc_x_rests {a0 : Nat} {a1 : Int32} {a2 : Int32} {a3 : Int32} {a4 : Int32} {w : tb_Hp} {o : Int32 × tb_Hp} (h : fb_x_rests a0 a1 a2 a3 a4 w = some o) : tb_Ev tb_P 6 144 (0, tb_ent [.ref a0, .int a1, .int a2, .int a3, .int a4], [], w) (some (.int o.1), o.2) := by
  unfold fb_x_rests at h
  obtain ⟨r, hr⟩ : ∃ r : Option Value × tb_Hp, r = (some (.int o.1), o.2) := ⟨_, rfl⟩
  rw [← hr]
  show tb_Ev tb_P 6 144 (0, [(0, .ref a0), (1, .int a1), (2, .int a2), (3, .int a3), (4, .int a4)], [], w) r
  refine tb_Es (k := 2) (st' := (2, [(0, .ref a0), (1, .int a1), (2, .int a2), (3, .int a3), (4, .int a4)], [.int a2, .int a1], w)) rfl ?_
  refine tb_b_ceq rfl (fun hc => ?_) (fun hc => ?_)
  · rw [if_pos hc] at h
    refine tb_Es (k := 2) (st' := (19, [(0, .ref a0), (1, .int a1), (2, .int a2), (3, .int a3), (4, .int a4)], [.int 0], w)) rfl ?_
    exact dj_x_rests_j18 a0 a1 a2 a3 a4 0 w _ h r hr
  · rw [if_neg hc] at h
    refine tb_Es (k := 1) (st' := (4, [(0, .ref a0), (1, .int a1), (2, .int a2), (3, .int a3), (4, .int a4)], [.ref a0], w)) rfl ?_
    replace h := Option.bind_eq_some_iff.mp h
    obtain ⟨p14, ep14, h⟩ := h
    refine tb_e_gN rfl ep14 ?_
    replace h := Option.bind_eq_some_iff.mp h
    obtain ⟨p15, ep15, h⟩ := h
    refine tb_e_gN rfl ep15 ?_
    refine tb_Es (k := 1) (st' := (7, [(0, .ref a0), (1, .int a1), (2, .int a2), (3, .int a3), (4, .int a4)], [.int a1, .ref p15], w)) rfl ?_
    replace h := Option.bind_eq_some_iff.mp h
    obtain ⟨x16, ex16, h⟩ := h
    obtain ⟨hkx16, hcall⟩ := tb_on_some ex16
    refine tb_e_cv (v := some (.int x16.1)) rfl (Or.inl ⟨_, rfl⟩) rfl rfl (Nat.le_of_ble_eq_true rfl) rfl (Nat.le_of_ble_eq_true rfl) hkx16 ((dc_s_stands hcall).up (by decide)) ?_
    refine tb_b_ieq rfl (fun hc => ?_) (fun hc => ?_)
    · rw [if_pos hc] at h
      refine tb_Es (k := 2) (st' := (19, [(0, .ref a0), (1, .int a1), (2, .int a2), (3, .int a3), (4, .int a4)], [.int 0], x16.2)) rfl ?_
      exact dj_x_rests_j18 a0 a1 a2 a3 a4 0 x16.2 _ h r hr
    · rw [if_neg hc] at h
      refine tb_Es (k := 1) (st' := (10, [(0, .ref a0), (1, .int a1), (2, .int a2), (3, .int a3), (4, .int a4)], [.ref a0], x16.2)) rfl ?_
      replace h := Option.bind_eq_some_iff.mp h
      obtain ⟨p17, ep17, h⟩ := h
      refine tb_e_gN rfl ep17 ?_
      replace h := Option.bind_eq_some_iff.mp h
      obtain ⟨p18, ep18, h⟩ := h
      refine tb_e_gN rfl ep18 ?_
      refine tb_Es (k := 1) (st' := (13, [(0, .ref a0), (1, .int a1), (2, .int a2), (3, .int a3), (4, .int a4)], [.int a2, .ref p18], x16.2)) rfl ?_
      replace h := Option.bind_eq_some_iff.mp h
      obtain ⟨x19, ex19, h⟩ := h
      obtain ⟨hkx19, hcall⟩ := tb_on_some ex19
      refine tb_e_cv (v := some (.int x19.1)) rfl (Or.inl ⟨_, rfl⟩) rfl rfl (Nat.le_of_ble_eq_true rfl) rfl (Nat.le_of_ble_eq_true rfl) hkx19 ((dc_s_stands hcall).up (by decide)) ?_
      refine tb_b_ieq rfl (fun hc => ?_) (fun hc => ?_)
      · rw [if_pos hc] at h
        refine tb_Es (k := 2) (st' := (19, [(0, .ref a0), (1, .int a1), (2, .int a2), (3, .int a3), (4, .int a4)], [.int 0], x19.2)) rfl ?_
        exact dj_x_rests_j18 a0 a1 a2 a3 a4 0 x19.2 _ h r hr
      · rw [if_neg hc] at h
        refine tb_Es (k := 3) (st' := (19, [(0, .ref a0), (1, .int a1), (2, .int a2), (3, .int a3), (4, .int a4)], [.int 1], x19.2)) rfl ?_
        exact dj_x_rests_j18 a0 a1 a2 a3 a4 1 x19.2 _ h r hr
/-! TannerBunting$Story.findRules(LTannerBunting$Scene;[[III)V -/
def fl_so_findRules_36 : Nat → Nat → Nat → Nat → Int32 → Int32 → Int32 → (Option Nat) → Int32 → tb_Hp → Option (Nat × Nat × Nat × Int32 × Int32 × Int32 × tb_Hp)
  | 0, _, _, _, _, _, _, _, _, _ => none
  | n + 1, v0, v1, v2, v3, v4, v5, v6, v7, w => (if v7 ≤ v4 then (tb_gN 16 2 v0 w).bind fun p14 => (tb_gN 16 3 v0 w).bind fun p15 => (tb_on 11 p14 w (fb_jg_passYear p14 p15 v6 w)).bind fun x16 => fl_so_findRules_36 n v0 v1 v2 v3 v4 v5 v6 (v7 + 1) x16.2 else some ((v0, v1, v2, v3, v4, v5, w)))
set_option maxHeartbeats 4000000 in
set_option maxRecDepth 20000 in
theorem dl_so_findRules_36 : ∀ (n : Nat) (v0 : Nat) (v1 : Nat) (v2 : Nat) (v3 : Int32) (v4 : Int32) (v5 : Int32) (v6 : Option Nat) (v7 : Int32) (w : tb_Hp) (o : Nat × Nat × Nat × Int32 × Int32 × Int32 × tb_Hp), fl_so_findRules_36 n v0 v1 v2 v3 v4 v5 v6 v7 w = some o → ∀ (r : Option Value × tb_Hp), tb_Ev tb_P 6 155 (51, [(0, .ref o.1), (1, .ref o.2.1), (2, .ref o.2.2.1), (3, .int o.2.2.2.1), (4, .int o.2.2.2.2.1), (5, .int o.2.2.2.2.2.1)], [], o.2.2.2.2.2.2) r → tb_Ev tb_P 6 155 (38, [(0, .ref v0), (1, .ref v1), (2, .ref v2), (3, .int v3), (4, .int v4), (5, .int v5), (6, va_rf v6), (7, .int v7)], [], w) r := by
  intro n
  induction n with
  | zero =>
    intro v0 v1 v2 v3 v4 v5 v6 v7 w o h
    cases h
  | succ n ih =>
    intro v0 v1 v2 v3 v4 v5 v6 v7 w o h r hx
    unfold fl_so_findRules_36 at h
    refine tb_Es (k := 2) (st' := (40, [(0, .ref v0), (1, .ref v1), (2, .ref v2), (3, .int v3), (4, .int v4), (5, .int v5), (6, va_rf v6), (7, .int v7)], [.int v4, .int v7], w)) rfl ?_
    refine tb_b_cgt rfl (fun hc => ?_) (fun hc => ?_)
    · rw [if_pos hc] at h
      refine tb_Es (k := 1) (st' := (42, [(0, .ref v0), (1, .ref v1), (2, .ref v2), (3, .int v3), (4, .int v4), (5, .int v5), (6, va_rf v6), (7, .int v7)], [.ref v0], w)) rfl ?_
      replace h := Option.bind_eq_some_iff.mp h
      obtain ⟨p14, ep14, h⟩ := h
      refine tb_e_gN rfl ep14 ?_
      refine tb_Es (k := 1) (st' := (44, [(0, .ref v0), (1, .ref v1), (2, .ref v2), (3, .int v3), (4, .int v4), (5, .int v5), (6, va_rf v6), (7, .int v7)], [.ref v0, .ref p14], w)) rfl ?_
      replace h := Option.bind_eq_some_iff.mp h
      obtain ⟨p15, ep15, h⟩ := h
      refine tb_e_gN rfl ep15 ?_
      refine tb_q_aload (k := 6) rfl (Or.inl rfl) rfl ?_
      replace h := Option.bind_eq_some_iff.mp h
      obtain ⟨x16, ex16, h⟩ := h
      obtain ⟨hkx16, hcall⟩ := tb_on_some ex16
      refine tb_e_cv (as := [.ref p15, va_rf v6]) (v := some (.int x16.1)) rfl (Or.inl ⟨_, rfl⟩) rfl rfl (Nat.le_of_ble_eq_true rfl) rfl (by simp only [List.map_cons, List.map_nil, List.sum_cons, List.sum_nil, tb_catq, tb_cR, tb_cI, tb_cJ, tb_cT]; exact Nat.le_of_ble_eq_true rfl) hkx16 ((dc_jg_passYear hcall).up (by decide)) ?_
      refine tb_Es (k := 1) (st' := (48, [(0, .ref v0), (1, .ref v1), (2, .ref v2), (3, .int v3), (4, .int v4), (5, .int v5), (6, va_rf v6), (7, .int v7)], [], x16.2)) rfl ?_
      refine tb_q_iinc (L' := [(7, .int (v7 + 1)), (0, .ref v0), (1, .ref v1), (2, .ref v2), (3, .int v3), (4, .int v4), (5, .int v5), (6, va_rf v6)]) rfl (by decide) rfl (by simp [tb_s1, tb_catq, tb_cR, tb_cI, tb_cJ]) ?_
      refine tb_Es (k := 2) (st' := (38, [(0, .ref v0), (1, .ref v1), (2, .ref v2), (3, .int v3), (4, .int v4), (5, .int v5), (6, va_rf v6), (7, .int (v7 + 1))], [], x16.2)) rfl ?_
      exact ih v0 v1 v2 v3 v4 v5 v6 (v7 + 1) x16.2 _ h r hx
    · rw [if_neg hc] at h
      refine tb_Es (k := 1) (st' := (51, [(0, .ref v0), (1, .ref v1), (2, .ref v2), (3, .int v3), (4, .int v4), (5, .int v5)], [], w)) rfl ?_
      obtain rfl := Option.some.inj h
      exact hx
def fl_so_findRules_8 : Nat → Nat → Nat → Nat → Int32 → Int32 → Int32 → tb_Hp → Option (tb_Hp)
  | 0, _, _, _, _, _, _, _ => none
  | n + 1, v0, v1, v2, v3, v4, v5, w => (if v5 < v3 then (fb_x_codeOf v2 v5 w).bind fun x4 => (tb_gN 16 3 v0 x4.2).bind fun p5 => (tb_gN 15 1 v1 x4.2).bind fun p6 => (tb_on 17 p5 x4.2 (fb_s_copyFrom p5 p6 x4.2)).bind fun x7 => (tb_gN 15 2 v1 x7).bind fun p8 => (tb_on 16 v0 x7 (fb_so_fits v0 p8 x4.1 x7)).bind fun x9 => (if x9.1 = 0 then fl_so_findRules_8 n v0 v1 v2 v3 v4 (v5 + 1) x9.2 else (tb_on 16 v0 x9.2 (fb_so_take v0 v5 x9.2)).bind fun x10 => (tb_gN 16 3 v0 x10).bind fun p11 => (tb_gN 15 1 v1 x10).bind fun p12 => (tb_on 17 p11 x10 (fb_s_copyFrom p11 p12 x10)).bind fun x13 => (fl_so_findRules_36 1048576 v0 v1 v2 v3 v4 v5 x4.1 0 x13).bind fun o17 => (tb_on 16 o17.1 o17.2.2.2.2.2.2 (fb_so_countStanding o17.1 o17.2.2.2.2.2.2)).bind fun x18 => fl_so_findRules_8 n o17.1 o17.2.1 o17.2.2.1 o17.2.2.2.1 o17.2.2.2.2.1 (o17.2.2.2.2.2.1 + 1) x18) else some (w))
set_option maxHeartbeats 4000000 in
set_option maxRecDepth 20000 in
theorem dl_so_findRules_8 : ∀ (n : Nat) (v0 : Nat) (v1 : Nat) (v2 : Nat) (v3 : Int32) (v4 : Int32) (v5 : Int32) (w : tb_Hp) (o : tb_Hp), fl_so_findRules_8 n v0 v1 v2 v3 v4 v5 w = some o → ∀ (r : Option Value × tb_Hp), tb_Ev tb_P 6 155 (56, [], [], o) r → tb_Ev tb_P 6 155 (9, [(0, .ref v0), (1, .ref v1), (2, .ref v2), (3, .int v3), (4, .int v4), (5, .int v5)], [], w) r := by
  intro n
  induction n with
  | zero =>
    intro v0 v1 v2 v3 v4 v5 w o h
    cases h
  | succ n ih =>
    intro v0 v1 v2 v3 v4 v5 w o h r hx
    unfold fl_so_findRules_8 at h
    refine tb_Es (k := 2) (st' := (11, [(0, .ref v0), (1, .ref v1), (2, .ref v2), (3, .int v3), (4, .int v4), (5, .int v5)], [.int v3, .int v5], w)) rfl ?_
    refine tb_b_cge rfl (fun hc => ?_) (fun hc => ?_)
    · rw [if_pos hc] at h
      refine tb_Es (k := 2) (st' := (14, [(0, .ref v0), (1, .ref v1), (2, .ref v2), (3, .int v3), (4, .int v4), (5, .int v5)], [.int v5, .ref v2], w)) rfl ?_
      replace h := Option.bind_eq_some_iff.mp h
      obtain ⟨x4, ex4, h⟩ := h
      have hcall := ex4
      refine tb_e_cs (v := some (va_rf x4.1)) rfl rfl rfl (Nat.le_of_ble_eq_true rfl) rfl (Nat.le_of_ble_eq_true rfl) ((dc_x_codeOf hcall).up (by decide)) ?_
      refine tb_q_astore (k := 6) (L' := [(6, va_rf x4.1), (0, .ref v0), (1, .ref v1), (2, .ref v2), (3, .int v3), (4, .int v4), (5, .int v5)]) rfl (Or.inl rfl) (by decide) (by simp [tb_s1, tb_catq, tb_cR, tb_cI, tb_cJ]) ?_
      refine tb_Es (k := 1) (st' := (17, [(6, va_rf x4.1), (0, .ref v0), (1, .ref v1), (2, .ref v2), (3, .int v3), (4, .int v4), (5, .int v5)], [.ref v0], x4.2)) rfl ?_
      replace h := Option.bind_eq_some_iff.mp h
      obtain ⟨p5, ep5, h⟩ := h
      refine tb_e_gN rfl ep5 ?_
      refine tb_Es (k := 1) (st' := (19, [(6, va_rf x4.1), (0, .ref v0), (1, .ref v1), (2, .ref v2), (3, .int v3), (4, .int v4), (5, .int v5)], [.ref v1, .ref p5], x4.2)) rfl ?_
      replace h := Option.bind_eq_some_iff.mp h
      obtain ⟨p6, ep6, h⟩ := h
      refine tb_e_gN rfl ep6 ?_
      replace h := Option.bind_eq_some_iff.mp h
      obtain ⟨x7, ex7, h⟩ := h
      obtain ⟨hkx7, hcall⟩ := tb_on_some ex7
      refine tb_e_cv (v := none) rfl (Or.inl ⟨_, rfl⟩) rfl rfl (Nat.le_of_ble_eq_true rfl) rfl (Nat.le_of_ble_eq_true rfl) hkx7 ((dc_s_copyFrom hcall).up (by decide)) ?_
      refine tb_Es (k := 2) (st' := (23, [(6, va_rf x4.1), (0, .ref v0), (1, .ref v1), (2, .ref v2), (3, .int v3), (4, .int v4), (5, .int v5)], [.ref v1, .ref v0], x7)) rfl ?_
      replace h := Option.bind_eq_some_iff.mp h
      obtain ⟨p8, ep8, h⟩ := h
      refine tb_e_gN rfl ep8 ?_
      refine tb_q_aload (k := 6) rfl (Or.inl rfl) rfl ?_
      replace h := Option.bind_eq_some_iff.mp h
      obtain ⟨x9, ex9, h⟩ := h
      obtain ⟨hkx9, hcall⟩ := tb_on_some ex9
      refine tb_e_cv (as := [.ref p8, va_rf x4.1]) (v := some (.int x9.1)) rfl (Or.inl ⟨_, rfl⟩) rfl rfl (Nat.le_of_ble_eq_true rfl) rfl (by simp only [List.map_cons, List.map_nil, List.sum_cons, List.sum_nil, tb_catq, tb_cR, tb_cI, tb_cJ, tb_cT]; exact Nat.le_of_ble_eq_true rfl) hkx9 ((dc_so_fits hcall).up (by decide)) ?_
      refine tb_b_ieq rfl (fun hc => ?_) (fun hc => ?_)
      · rw [if_pos hc] at h
        refine tb_Es (k := 3) (st' := (9, [(0, .ref v0), (1, .ref v1), (2, .ref v2), (3, .int v3), (4, .int v4), (5, .int (v5 + 1))], [], x9.2)) rfl ?_
        exact ih v0 v1 v2 v3 v4 (v5 + 1) x9.2 _ h r hx
      · rw [if_neg hc] at h
        refine tb_Es (k := 2) (st' := (29, [(6, va_rf x4.1), (0, .ref v0), (1, .ref v1), (2, .ref v2), (3, .int v3), (4, .int v4), (5, .int v5)], [.int v5, .ref v0], x9.2)) rfl ?_
        replace h := Option.bind_eq_some_iff.mp h
        obtain ⟨x10, ex10, h⟩ := h
        obtain ⟨hkx10, hcall⟩ := tb_on_some ex10
        refine tb_e_cv (v := none) rfl (Or.inl ⟨_, rfl⟩) rfl rfl (Nat.le_of_ble_eq_true rfl) rfl (Nat.le_of_ble_eq_true rfl) hkx10 ((dc_so_take hcall).up (by decide)) ?_
        refine tb_Es (k := 1) (st' := (31, [(6, va_rf x4.1), (0, .ref v0), (1, .ref v1), (2, .ref v2), (3, .int v3), (4, .int v4), (5, .int v5)], [.ref v0], x10)) rfl ?_
        replace h := Option.bind_eq_some_iff.mp h
        obtain ⟨p11, ep11, h⟩ := h
        refine tb_e_gN rfl ep11 ?_
        refine tb_Es (k := 1) (st' := (33, [(6, va_rf x4.1), (0, .ref v0), (1, .ref v1), (2, .ref v2), (3, .int v3), (4, .int v4), (5, .int v5)], [.ref v1, .ref p11], x10)) rfl ?_
        replace h := Option.bind_eq_some_iff.mp h
        obtain ⟨p12, ep12, h⟩ := h
        refine tb_e_gN rfl ep12 ?_
        replace h := Option.bind_eq_some_iff.mp h
        obtain ⟨x13, ex13, h⟩ := h
        obtain ⟨hkx13, hcall⟩ := tb_on_some ex13
        refine tb_e_cv (v := none) rfl (Or.inl ⟨_, rfl⟩) rfl rfl (Nat.le_of_ble_eq_true rfl) rfl (Nat.le_of_ble_eq_true rfl) hkx13 ((dc_s_copyFrom hcall).up (by decide)) ?_
        refine tb_Es (k := 1) (st' := (36, [(6, va_rf x4.1), (0, .ref v0), (1, .ref v1), (2, .ref v2), (3, .int v3), (4, .int v4), (5, .int v5)], [.int 0], x13)) rfl ?_
        refine tb_q_istore (k := 7) (L' := [(7, .int 0), (6, va_rf x4.1), (0, .ref v0), (1, .ref v1), (2, .ref v2), (3, .int v3), (4, .int v4), (5, .int v5)]) rfl (Or.inl rfl) (by decide) (by simp [tb_s1, tb_catq, tb_cR, tb_cI, tb_cJ]) ?_
        refine tb_Es (k := 1) (st' := (38, [(0, .ref v0), (1, .ref v1), (2, .ref v2), (3, .int v3), (4, .int v4), (5, .int v5), (6, va_rf x4.1), (7, .int 0)], [], x13)) rfl ?_
        replace h := Option.bind_eq_some_iff.mp h
        obtain ⟨o17, eo17, h⟩ := h
        refine dl_so_findRules_36 _ v0 v1 v2 v3 v4 v5 x4.1 0 x13 _ eo17 r ?_
        refine tb_Es (k := 1) (st' := (52, [(0, .ref o17.1), (1, .ref o17.2.1), (2, .ref o17.2.2.1), (3, .int o17.2.2.2.1), (4, .int o17.2.2.2.2.1), (5, .int o17.2.2.2.2.2.1)], [.ref o17.1], o17.2.2.2.2.2.2)) rfl ?_
        replace h := Option.bind_eq_some_iff.mp h
        obtain ⟨x18, ex18, h⟩ := h
        obtain ⟨hkx18, hcall⟩ := tb_on_some ex18
        refine tb_e_cv (v := none) rfl (Or.inl ⟨_, rfl⟩) rfl rfl (Nat.le_of_ble_eq_true rfl) rfl (Nat.le_of_ble_eq_true rfl) hkx18 ((dc_so_countStanding hcall).up (by decide)) ?_
        refine tb_Es (k := 3) (st' := (9, [(0, .ref o17.1), (1, .ref o17.2.1), (2, .ref o17.2.2.1), (3, .int o17.2.2.2.1), (4, .int o17.2.2.2.2.1), (5, .int (o17.2.2.2.2.2.1 + 1))], [], x18)) rfl ?_
        exact ih o17.1 o17.2.1 o17.2.2.1 o17.2.2.2.1 o17.2.2.2.2.1 (o17.2.2.2.2.2.1 + 1) x18 _ h r hx
    · rw [if_neg hc] at h
      refine tb_Es (k := 1) (st' := (56, [], [], w)) rfl ?_
      obtain rfl := Option.some.inj h
      exact hx
def fb_so_findRules (a0 : Nat) (a1 : Nat) (a2 : Nat) (a3 : Int32) (a4 : Int32) (w : tb_Hp) : Option (tb_Hp) := (tb_on 16 a0 w (fb_so_forget a0 w)).bind fun x1 => (tb_gN 16 4 a0 x1).bind fun p2 => (fb_ar_fill p2 0 x1).bind fun x3 => (fl_so_findRules_8 1048576 a0 a1 a2 a3 a4 (-1) x3).bind fun o19 => some o19
set_option maxHeartbeats 4000000 in
set_option maxRecDepth 20000 in
theorem dc_so_findRules {a0 : Nat} {a1 : Nat} {a2 : Nat} {a3 : Int32} {a4 : Int32} {w : tb_Hp} {o : tb_Hp} (h : fb_so_findRules a0 a1 a2 a3 a4 w = some o) : tb_Ev tb_P 6 155 (0, tb_ent [.ref a0, .ref a1, .ref a2, .int a3, .int a4], [], w) (none, o) := by
  unfold fb_so_findRules at h
  obtain ⟨r, hr⟩ : ∃ r : Option Value × tb_Hp, r = (none, o) := ⟨_, rfl⟩
  rw [← hr]
  show tb_Ev tb_P 6 155 (0, [(0, .ref a0), (1, .ref a1), (2, .ref a2), (3, .int a3), (4, .int a4)], [], w) r
  refine tb_Es (k := 1) (st' := (1, [(0, .ref a0), (1, .ref a1), (2, .ref a2), (3, .int a3), (4, .int a4)], [.ref a0], w)) rfl ?_
  replace h := Option.bind_eq_some_iff.mp h
  obtain ⟨x1, ex1, h⟩ := h
  obtain ⟨hkx1, hcall⟩ := tb_on_some ex1
  refine tb_e_cv (v := none) rfl (Or.inl ⟨_, rfl⟩) rfl rfl (Nat.le_of_ble_eq_true rfl) rfl (Nat.le_of_ble_eq_true rfl) hkx1 ((dc_so_forget hcall).up (by decide)) ?_
  refine tb_Es (k := 1) (st' := (3, [(0, .ref a0), (1, .ref a1), (2, .ref a2), (3, .int a3), (4, .int a4)], [.ref a0], x1)) rfl ?_
  replace h := Option.bind_eq_some_iff.mp h
  obtain ⟨p2, ep2, h⟩ := h
  refine tb_e_gN rfl ep2 ?_
  refine tb_Es (k := 1) (st' := (5, [(0, .ref a0), (1, .ref a1), (2, .ref a2), (3, .int a3), (4, .int a4)], [.int 0, .ref p2], x1)) rfl ?_
  replace h := Option.bind_eq_some_iff.mp h
  obtain ⟨x3, ex3, h⟩ := h
  have hcall := ex3
  refine tb_e_cs (v := none) rfl rfl rfl (Nat.le_of_ble_eq_true rfl) rfl (Nat.le_of_ble_eq_true rfl) ((dc_ar_fill hcall).up (by decide)) ?_
  refine tb_Es (k := 3) (st' := (9, [(0, .ref a0), (1, .ref a1), (2, .ref a2), (3, .int a3), (4, .int a4), (5, .int (-1))], [], x3)) rfl ?_
  replace h := Option.bind_eq_some_iff.mp h
  obtain ⟨o19, eo19, h⟩ := h
  refine dl_so_findRules_8 _ a0 a1 a2 a3 a4 (-1) x3 _ eo19 r ?_
  obtain rfl := Option.some.inj h
  subst hr
  exact tb_Er rfl rfl
