/-! TannerBuntingModel.value()Z -/
def fb_m_value (a0 : Nat) (w : tb_Hp) : Option (Int32 × tb_Hp) := (tb_on 22 a0 w (fb_m_see a0 w)).bind fun x1 => (tb_gI 22 8 a0 x1.2).bind fun x2 => (tb_gI 22 8 a0 x1.2).bind fun x3 => (tb_on 22 a0 x1.2 (fb_m_isDigit a0 x3 x1.2)).bind fun x4 => (if x4.1 = 0 then (tb_on 22 a0 x4.2 (fb_m_wordHere a0 x4.2)).bind fun x5 => (if x5.1 < 0 then (tb_on 22 a0 x5.2 (fb_m_fails a0 0 x2 x5.2)).bind fun x6 => tb_z x6.1 x6.2 else (tb_on 22 a0 x5.2 (fb_m_makes a0 x2 x5.2)).bind fun x7 => (if x7.1 = 0 then some (0, x7.2) else (tb_on 22 a0 x7.2 (fb_m_passWord a0 x7.2)).bind fun x8 => (tb_on 22 a0 x8 (fb_m_puts a0 1 x5.1 x8)).bind fun x9 => some (1, x9))) else (tb_on 22 a0 x4.2 (fb_m_numberHere a0 0 99999 x4.2)).bind fun x10 => (if x10.1 = 0 then some (0, x10.2) else (tb_on 22 a0 x10.2 (fb_m_makes a0 x2 x10.2)).bind fun x11 => (if x11.1 = 0 then some (0, x11.2) else (tb_gI 22 10 a0 x11.2).bind fun x12 => (tb_on 22 a0 x11.2 (fb_m_puts a0 0 x12 x11.2)).bind fun x13 => some (1, x13))))
set_option maxHeartbeats 4000000 in
set_option maxRecDepth 20000 in
theorem dc_m_value {a0 : Nat} {w : tb_Hp} {o : Int32 × tb_Hp} (h : fb_m_value a0 w = some o) : tb_Ev tb_P 3 194 (0, tb_ent [.ref a0], [], w) (some (.int o.1), o.2) := by
  unfold fb_m_value at h
  obtain ⟨r, hr⟩ : ∃ r : Option Value × tb_Hp, r = (some (.int o.1), o.2) := ⟨_, rfl⟩
  rw [← hr]
  show tb_Ev tb_P 3 194 (0, [(0, .ref a0)], [], w) r
  refine tb_Es (k := 1) (st' := (1, [(0, .ref a0)], [.ref a0], w)) rfl ?_
  replace h := Option.bind_eq_some_iff.mp h
  obtain ⟨x1, ex1, h⟩ := h
  obtain ⟨hkx1, hcall⟩ := tb_on_some ex1
  refine tb_e_cv (v := some (.int x1.1)) rfl (Or.inl ⟨_, rfl⟩) rfl rfl (Nat.le_of_ble_eq_true rfl) rfl (Nat.le_of_ble_eq_true rfl) hkx1 ((dc_m_see hcall).up (by decide)) ?_
  refine tb_Es (k := 2) (st' := (4, [(0, .ref a0)], [.ref a0], x1.2)) rfl ?_
  replace h := Option.bind_eq_some_iff.mp h
  obtain ⟨x2, ex2, h⟩ := h
  refine tb_e_gI rfl ex2 ?_
  refine tb_Es (k := 3) (st' := (8, [(1, .int x2), (0, .ref a0)], [.ref a0, .ref a0], x1.2)) rfl ?_
  replace h := Option.bind_eq_some_iff.mp h
  obtain ⟨x3, ex3, h⟩ := h
  refine tb_e_gI rfl ex3 ?_
  replace h := Option.bind_eq_some_iff.mp h
  obtain ⟨x4, ex4, h⟩ := h
  obtain ⟨hkx4, hcall⟩ := tb_on_some ex4
  refine tb_e_cv (v := some (.int x4.1)) rfl (Or.inl ⟨_, rfl⟩) rfl rfl (Nat.le_of_ble_eq_true rfl) rfl (Nat.le_of_ble_eq_true rfl) hkx4 ((dc_m_isDigit hcall).up (by decide)) ?_
  refine tb_b_ieq rfl (fun hc => ?_) (fun hc => ?_)
  · rw [if_pos hc] at h
    refine tb_Es (k := 1) (st' := (30, [(1, .int x2), (0, .ref a0)], [.ref a0], x4.2)) rfl ?_
    replace h := Option.bind_eq_some_iff.mp h
    obtain ⟨x5, ex5, h⟩ := h
    obtain ⟨hkx5, hcall⟩ := tb_on_some ex5
    refine tb_e_cv (v := some (.int x5.1)) rfl (Or.inl ⟨_, rfl⟩) rfl rfl (Nat.le_of_ble_eq_true rfl) rfl (Nat.le_of_ble_eq_true rfl) hkx5 ((dc_m_wordHere hcall).up (by decide)) ?_
    refine tb_Es (k := 2) (st' := (33, [(2, .int x5.1), (1, .int x2), (0, .ref a0)], [.int x5.1], x5.2)) rfl ?_
    refine tb_b_ige rfl (fun hc => ?_) (fun hc => ?_)
    · rw [if_pos hc] at h
      refine tb_Es (k := 3) (st' := (37, [(2, .int x5.1), (1, .int x2), (0, .ref a0)], [.int x2, .int 0, .ref a0], x5.2)) rfl ?_
      replace h := Option.bind_eq_some_iff.mp h
      obtain ⟨x6, ex6, h⟩ := h
      obtain ⟨hkx6, hcall⟩ := tb_on_some ex6
      refine tb_e_cv (v := some (.int x6.1)) rfl (Or.inl ⟨_, rfl⟩) rfl rfl (Nat.le_of_ble_eq_true rfl) rfl (Nat.le_of_ble_eq_true rfl) hkx6 ((dc_m_fails hcall).up (by decide)) ?_
      subst hr
      exact tb_r_z rfl h
    · rw [if_neg hc] at h
      refine tb_Es (k := 2) (st' := (41, [(2, .int x5.1), (1, .int x2), (0, .ref a0)], [.int x2, .ref a0], x5.2)) rfl ?_
      replace h := Option.bind_eq_some_iff.mp h
      obtain ⟨x7, ex7, h⟩ := h
      obtain ⟨hkx7, hcall⟩ := tb_on_some ex7
      refine tb_e_cv (v := some (.int x7.1)) rfl (Or.inl ⟨_, rfl⟩) rfl rfl (Nat.le_of_ble_eq_true rfl) rfl (Nat.le_of_ble_eq_true rfl) hkx7 ((dc_m_makes hcall).up (by decide)) ?_
      refine tb_b_ine rfl (fun hc => ?_) (fun hc => ?_)
      · rw [if_pos hc] at h
        refine tb_Es (k := 1) (st' := (44, [(2, .int x5.1), (1, .int x2), (0, .ref a0)], [.int 0], x7.2)) rfl ?_
        obtain rfl := Option.some.inj h
        subst hr
        exact tb_Er rfl rfl
      · rw [if_neg hc] at h
        refine tb_Es (k := 1) (st' := (46, [(2, .int x5.1), (1, .int x2), (0, .ref a0)], [.ref a0], x7.2)) rfl ?_
        replace h := Option.bind_eq_some_iff.mp h
        obtain ⟨x8, ex8, h⟩ := h
        obtain ⟨hkx8, hcall⟩ := tb_on_some ex8
        refine tb_e_cv (v := none) rfl (Or.inl ⟨_, rfl⟩) rfl rfl (Nat.le_of_ble_eq_true rfl) rfl (Nat.le_of_ble_eq_true rfl) hkx8 ((dc_m_passWord hcall).up (by decide)) ?_
        refine tb_Es (k := 3) (st' := (50, [(2, .int x5.1), (1, .int x2), (0, .ref a0)], [.int x5.1, .int 1, .ref a0], x8)) rfl ?_
        replace h := Option.bind_eq_some_iff.mp h
        obtain ⟨x9, ex9, h⟩ := h
        obtain ⟨hkx9, hcall⟩ := tb_on_some ex9
        refine tb_e_cv (v := none) rfl (Or.inl ⟨_, rfl⟩) rfl rfl (Nat.le_of_ble_eq_true rfl) rfl (Nat.le_of_ble_eq_true rfl) hkx9 ((dc_m_puts hcall).up (by decide)) ?_
        refine tb_Es (k := 1) (st' := (52, [(2, .int x5.1), (1, .int x2), (0, .ref a0)], [.int 1], x9)) rfl ?_
        obtain rfl := Option.some.inj h
        subst hr
        exact tb_Er rfl rfl
  · rw [if_neg hc] at h
    refine tb_Es (k := 3) (st' := (14, [(1, .int x2), (0, .ref a0)], [.int 99999, .int 0, .ref a0], x4.2)) rfl ?_
    replace h := Option.bind_eq_some_iff.mp h
    obtain ⟨x10, ex10, h⟩ := h
    obtain ⟨hkx10, hcall⟩ := tb_on_some ex10
    refine tb_e_cv (v := some (.int x10.1)) rfl (Or.inl ⟨_, rfl⟩) rfl rfl (Nat.le_of_ble_eq_true rfl) rfl (Nat.le_of_ble_eq_true rfl) hkx10 ((dc_m_numberHere hcall).up (by decide)) ?_
    refine tb_b_ieq rfl (fun hc => ?_) (fun hc => ?_)
    · rw [if_pos hc] at h
      refine tb_Es (k := 1) (st' := (21, [(1, .int x2), (0, .ref a0)], [.int 0], x10.2)) rfl ?_
      obtain rfl := Option.some.inj h
      subst hr
      exact tb_Er rfl rfl
    · rw [if_neg hc] at h
      refine tb_Es (k := 2) (st' := (18, [(1, .int x2), (0, .ref a0)], [.int x2, .ref a0], x10.2)) rfl ?_
      replace h := Option.bind_eq_some_iff.mp h
      obtain ⟨x11, ex11, h⟩ := h
      obtain ⟨hkx11, hcall⟩ := tb_on_some ex11
      refine tb_e_cv (v := some (.int x11.1)) rfl (Or.inl ⟨_, rfl⟩) rfl rfl (Nat.le_of_ble_eq_true rfl) rfl (Nat.le_of_ble_eq_true rfl) hkx11 ((dc_m_makes hcall).up (by decide)) ?_
      refine tb_b_ine rfl (fun hc => ?_) (fun hc => ?_)
      · rw [if_pos hc] at h
        refine tb_Es (k := 1) (st' := (21, [(1, .int x2), (0, .ref a0)], [.int 0], x11.2)) rfl ?_
        obtain rfl := Option.some.inj h
        subst hr
        exact tb_Er rfl rfl
      · rw [if_neg hc] at h
        refine tb_Es (k := 3) (st' := (25, [(1, .int x2), (0, .ref a0)], [.ref a0, .int 0, .ref a0], x11.2)) rfl ?_
        replace h := Option.bind_eq_some_iff.mp h
        obtain ⟨x12, ex12, h⟩ := h
        refine tb_e_gI rfl ex12 ?_
        replace h := Option.bind_eq_some_iff.mp h
        obtain ⟨x13, ex13, h⟩ := h
        obtain ⟨hkx13, hcall⟩ := tb_on_some ex13
        refine tb_e_cv (v := none) rfl (Or.inl ⟨_, rfl⟩) rfl rfl (Nat.le_of_ble_eq_true rfl) rfl (Nat.le_of_ble_eq_true rfl) hkx13 ((dc_m_puts hcall).up (by decide)) ?_
        refine tb_Es (k := 1) (st' := (28, [(1, .int x2), (0, .ref a0)], [.int 1], x13)) rfl ?_
        obtain rfl := Option.some.inj h
        subst hr
        exact tb_Er rfl rfl
/-! TannerBuntingModel.linesAt(I)I -/
def fl_m_linesAt_4 : Nat → Nat → Int32 → Int32 → Int32 → tb_Hp → Option (Int32 × tb_Hp)
  | 0, _, _, _, _, _ => none
  | n + 1, v0, v1, v2, v3, w => (tb_gN 22 20 v0 w).bind fun p1 => (tb_lI [1, 9] p1 11 w).bind fun x2 => (if v3 < x2 then (tb_on 22 v0 w (fb_m_isAt v0 v3 v1 w)).bind fun x3 => (if x3.1 = 0 then fl_m_linesAt_4 n v0 v1 (v2 ||| 0) (v3 + 1) x3.2 else fl_m_linesAt_4 n v0 v1 (v2 ||| (1 <<< (v3 &&& 31))) (v3 + 1) x3.2) else some ((v2, w)))
set_option maxHeartbeats 4000000 in
set_option maxRecDepth 20000 in
theorem dl_m_linesAt_4 : ∀ (n : Nat) (v0 : Nat) (v1 : Int32) (v2 : Int32) (v3 : Int32) (w : tb_Hp) (o : Int32 × tb_Hp), fl_m_linesAt_4 n v0 v1 v2 v3 w = some o → ∀ (r : Option Value × tb_Hp), tb_Ev tb_P 3 215 (27, [(2, .int o.1)], [], o.2) r → tb_Ev tb_P 3 215 (5, [(0, .ref v0), (1, .int v1), (2, .int v2), (3, .int v3)], [], w) r := by
  intro n
  induction n with
  | zero =>
    intro v0 v1 v2 v3 w o h
    cases h
  | succ n ih =>
    intro v0 v1 v2 v3 w o h r hx
    unfold fl_m_linesAt_4 at h
    refine tb_Es (k := 2) (st' := (7, [(0, .ref v0), (1, .int v1), (2, .int v2), (3, .int v3)], [.ref v0, .int v3], w)) rfl ?_
    replace h := Option.bind_eq_some_iff.mp h
    obtain ⟨p1, ep1, h⟩ := h
    refine tb_e_gN rfl ep1 ?_
    refine tb_Es (k := 1) (st' := (9, [(0, .ref v0), (1, .int v1), (2, .int v2), (3, .int v3)], [.int 11, .ref p1, .int v3], w)) rfl ?_
    replace h := Option.bind_eq_some_iff.mp h
    obtain ⟨x2, ex2, h⟩ := h
    refine tb_e_lI rfl (Or.inl ⟨rfl, rfl⟩) ex2 ?_
    refine tb_b_cge rfl (fun hc => ?_) (fun hc => ?_)
    · rw [if_pos hc] at h
      refine tb_Es (k := 4) (st' := (15, [(0, .ref v0), (1, .int v1), (2, .int v2), (3, .int v3)], [.int v1, .int v3, .ref v0, .int v2], w)) rfl ?_
      replace h := Option.bind_eq_some_iff.mp h
      obtain ⟨x3, ex3, h⟩ := h
      obtain ⟨hkx3, hcall⟩ := tb_on_some ex3
      refine tb_e_cv (v := some (.int x3.1)) rfl (Or.inl ⟨_, rfl⟩) rfl rfl (Nat.le_of_ble_eq_true rfl) rfl (Nat.le_of_ble_eq_true rfl) hkx3 ((dc_m_isAt hcall).up (by decide)) ?_
      refine tb_b_ieq rfl (fun hc => ?_) (fun hc => ?_)
      · rw [if_pos hc] at h
        refine tb_Es (k := 6) (st' := (5, [(0, .ref v0), (1, .int v1), (2, .int (v2 ||| 0)), (3, .int (v3 + 1))], [], x3.2)) rfl ?_
        exact ih v0 v1 (v2 ||| 0) (v3 + 1) x3.2 _ h r hx
      · rw [if_neg hc] at h
        refine tb_Es (k := 9) (st' := (5, [(0, .ref v0), (1, .int v1), (2, .int (v2 ||| (1 <<< (v3 &&& 31)))), (3, .int (v3 + 1))], [], x3.2)) rfl ?_
        exact ih v0 v1 (v2 ||| (1 <<< (v3 &&& 31))) (v3 + 1) x3.2 _ h r hx
    · rw [if_neg hc] at h
      refine tb_Es (k := 1) (st' := (27, [(2, .int v2)], [], w)) rfl ?_
      obtain rfl := Option.some.inj h
      exact hx
def fb_m_linesAt (a0 : Nat) (a1 : Int32) (w : tb_Hp) : Option (Int32 × tb_Hp) := (fl_m_linesAt_4 1048576 a0 a1 0 0 w).bind fun o4 => some (o4.1, o4.2)
set_option maxHeartbeats 4000000 in
set_option maxRecDepth 20000 in
theorem dc_m_linesAt {a0 : Nat} {a1 : Int32} {w : tb_Hp} {o : Int32 × tb_Hp} (h : fb_m_linesAt a0 a1 w = some o) : tb_Ev tb_P 3 215 (0, tb_ent [.ref a0, .int a1], [], w) (some (.int o.1), o.2) := by
  unfold fb_m_linesAt at h
  obtain ⟨r, hr⟩ : ∃ r : Option Value × tb_Hp, r = (some (.int o.1), o.2) := ⟨_, rfl⟩
  rw [← hr]
  show tb_Ev tb_P 3 215 (0, [(0, .ref a0), (1, .int a1)], [], w) r
  refine tb_Es (k := 5) (st' := (5, [(0, .ref a0), (1, .int a1), (2, .int 0), (3, .int 0)], [], w)) rfl ?_
  replace h := Option.bind_eq_some_iff.mp h
  obtain ⟨o4, eo4, h⟩ := h
  refine dl_m_linesAt_4 _ a0 a1 0 0 w _ eo4 r ?_
  refine tb_Es (k := 1) (st' := (28, [(2, .int o4.1)], [.int o4.1], o4.2)) rfl ?_
  obtain rfl := Option.some.inj h
  subst hr
  exact tb_Er rfl rfl
/-! TannerBuntingModel.standingOnes()I -/
def fl_m_standingOnes_4 : Nat → Nat → Int32 → Int32 → tb_Hp → Option (Int32 × tb_Hp)
  | 0, _, _, _, _ => none
  | n + 1, v0, v1, v2, w => (tb_on 22 v0 w (fb_m_houses v0 w)).bind fun x1 => (if v2 < x1.1 then (tb_on 22 v0 x1.2 (fb_m_isStanding v0 v2 x1.2)).bind fun x2 => (if x2.1 = 0 then fl_m_standingOnes_4 n v0 (v1 ||| 0) (v2 + 1) x2.2 else fl_m_standingOnes_4 n v0 (v1 ||| (1 <<< (v2 &&& 31))) (v2 + 1) x2.2) else some ((v1, x1.2)))
set_option maxHeartbeats 4000000 in
set_option maxRecDepth 20000 in
theorem dl_m_standingOnes_4 : ∀ (n : Nat) (v0 : Nat) (v1 : Int32) (v2 : Int32) (w : tb_Hp) (o : Int32 × tb_Hp), fl_m_standingOnes_4 n v0 v1 v2 w = some o → ∀ (r : Option Value × tb_Hp), tb_Ev tb_P 3 232 (24, [(1, .int o.1)], [], o.2) r → tb_Ev tb_P 3 232 (5, [(0, .ref v0), (1, .int v1), (2, .int v2)], [], w) r := by
  intro n
  induction n with
  | zero =>
    intro v0 v1 v2 w o h
    cases h
  | succ n ih =>
    intro v0 v1 v2 w o h r hx
    unfold fl_m_standingOnes_4 at h
    refine tb_Es (k := 2) (st' := (7, [(0, .ref v0), (1, .int v1), (2, .int v2)], [.ref v0, .int v2], w)) rfl ?_
    replace h := Option.bind_eq_some_iff.mp h
    obtain ⟨x1, ex1, h⟩ := h
    obtain ⟨hkx1, hcall⟩ := tb_on_some ex1
    refine tb_e_cv (v := some (.int x1.1)) rfl (Or.inl ⟨_, rfl⟩) rfl rfl (Nat.le_of_ble_eq_true rfl) rfl (Nat.le_of_ble_eq_true rfl) hkx1 ((dc_m_houses hcall).up (by decide)) ?_
    refine tb_b_cge rfl (fun hc => ?_) (fun hc => ?_)
    · rw [if_pos hc] at h
      refine tb_Es (k := 3) (st' := (12, [(0, .ref v0), (1, .int v1), (2, .int v2)], [.int v2, .ref v0, .int v1], x1.2)) rfl ?_
      replace h := Option.bind_eq_some_iff.mp h
      obtain ⟨x2, ex2, h⟩ := h
      obtain ⟨hkx2, hcall⟩ := tb_on_some ex2
      refine tb_e_cv (v := some (.int x2.1)) rfl (Or.inl ⟨_, rfl⟩) rfl rfl (Nat.le_of_ble_eq_true rfl) rfl (Nat.le_of_ble_eq_true rfl) hkx2 ((dc_m_isStanding hcall).up (by decide)) ?_
      refine tb_b_ieq rfl (fun hc => ?_) (fun hc => ?_)
      · rw [if_pos hc] at h
        refine tb_Es (k := 6) (st' := (5, [(0, .ref v0), (1, .int (v1 ||| 0)), (2, .int (v2 + 1))], [], x2.2)) rfl ?_
        exact ih v0 (v1 ||| 0) (v2 + 1) x2.2 _ h r hx
      · rw [if_neg hc] at h
        refine tb_Es (k := 9) (st' := (5, [(0, .ref v0), (1, .int (v1 ||| (1 <<< (v2 &&& 31)))), (2, .int (v2 + 1))], [], x2.2)) rfl ?_
        exact ih v0 (v1 ||| (1 <<< (v2 &&& 31))) (v2 + 1) x2.2 _ h r hx
    · rw [if_neg hc] at h
      refine tb_Es (k := 1) (st' := (24, [(1, .int v1)], [], x1.2)) rfl ?_
      obtain rfl := Option.some.inj h
      exact hx
def fb_m_standingOnes (a0 : Nat) (w : tb_Hp) : Option (Int32 × tb_Hp) := (fl_m_standingOnes_4 1048576 a0 0 0 w).bind fun o3 => some (o3.1, o3.2)
set_option maxHeartbeats 4000000 in
set_option maxRecDepth 20000 in
theorem dc_m_standingOnes {a0 : Nat} {w : tb_Hp} {o : Int32 × tb_Hp} (h : fb_m_standingOnes a0 w = some o) : tb_Ev tb_P 3 232 (0, tb_ent [.ref a0], [], w) (some (.int o.1), o.2) := by
  unfold fb_m_standingOnes at h
  obtain ⟨r, hr⟩ : ∃ r : Option Value × tb_Hp, r = (some (.int o.1), o.2) := ⟨_, rfl⟩
  rw [← hr]
  show tb_Ev tb_P 3 232 (0, [(0, .ref a0)], [], w) r
  refine tb_Es (k := 5) (st' := (5, [(0, .ref a0), (1, .int 0), (2, .int 0)], [], w)) rfl ?_
  replace h := Option.bind_eq_some_iff.mp h
  obtain ⟨o3, eo3, h⟩ := h
  refine dl_m_standingOnes_4 _ a0 0 0 w _ eo3 r ?_
  refine tb_Es (k := 1) (st' := (25, [(1, .int o3.1)], [.int o3.1], o3.2)) rfl ?_
  obtain rfl := Option.some.inj h
  subst hr
  exact tb_Er rfl rfl
/-! TannerBuntingModel.spareOf(I)I -/
def fl_m_spareOf_16 : Nat → Nat → Int32 → Int32 → Int32 → tb_Hp → Option (Int32 × tb_Hp)
  | 0, _, _, _, _, _ => none
  | n + 1, v0, v1, v2, v3, w => (tb_gN 22 20 v0 w).bind fun p5 => (tb_lI [1, 9] p5 11 w).bind fun x6 => (if v3 < x6 then (tb_on 22 v0 w (fb_m_isAt v0 v3 v1 w)).bind fun x7 => (if x7.1 = 0 then fl_m_spareOf_16 n v0 v1 (v2 + 0) (v3 + 1) x7.2 else (tb_on 22 v0 x7.2 (fb_m_pullOf v0 v3 x7.2)).bind fun x8 => fl_m_spareOf_16 n v0 v1 (v2 + x8.1) (v3 + 1) x8.2) else some ((v2, w)))
set_option maxHeartbeats 4000000 in
set_option maxRecDepth 20000 in
theorem dl_m_spareOf_16 : ∀ (n : Nat) (v0 : Nat) (v1 : Int32) (v2 : Int32) (v3 : Int32) (w : tb_Hp) (o : Int32 × tb_Hp), fl_m_spareOf_16 n v0 v1 v2 v3 w = some o → ∀ (r : Option Value × tb_Hp), tb_Ev tb_P 3 245 (39, [(2, .int o.1)], [], o.2) r → tb_Ev tb_P 3 245 (17, [(0, .ref v0), (1, .int v1), (2, .int v2), (3, .int v3)], [], w) r := by
  intro n
  induction n with
  | zero =>
    intro v0 v1 v2 v3 w o h
    cases h
  | succ n ih =>
    intro v0 v1 v2 v3 w o h r hx
    unfold fl_m_spareOf_16 at h
    refine tb_Es (k := 2) (st' := (19, [(0, .ref v0), (1, .int v1), (2, .int v2), (3, .int v3)], [.ref v0, .int v3], w)) rfl ?_
    replace h := Option.bind_eq_some_iff.mp h
    obtain ⟨p5, ep5, h⟩ := h
    refine tb_e_gN rfl ep5 ?_
    refine tb_Es (k := 1) (st' := (21, [(0, .ref v0), (1, .int v1), (2, .int v2), (3, .int v3)], [.int 11, .ref p5, .int v3], w)) rfl ?_
    replace h := Option.bind_eq_some_iff.mp h
    obtain ⟨x6, ex6, h⟩ := h
    refine tb_e_lI rfl (Or.inl ⟨rfl, rfl⟩) ex6 ?_
    refine tb_b_cge rfl (fun hc => ?_) (fun hc => ?_)
    · rw [if_pos hc] at h
      refine tb_Es (k := 4) (st' := (27, [(0, .ref v0), (1, .int v1), (2, .int v2), (3, .int v3)], [.int v1, .int v3, .ref v0, .int v2], w)) rfl ?_
      replace h := Option.bind_eq_some_iff.mp h
      obtain ⟨x7, ex7, h⟩ := h
      obtain ⟨hkx7, hcall⟩ := tb_on_some ex7
      refine tb_e_cv (v := some (.int x7.1)) rfl (Or.inl ⟨_, rfl⟩) rfl rfl (Nat.le_of_ble_eq_true rfl) rfl (Nat.le_of_ble_eq_true rfl) hkx7 ((dc_m_isAt hcall).up (by decide)) ?_
      refine tb_b_ieq rfl (fun hc => ?_) (fun hc => ?_)
      · rw [if_pos hc] at h
        refine tb_Es (k := 6) (st' := (17, [(0, .ref v0), (1, .int v1), (2, .int (v2 + 0)), (3, .int (v3 + 1))], [], x7.2)) rfl ?_
        exact ih v0 v1 (v2 + 0) (v3 + 1) x7.2 _ h r hx
      · rw [if_neg hc] at h
        refine tb_Es (k := 2) (st' := (31, [(0, .ref v0), (1, .int v1), (2, .int v2), (3, .int v3)], [.int v3, .ref v0, .int v2], x7.2)) rfl ?_
        replace h := Option.bind_eq_some_iff.mp h
        obtain ⟨x8, ex8, h⟩ := h
        obtain ⟨hkx8, hcall⟩ := tb_on_some ex8
        refine tb_e_cv (v := some (.int x8.1)) rfl (Or.inl ⟨_, rfl⟩) rfl rfl (Nat.le_of_ble_eq_true rfl) rfl (Nat.le_of_ble_eq_true rfl) hkx8 ((dc_m_pullOf hcall).up (by decide)) ?_
        refine tb_Es (k := 6) (st' := (17, [(0, .ref v0), (1, .int v1), (2, .int (v2 + x8.1)), (3, .int (v3 + 1))], [], x8.2)) rfl ?_
        exact ih v0 v1 (v2 + x8.1) (v3 + 1) x8.2 _ h r hx
    · rw [if_neg hc] at h
      refine tb_Es (k := 1) (st' := (39, [(2, .int v2)], [], w)) rfl ?_
      obtain rfl := Option.some.inj h
      exact hx
def fb_m_spareOf (a0 : Nat) (a1 : Int32) (w : tb_Hp) : Option (Int32 × tb_Hp) := (tb_gN 22 20 a0 w).bind fun p1 => (tb_lI [1, 9] p1 (22 + a1) w).bind fun x2 => (tb_gN 22 20 a0 w).bind fun p3 => (tb_lI [1, 9] p3 (12 + a1) w).bind fun x4 => (fl_m_spareOf_16 1048576 a0 a1 (x2 - x4) 0 w).bind fun o9 => some (o9.1, o9.2)
set_option maxHeartbeats 4000000 in
set_option maxRecDepth 20000 in
theorem dc_m_spareOf {a0 : Nat} {a1 : Int32} {w : tb_Hp} {o : Int32 × tb_Hp} (h : fb_m_spareOf a0 a1 w = some o) : tb_Ev tb_P 3 245 (0, tb_ent [.ref a0, .int a1], [], w) (some (.int o.1), o.2) := by
  unfold fb_m_spareOf at h
  obtain ⟨r, hr⟩ : ∃ r : Option Value × tb_Hp, r = (some (.int o.1), o.2) := ⟨_, rfl⟩
  rw [← hr]
  show tb_Ev tb_P 3 245 (0, [(0, .ref a0), (1, .int a1)], [], w) r
  refine tb_Es (k := 1) (st' := (1, [(0, .ref a0), (1, .int a1)], [.ref a0], w)) rfl ?_
  replace h := Option.bind_eq_some_iff.mp h
  obtain ⟨p1, ep1, h⟩ := h
  refine tb_e_gN rfl ep1 ?_
  refine tb_Es (k := 3) (st' := (5, [(0, .ref a0), (1, .int a1)], [.int (22 + a1), .ref p1], w)) rfl ?_
  replace h := Option.bind_eq_some_iff.mp h
  obtain ⟨x2, ex2, h⟩ := h
  refine tb_e_lI rfl (Or.inl ⟨rfl, rfl⟩) ex2 ?_
  refine tb_Es (k := 1) (st' := (7, [(0, .ref a0), (1, .int a1)], [.ref a0, .int x2], w)) rfl ?_
  replace h := Option.bind_eq_some_iff.mp h
  obtain ⟨p3, ep3, h⟩ := h
  refine tb_e_gN rfl ep3 ?_
  refine tb_Es (k := 3) (st' := (11, [(0, .ref a0), (1, .int a1)], [.int (12 + a1), .ref p3, .int x2], w)) rfl ?_
  replace h := Option.bind_eq_some_iff.mp h
  obtain ⟨x4, ex4, h⟩ := h
  refine tb_e_lI rfl (Or.inl ⟨rfl, rfl⟩) ex4 ?_
  refine tb_Es (k := 5) (st' := (17, [(0, .ref a0), (1, .int a1), (2, .int (x2 - x4)), (3, .int 0)], [], w)) rfl ?_
  replace h := Option.bind_eq_some_iff.mp h
  obtain ⟨o9, eo9, h⟩ := h
  refine dl_m_spareOf_16 _ a0 a1 (x2 - x4) 0 w _ eo9 r ?_
  refine tb_Es (k := 1) (st' := (40, [(2, .int o9.1)], [.int o9.1], o9.2)) rfl ?_
  obtain rfl := Option.some.inj h
  subst hr
  exact tb_Er rfl rfl
/-! TannerBuntingModel.canHang(II)Z -/
def fb_m_canHang (a0 : Nat) (a1 : Int32) (a2 : Int32) (w : tb_Hp) : Option (Int32 × tb_Hp) := (tb_on 22 a0 w (fb_m_isStanding a0 a1 w)).bind fun x1 => (if x1.1 = 0 then some (0, x1.2) else (tb_on 22 a0 x1.2 (fb_m_isStanding a0 a2 x1.2)).bind fun x2 => (if x2.1 = 0 then some (0, x2.2) else (tb_gN 22 20 a0 x2.2).bind fun p3 => (tb_lI [1, 9] p3 1 x2.2).bind fun x4 => (if a1 < x4 then (tb_gN 22 20 a0 x2.2).bind fun p5 => (tb_lI [1, 9] p5 1 x2.2).bind fun x6 => (if a2 < x6 then some (0, x2.2) else (tb_on 22 a0 x2.2 (fb_m_linesUp a0 x2.2)).bind fun x7 => (fb_m_bits x7.1 x7.2).bind fun x8 => (if x8.1 < 8 then some (1, x8.2) else some (0, x8.2))) else some (0, x2.2))))
set_option maxHeartbeats 4000000 in
set_option maxRecDepth 20000 in
theorem dc_m_canHang {a0 : Nat} {a1 : Int32} {a2 : Int32} {w : tb_Hp} {o : Int32 × tb_Hp} (h : fb_m_canHang a0 a1 a2 w = some o) : tb_Ev tb_P 3 249 (0, tb_ent [.ref a0, .int a1, .int a2], [], w) (some (.int o.1), o.2) := by
  unfold fb_m_canHang at h
  obtain ⟨r, hr⟩ : ∃ r : Option Value × tb_Hp, r = (some (.int o.1), o.2) := ⟨_, rfl⟩
  rw [← hr]
  show tb_Ev tb_P 3 249 (0, [(0, .ref a0), (1, .int a1), (2, .int a2)], [], w) r
  refine tb_Es (k := 2) (st' := (2, [(0, .ref a0), (1, .int a1), (2, .int a2)], [.int a1, .ref a0], w)) rfl ?_
  replace h := Option.bind_eq_some_iff.mp h
  obtain ⟨x1, ex1, h⟩ := h
  obtain ⟨hkx1, hcall⟩ := tb_on_some ex1
  refine tb_e_cv (v := some (.int x1.1)) rfl (Or.inl ⟨_, rfl⟩) rfl rfl (Nat.le_of_ble_eq_true rfl) rfl (Nat.le_of_ble_eq_true rfl) hkx1 ((dc_m_isStanding hcall).up (by decide)) ?_
  refine tb_b_ieq rfl (fun hc => ?_) (fun hc => ?_)
  · rw [if_pos hc] at h
    refine tb_Es (k := 1) (st' := (28, [(0, .ref a0), (1, .int a1), (2, .int a2)], [.int 0], x1.2)) rfl ?_
    obtain rfl := Option.some.inj h
    subst hr
    exact tb_Er rfl rfl
  · rw [if_neg hc] at h
    refine tb_Es (k := 2) (st' := (6, [(0, .ref a0), (1, .int a1), (2, .int a2)], [.int a2, .ref a0], x1.2)) rfl ?_
    replace h := Option.bind_eq_some_iff.mp h
    obtain ⟨x2, ex2, h⟩ := h
    obtain ⟨hkx2, hcall⟩ := tb_on_some ex2
    refine tb_e_cv (v := some (.int x2.1)) rfl (Or.inl ⟨_, rfl⟩) rfl rfl (Nat.le_of_ble_eq_true rfl) rfl (Nat.le_of_ble_eq_true rfl) hkx2 ((dc_m_isStanding hcall).up (by decide)) ?_
    refine tb_b_ieq rfl (fun hc => ?_) (fun hc => ?_)
    · rw [if_pos hc] at h
      refine tb_Es (k := 1) (st' := (28, [(0, .ref a0), (1, .int a1), (2, .int a2)], [.int 0], x2.2)) rfl ?_
      obtain rfl := Option.some.inj h
      subst hr
      exact tb_Er rfl rfl
    · rw [if_neg hc] at h
      refine tb_Es (k := 2) (st' := (10, [(0, .ref a0), (1, .int a1), (2, .int a2)], [.ref a0, .int a1], x2.2)) rfl ?_
      replace h := Option.bind_eq_some_iff.mp h
      obtain ⟨p3, ep3, h⟩ := h
      refine tb_e_gN rfl ep3 ?_
      refine tb_Es (k := 1) (st' := (12, [(0, .ref a0), (1, .int a1), (2, .int a2)], [.int 1, .ref p3, .int a1], x2.2)) rfl ?_
      replace h := Option.bind_eq_some_iff.mp h
      obtain ⟨x4, ex4, h⟩ := h
      refine tb_e_lI rfl (Or.inl ⟨rfl, rfl⟩) ex4 ?_
      refine tb_b_cge rfl (fun hc => ?_) (fun hc => ?_)
      · rw [if_pos hc] at h
        refine tb_Es (k := 2) (st' := (16, [(0, .ref a0), (1, .int a1), (2, .int a2)], [.ref a0, .int a2], x2.2)) rfl ?_
        replace h := Option.bind_eq_some_iff.mp h
        obtain ⟨p5, ep5, h⟩ := h
        refine tb_e_gN rfl ep5 ?_
        refine tb_Es (k := 1) (st' := (18, [(0, .ref a0), (1, .int a1), (2, .int a2)], [.int 1, .ref p5, .int a2], x2.2)) rfl ?_
        replace h := Option.bind_eq_some_iff.mp h
        obtain ⟨x6, ex6, h⟩ := h
        refine tb_e_lI rfl (Or.inl ⟨rfl, rfl⟩) ex6 ?_
        refine tb_b_clt rfl (fun hc => ?_) (fun hc => ?_)
        · rw [if_pos hc] at h
          refine tb_Es (k := 1) (st' := (28, [(0, .ref a0), (1, .int a1), (2, .int a2)], [.int 0], x2.2)) rfl ?_
          obtain rfl := Option.some.inj h
          subst hr
          exact tb_Er rfl rfl
        · rw [if_neg hc] at h
          refine tb_Es (k := 1) (st' := (21, [(0, .ref a0), (1, .int a1), (2, .int a2)], [.ref a0], x2.2)) rfl ?_
          replace h := Option.bind_eq_some_iff.mp h
          obtain ⟨x7, ex7, h⟩ := h
          obtain ⟨hkx7, hcall⟩ := tb_on_some ex7
          refine tb_e_cv (v := some (.int x7.1)) rfl (Or.inl ⟨_, rfl⟩) rfl rfl (Nat.le_of_ble_eq_true rfl) rfl (Nat.le_of_ble_eq_true rfl) hkx7 ((dc_m_linesUp hcall).up (by decide)) ?_
          replace h := Option.bind_eq_some_iff.mp h
          obtain ⟨x8, ex8, h⟩ := h
          have hcall := ex8
          refine tb_e_cs (v := some (.int x8.1)) rfl rfl rfl (Nat.le_of_ble_eq_true rfl) rfl (Nat.le_of_ble_eq_true rfl) ((dc_m_bits hcall).up (by decide)) ?_
          refine tb_Es (k := 1) (st' := (24, [(0, .ref a0), (1, .int a1), (2, .int a2)], [.int 8, .int x8.1], x8.2)) rfl ?_
          refine tb_b_cge rfl (fun hc => ?_) (fun hc => ?_)
          · rw [if_pos hc] at h
            refine tb_Es (k := 2) (st' := (28, [(0, .ref a0), (1, .int a1), (2, .int a2)], [.int 1], x8.2)) rfl ?_
            obtain rfl := Option.some.inj h
            subst hr
            exact tb_Er rfl rfl
          · rw [if_neg hc] at h
            refine tb_Es (k := 1) (st' := (28, [(0, .ref a0), (1, .int a1), (2, .int a2)], [.int 0], x8.2)) rfl ?_
            obtain rfl := Option.some.inj h
            subst hr
            exact tb_Er rfl rfl
      · rw [if_neg hc] at h
        refine tb_Es (k := 1) (st' := (28, [(0, .ref a0), (1, .int a1), (2, .int a2)], [.int 0], x2.2)) rfl ?_
        obtain rfl := Option.some.inj h
        subst hr
        exact tb_Er rfl rfl
/-! TannerBuntingModel.prop(II)I -/
def fj_m_prop_j34 (v0 : Nat) (v1 : Int32) (s0 : Int32) (s1 : Int32) (s2 : Nat) (w : tb_Hp) : Option (Int32 × tb_Hp) := (tb_tI s2 s1 s0 w).bind fun w7 => (tb_gN 22 20 v0 w7).bind fun p8 => (tb_lI [1, 9] p8 (22 + v1) w7).bind fun x9 => some (x9, w7)
set_option maxHeartbeats 4000000 in
set_option maxRecDepth 20000 in
theorem dj_m_prop_j34 (v0 : Nat) (v1 : Int32) (s0 : Int32) (s1 : Int32) (s2 : Nat) (w : tb_Hp) (o : Int32 × tb_Hp) (h : fj_m_prop_j34 v0 v1 s0 s1 s2 w = some o) (r : Option Value × tb_Hp) (hr : r = (some (.int o.1), o.2)) : tb_Ev tb_P 3 251 (35, [(0, .ref v0), (1, .int v1)], [.int s0, .int s1, .ref s2], w) r := by
  unfold fj_m_prop_j34 at h
  replace h := Option.bind_eq_some_iff.mp h
  obtain ⟨w7, ew7, h⟩ := h
  refine tb_e_tI rfl ew7 ?_
  refine tb_Es (k := 1) (st' := (37, [(0, .ref v0), (1, .int v1)], [.ref v0], w7)) rfl ?_
  replace h := Option.bind_eq_some_iff.mp h
  obtain ⟨p8, ep8, h⟩ := h
  refine tb_e_gN rfl ep8 ?_
  refine tb_Es (k := 3) (st' := (41, [(0, .ref v0), (1, .int v1)], [.int (22 + v1), .ref p8], w7)) rfl ?_
  replace h := Option.bind_eq_some_iff.mp h
  obtain ⟨x9, ex9, h⟩ := h
  refine tb_e_lI rfl (Or.inl ⟨rfl, rfl⟩) ex9 ?_
  obtain rfl := Option.some.inj h
  subst hr
  exact tb_Er rfl rfl
def fb_m_prop (a0 : Nat) (a1 : Int32) (a2 : Int32) (w : tb_Hp) : Option (Int32 × tb_Hp) := (tb_on 22 a0 w (fb_m_isStanding a0 a1 w)).bind fun x1 => (if x1.1 = 0 then some (-1, x1.2) else (fb_m_in (Int32.toInt64 a2) 1 9 x1.2).bind fun x2 => (if x2.1 = 0 then some (-1, x2.2) else (tb_on 22 a0 x2.2 (fb_m_keepsAct a0 x2.2)).bind fun x3 => (tb_gN 22 20 a0 x3).bind fun p4 => (tb_lI [1, 9] p4 (22 + a1) x3).bind fun x5 => (tb_gN 22 20 a0 x3).bind fun p6 => (if 60 < (x5 + a2) then fj_m_prop_j34 a0 a1 60 (22 + a1) p6 x3 else fj_m_prop_j34 a0 a1 (x5 + a2) (22 + a1) p6 x3)))
set_option maxHeartbeats 4000000 in
set_option maxRecDepth 20000 in
theorem dc_m_prop {a0 : Nat} {a1 : Int32} {a2 : Int32} {w : tb_Hp} {o : Int32 × tb_Hp} (h : fb_m_prop a0 a1 a2 w = some o) : tb_Ev tb_P 3 251 (0, tb_ent [.ref a0, .int a1, .int a2], [], w) (some (.int o.1), o.2) := by
  unfold fb_m_prop at h
  obtain ⟨r, hr⟩ : ∃ r : Option Value × tb_Hp, r = (some (.int o.1), o.2) := ⟨_, rfl⟩
  rw [← hr]
  show tb_Ev tb_P 3 251 (0, [(0, .ref a0), (1, .int a1), (2, .int a2)], [], w) r
  refine tb_Es (k := 2) (st' := (2, [(0, .ref a0), (1, .int a1), (2, .int a2)], [.int a1, .ref a0], w)) rfl ?_
  replace h := Option.bind_eq_some_iff.mp h
  obtain ⟨x1, ex1, h⟩ := h
  obtain ⟨hkx1, hcall⟩ := tb_on_some ex1
  refine tb_e_cv (v := some (.int x1.1)) rfl (Or.inl ⟨_, rfl⟩) rfl rfl (Nat.le_of_ble_eq_true rfl) rfl (Nat.le_of_ble_eq_true rfl) hkx1 ((dc_m_isStanding hcall).up (by decide)) ?_
  refine tb_b_ieq rfl (fun hc => ?_) (fun hc => ?_)
  · rw [if_pos hc] at h
    refine tb_Es (k := 1) (st' := (11, [(0, .ref a0), (1, .int a1), (2, .int a2)], [.int (-1)], x1.2)) rfl ?_
    obtain rfl := Option.some.inj h
    subst hr
    exact tb_Er rfl rfl
  · rw [if_neg hc] at h
    refine tb_Es (k := 4) (st' := (8, [(0, .ref a0), (1, .int a1), (2, .int a2)], [.long 9, .long 1, .long (Int32.toInt64 a2)], x1.2)) rfl ?_
    replace h := Option.bind_eq_some_iff.mp h
    obtain ⟨x2, ex2, h⟩ := h
    have hcall := ex2
    refine tb_e_cs (v := some (.int x2.1)) rfl rfl rfl (Nat.le_of_ble_eq_true rfl) rfl (Nat.le_of_ble_eq_true rfl) ((dc_m_in hcall).up (by decide)) ?_
    refine tb_b_ine rfl (fun hc => ?_) (fun hc => ?_)
    · rw [if_pos hc] at h
      refine tb_Es (k := 1) (st' := (11, [(0, .ref a0), (1, .int a1), (2, .int a2)], [.int (-1)], x2.2)) rfl ?_
      obtain rfl := Option.some.inj h
      subst hr
      exact tb_Er rfl rfl
    · rw [if_neg hc] at h
      refine tb_Es (k := 1) (st' := (13, [(0, .ref a0), (1, .int a1), (2, .int a2)], [.ref a0], x2.2)) rfl ?_
      replace h := Option.bind_eq_some_iff.mp h
      obtain ⟨x3, ex3, h⟩ := h
      obtain ⟨hkx3, hcall⟩ := tb_on_some ex3
      refine tb_e_cv (v := none) rfl (Or.inl ⟨_, rfl⟩) rfl rfl (Nat.le_of_ble_eq_true rfl) rfl (Nat.le_of_ble_eq_true rfl) hkx3 ((dc_m_keepsAct hcall).up (by decide)) ?_
      refine tb_Es (k := 1) (st' := (15, [(0, .ref a0), (1, .int a1), (2, .int a2)], [.ref a0], x3)) rfl ?_
      replace h := Option.bind_eq_some_iff.mp h
      obtain ⟨p4, ep4, h⟩ := h
      refine tb_e_gN rfl ep4 ?_
      refine tb_Es (k := 3) (st' := (19, [(0, .ref a0), (1, .int a1), (2, .int a2)], [.int (22 + a1), .ref p4], x3)) rfl ?_
      replace h := Option.bind_eq_some_iff.mp h
      obtain ⟨x5, ex5, h⟩ := h
      refine tb_e_lI rfl (Or.inl ⟨rfl, rfl⟩) ex5 ?_
      refine tb_Es (k := 4) (st' := (24, [(3, .int (x5 + a2)), (0, .ref a0), (1, .int a1), (2, .int a2)], [.ref a0], x3)) rfl ?_
      replace h := Option.bind_eq_some_iff.mp h
      obtain ⟨p6, ep6, h⟩ := h
      refine tb_e_gN rfl ep6 ?_
      refine tb_Es (k := 5) (st' := (30, [(3, .int (x5 + a2)), (0, .ref a0), (1, .int a1), (2, .int a2)], [.int 60, .int (x5 + a2), .int (22 + a1), .ref p6], x3)) rfl ?_
      refine tb_b_cle rfl (fun hc => ?_) (fun hc => ?_)
      · rw [if_pos hc] at h
        refine tb_Es (k := 3) (st' := (35, [(0, .ref a0), (1, .int a1)], [.int 60, .int (22 + a1), .ref p6], x3)) rfl ?_
        exact dj_m_prop_j34 a0 a1 60 (22 + a1) p6 x3 _ h r hr
      · rw [if_neg hc] at h
        refine tb_Es (k := 2) (st' := (35, [(0, .ref a0), (1, .int a1)], [.int (x5 + a2), .int (22 + a1), .ref p6], x3)) rfl ?_
        exact dj_m_prop_j34 a0 a1 (x5 + a2) (22 + a1) p6 x3 _ h r hr
/-! TannerBuntingModel.way(II)I -/
def fj_m_way_j23 (k : Nat → Int32 → Int32 → Int32 → tb_Hp → Option (Int32 × tb_Hp)) (v4 : Int32) (w : tb_Hp) : Option (Int32 × tb_Hp) := some ((v4, w))
set_option maxHeartbeats 4000000 in
set_option maxRecDepth 20000 in
theorem dj_m_way_j23 (k : Nat → Int32 → Int32 → Int32 → tb_Hp → Option (Int32 × tb_Hp)) (v4 : Int32) (w : tb_Hp) (o : Int32 × tb_Hp) (h : fj_m_way_j23 k v4 w = some o) (r : Option Value × tb_Hp) (hx : r = (some (.int o.1), o.2)) (hk : ∀ (v0 : Nat) (v2 : Int32) (v3 : Int32) (v4 : Int32) (w : tb_Hp), k v0 v2 v3 v4 w = some o → tb_Ev tb_P 3 268 (17, [(0, .ref v0), (2, .int v2), (3, .int v3), (4, .int v4)], [], w) r) : tb_Ev tb_P 3 268 (25, [(4, .int v4)], [], w) r := by
  unfold fj_m_way_j23 at h
  refine tb_Es (k := 1) (st' := (26, [(4, .int v4)], [.int v4], w)) rfl ?_
  obtain rfl := Option.some.inj h
  replace hx : r = _ := hx
  subst hx
  exact tb_Er rfl rfl
def fj_m_way_j31 (k : Nat → Int32 → Int32 → Int32 → tb_Hp → Option (Int32 × tb_Hp)) (w : tb_Hp) : Option (Int32 × tb_Hp) := some ((-2, w))
set_option maxHeartbeats 4000000 in
set_option maxRecDepth 20000 in
theorem dj_m_way_j31 (k : Nat → Int32 → Int32 → Int32 → tb_Hp → Option (Int32 × tb_Hp)) (w : tb_Hp) (o : Int32 × tb_Hp) (h : fj_m_way_j31 k  w = some o) (r : Option Value × tb_Hp) (hx : r = (some (.int o.1), o.2)) (hk : ∀ (v0 : Nat) (v2 : Int32) (v3 : Int32) (v4 : Int32) (w : tb_Hp), k v0 v2 v3 v4 w = some o → tb_Ev tb_P 3 268 (17, [(0, .ref v0), (2, .int v2), (3, .int v3), (4, .int v4)], [], w) r) : tb_Ev tb_P 3 268 (34, [], [], w) r := by
  unfold fj_m_way_j31 at h
  refine tb_Es (k := 1) (st' := (35, [], [.int (-2)], w)) rfl ?_
  obtain rfl := Option.some.inj h
  replace hx : r = _ := hx
  subst hx
  exact tb_Er rfl rfl
def fl_m_way_16 : Nat → Nat → Int32 → Int32 → Int32 → tb_Hp → Option (Int32 × tb_Hp)
  | 0, _, _, _, _, _ => none
  | n + 1, v0, v2, v3, v4, w => (if v4 ≤ 10 then (fb_m_isOf v3 v2 w).bind fun x3 => (if x3.1 = 0 then (tb_on 22 v0 x3.2 (fb_m_joined v0 v3 x3.2)).bind fun x4 => fl_m_way_16 n v0 v2 x4.1 (v4 + 1) x4.2 else fj_m_way_j23 (fl_m_way_16 n) v4 x3.2) else fj_m_way_j31 (fl_m_way_16 n)  w)
set_option maxHeartbeats 4000000 in
set_option maxRecDepth 20000 in
theorem dl_m_way_16 : ∀ (n : Nat) (v0 : Nat) (v2 : Int32) (v3 : Int32) (v4 : Int32) (w : tb_Hp) (o : Int32 × tb_Hp), fl_m_way_16 n v0 v2 v3 v4 w = some o → ∀ (r : Option Value × tb_Hp), r = (some (.int o.1), o.2) → tb_Ev tb_P 3 268 (17, [(0, .ref v0), (2, .int v2), (3, .int v3), (4, .int v4)], [], w) r := by
  intro n
  induction n with
  | zero =>
    intro v0 v2 v3 v4 w o h
    cases h
  | succ n ih =>
    intro v0 v2 v3 v4 w o h r hx
    unfold fl_m_way_16 at h
    refine tb_Es (k := 2) (st' := (19, [(0, .ref v0), (2, .int v2), (3, .int v3), (4, .int v4)], [.int 10, .int v4], w)) rfl ?_
    refine tb_b_cgt rfl (fun hc => ?_) (fun hc => ?_)
    · rw [if_pos hc] at h
      refine tb_Es (k := 2) (st' := (22, [(0, .ref v0), (2, .int v2), (3, .int v3), (4, .int v4)], [.int v2, .int v3], w)) rfl ?_
      replace h := Option.bind_eq_some_iff.mp h
      obtain ⟨x3, ex3, h⟩ := h
      have hcall := ex3
      refine tb_e_cs (v := some (.int x3.1)) rfl rfl rfl (Nat.le_of_ble_eq_true rfl) rfl (Nat.le_of_ble_eq_true rfl) ((dc_m_isOf hcall).up (by decide)) ?_
      refine tb_b_ieq rfl (fun hc => ?_) (fun hc => ?_)
      · rw [if_pos hc] at h
        refine tb_Es (k := 2) (st' := (29, [(0, .ref v0), (2, .int v2), (3, .int v3), (4, .int v4)], [.int v3, .ref v0], x3.2)) rfl ?_
        replace h := Option.bind_eq_some_iff.mp h
        obtain ⟨x4, ex4, h⟩ := h
        obtain ⟨hkx4, hcall⟩ := tb_on_some ex4
        refine tb_e_cv (v := some (.int x4.1)) rfl (Or.inl ⟨_, rfl⟩) rfl rfl (Nat.le_of_ble_eq_true rfl) rfl (Nat.le_of_ble_eq_true rfl) hkx4 ((dc_m_joined hcall).up (by decide)) ?_
        refine tb_Es (k := 4) (st' := (17, [(0, .ref v0), (2, .int v2), (3, .int x4.1), (4, .int (v4 + 1))], [], x4.2)) rfl ?_
        exact ih v0 v2 x4.1 (v4 + 1) x4.2 _ h r hx
      · rw [if_neg hc] at h
        refine tb_Es (k := 1) (st' := (25, [(4, .int v4)], [], x3.2)) rfl ?_
        exact dj_m_way_j23 (fl_m_way_16 n) v4 x3.2 _ h r hx (fun v0_ v2_ v3_ v4_ w_ h_ => ih v0_ v2_ v3_ v4_ w_ _ h_ r hx)
    · rw [if_neg hc] at h
      refine tb_Es (k := 1) (st' := (34, [], [], w)) rfl ?_
      exact dj_m_way_j31 (fl_m_way_16 n)  w _ h r hx (fun v0_ v2_ v3_ v4_ w_ h_ => ih v0_ v2_ v3_ v4_ w_ _ h_ r hx)
def fb_m_way (a0 : Nat) (a1 : Int32) (a2 : Int32) (w : tb_Hp) : Option (Int32 × tb_Hp) := (tb_on 22 a0 w (fb_m_isHouse a0 a1 w)).bind fun x1 => (if x1.1 = 0 then some (-1, x1.2) else (tb_on 22 a0 x1.2 (fb_m_isHouse a0 a2 x1.2)).bind fun x2 => (if x2.1 = 0 then some (-1, x2.2) else (fl_m_way_16 1048576 a0 a2 (1 <<< (a1 &&& 31)) 0 x2.2).bind fun o5 => some o5))
set_option maxHeartbeats 4000000 in
set_option maxRecDepth 20000 in
theorem dc_m_way {a0 : Nat} {a1 : Int32} {a2 : Int32} {w : tb_Hp} {o : Int32 × tb_Hp} (h : fb_m_way a0 a1 a2 w = some o) : tb_Ev tb_P 3 268 (0, tb_ent [.ref a0, .int a1, .int a2], [], w) (some (.int o.1), o.2) := by
  unfold fb_m_way at h
  obtain ⟨r, hr⟩ : ∃ r : Option Value × tb_Hp, r = (some (.int o.1), o.2) := ⟨_, rfl⟩
  rw [← hr]
  show tb_Ev tb_P 3 268 (0, [(0, .ref a0), (1, .int a1), (2, .int a2)], [], w) r
  refine tb_Es (k := 2) (st' := (2, [(0, .ref a0), (1, .int a1), (2, .int a2)], [.int a1, .ref a0], w)) rfl ?_
  replace h := Option.bind_eq_some_iff.mp h
  obtain ⟨x1, ex1, h⟩ := h
  obtain ⟨hkx1, hcall⟩ := tb_on_some ex1
  refine tb_e_cv (v := some (.int x1.1)) rfl (Or.inl ⟨_, rfl⟩) rfl rfl (Nat.le_of_ble_eq_true rfl) rfl (Nat.le_of_ble_eq_true rfl) hkx1 ((dc_m_isHouse hcall).up (by decide)) ?_
  refine tb_b_ieq rfl (fun hc => ?_) (fun hc => ?_)
  · rw [if_pos hc] at h
    refine tb_Es (k := 1) (st' := (9, [(0, .ref a0), (1, .int a1), (2, .int a2)], [.int (-1)], x1.2)) rfl ?_
    obtain rfl := Option.some.inj h
    subst hr
    exact tb_Er rfl rfl
  · rw [if_neg hc] at h
    refine tb_Es (k := 2) (st' := (6, [(0, .ref a0), (1, .int a1), (2, .int a2)], [.int a2, .ref a0], x1.2)) rfl ?_
    replace h := Option.bind_eq_some_iff.mp h
    obtain ⟨x2, ex2, h⟩ := h
    obtain ⟨hkx2, hcall⟩ := tb_on_some ex2
    refine tb_e_cv (v := some (.int x2.1)) rfl (Or.inl ⟨_, rfl⟩) rfl rfl (Nat.le_of_ble_eq_true rfl) rfl (Nat.le_of_ble_eq_true rfl) hkx2 ((dc_m_isHouse hcall).up (by decide)) ?_
    refine tb_b_ine rfl (fun hc => ?_) (fun hc => ?_)
    · rw [if_pos hc] at h
      refine tb_Es (k := 1) (st' := (9, [(0, .ref a0), (1, .int a1), (2, .int a2)], [.int (-1)], x2.2)) rfl ?_
      obtain rfl := Option.some.inj h
      subst hr
      exact tb_Er rfl rfl
    · rw [if_neg hc] at h
      refine tb_Es (k := 7) (st' := (17, [(0, .ref a0), (2, .int a2), (3, .int (1 <<< (a1 &&& 31))), (4, .int 0)], [], x2.2)) rfl ?_
      replace h := Option.bind_eq_some_iff.mp h
      obtain ⟨o5, eo5, h⟩ := h
      refine dl_m_way_16 _ a0 a2 (1 <<< (a1 &&& 31)) 0 x2.2 _ eo5 r ?_
      obtain rfl := Option.some.inj h
      exact hr
/-! TannerBuntingModel.blockOf(I)I -/
def fl_m_blockOf_6 : Nat → Nat → Int32 → Int32 → tb_Hp → Option (Int32 × tb_Hp)
  | 0, _, _, _, _ => none
  | n + 1, v0, v2, v3, w => (if v3 < 10 then (tb_on 22 v0 w (fb_m_joined v0 v2 w)).bind fun x1 => fl_m_blockOf_6 n v0 x1.1 (v3 + 1) x1.2 else some ((v2, w)))
set_option maxHeartbeats 4000000 in
set_option maxRecDepth 20000 in
theorem dl_m_blockOf_6 : ∀ (n : Nat) (v0 : Nat) (v2 : Int32) (v3 : Int32) (w : tb_Hp) (o : Int32 × tb_Hp), fl_m_blockOf_6 n v0 v2 v3 w = some o → ∀ (r : Option Value × tb_Hp), tb_Ev tb_P 3 271 (17, [(2, .int o.1)], [], o.2) r → tb_Ev tb_P 3 271 (7, [(0, .ref v0), (2, .int v2), (3, .int v3)], [], w) r := by
  intro n
  induction n with
  | zero =>
    intro v0 v2 v3 w o h
    cases h
  | succ n ih =>
    intro v0 v2 v3 w o h r hx
    unfold fl_m_blockOf_6 at h
    refine tb_Es (k := 2) (st' := (9, [(0, .ref v0), (2, .int v2), (3, .int v3)], [.int 10, .int v3], w)) rfl ?_
    refine tb_b_cge rfl (fun hc => ?_) (fun hc => ?_)
    · rw [if_pos hc] at h
      refine tb_Es (k := 2) (st' := (12, [(0, .ref v0), (2, .int v2), (3, .int v3)], [.int v2, .ref v0], w)) rfl ?_
      replace h := Option.bind_eq_some_iff.mp h
      obtain ⟨x1, ex1, h⟩ := h
      obtain ⟨hkx1, hcall⟩ := tb_on_some ex1
      refine tb_e_cv (v := some (.int x1.1)) rfl (Or.inl ⟨_, rfl⟩) rfl rfl (Nat.le_of_ble_eq_true rfl) rfl (Nat.le_of_ble_eq_true rfl) hkx1 ((dc_m_joined hcall).up (by decide)) ?_
      refine tb_Es (k := 4) (st' := (7, [(0, .ref v0), (2, .int x1.1), (3, .int (v3 + 1))], [], x1.2)) rfl ?_
      exact ih v0 x1.1 (v3 + 1) x1.2 _ h r hx
    · rw [if_neg hc] at h
      refine tb_Es (k := 1) (st' := (17, [(2, .int v2)], [], w)) rfl ?_
      obtain rfl := Option.some.inj h
      exact hx
def fb_m_blockOf (a0 : Nat) (a1 : Int32) (w : tb_Hp) : Option (Int32 × tb_Hp) := (fl_m_blockOf_6 1048576 a0 (1 <<< (a1 &&& 31)) 0 w).bind fun o2 => some (o2.1, o2.2)
set_option maxHeartbeats 4000000 in
set_option maxRecDepth 20000 in
theorem dc_m_blockOf {a0 : Nat} {a1 : Int32} {w : tb_Hp} {o : Int32 × tb_Hp} (h : fb_m_blockOf a0 a1 w = some o) : tb_Ev tb_P 3 271 (0, tb_ent [.ref a0, .int a1], [], w) (some (.int o.1), o.2) := by
  unfold fb_m_blockOf at h
  obtain ⟨r, hr⟩ : ∃ r : Option Value × tb_Hp, r = (some (.int o.1), o.2) := ⟨_, rfl⟩
  rw [← hr]
  show tb_Ev tb_P 3 271 (0, [(0, .ref a0), (1, .int a1)], [], w) r
  refine tb_Es (k := 7) (st' := (7, [(0, .ref a0), (2, .int (1 <<< (a1 &&& 31))), (3, .int 0)], [], w)) rfl ?_
  replace h := Option.bind_eq_some_iff.mp h
  obtain ⟨o2, eo2, h⟩ := h
  refine dl_m_blockOf_6 _ a0 (1 <<< (a1 &&& 31)) 0 w _ eo2 r ?_
  refine tb_Es (k := 1) (st' := (18, [(2, .int o2.1)], [.int o2.1], o2.2)) rfl ?_
  obtain rfl := Option.some.inj h
  subst hr
  exact tb_Er rfl rfl
/-! TannerBuntingModel.pairsNow()I -/
def fj_m_pairsNow_j27 (k : Nat → Int32 → Int32 → tb_Hp → Option (Int32 × tb_Hp)) (w : tb_Hp) : Option (Int32 × tb_Hp) := some ((-1, w))
set_option maxHeartbeats 4000000 in
set_option maxRecDepth 20000 in
theorem dj_m_pairsNow_j27 (k : Nat → Int32 → Int32 → tb_Hp → Option (Int32 × tb_Hp)) (w : tb_Hp) (o : Int32 × tb_Hp) (h : fj_m_pairsNow_j27 k  w = some o) (r : Option Value × tb_Hp) (hx : r = (some (.int o.1), o.2)) (hk : ∀ (v0 : Nat) (v1 : Int32) (v2 : Int32) (w : tb_Hp), k v0 v1 v2 w = some o → tb_Ev tb_P 3 276 (5, [(0, .ref v0), (1, .int v1), (2, .int v2)], [], w) r) : tb_Ev tb_P 3 276 (29, [], [], w) r := by
  unfold fj_m_pairsNow_j27 at h
  refine tb_Es (k := 1) (st' := (30, [], [.int (-1)], w)) rfl ?_
  obtain rfl := Option.some.inj h
  replace hx : r = _ := hx
  subst hx
  exact tb_Er rfl rfl
def fj_m_pairsNow_j37 (k : Nat → Int32 → Int32 → tb_Hp → Option (Int32 × tb_Hp)) (v1 : Int32) (w : tb_Hp) : Option (Int32 × tb_Hp) := (fb_m_bits v1 w).bind fun x7 => some ((x7.1, x7.2))
set_option maxHeartbeats 4000000 in
set_option maxRecDepth 20000 in
theorem dj_m_pairsNow_j37 (k : Nat → Int32 → Int32 → tb_Hp → Option (Int32 × tb_Hp)) (v1 : Int32) (w : tb_Hp) (o : Int32 × tb_Hp) (h : fj_m_pairsNow_j37 k v1 w = some o) (r : Option Value × tb_Hp) (hx : r = (some (.int o.1), o.2)) (hk : ∀ (v0 : Nat) (v1 : Int32) (v2 : Int32) (w : tb_Hp), k v0 v1 v2 w = some o → tb_Ev tb_P 3 276 (5, [(0, .ref v0), (1, .int v1), (2, .int v2)], [], w) r) : tb_Ev tb_P 3 276 (40, [(1, .int v1)], [], w) r := by
  unfold fj_m_pairsNow_j37 at h
  refine tb_Es (k := 1) (st' := (41, [(1, .int v1)], [.int v1], w)) rfl ?_
  replace h := Option.bind_eq_some_iff.mp h
  obtain ⟨x7, ex7, h⟩ := h
  have hcall := ex7
  refine tb_e_cs (v := some (.int x7.1)) rfl rfl rfl (Nat.le_of_ble_eq_true rfl) rfl (Nat.le_of_ble_eq_true rfl) ((dc_m_bits hcall).up (by decide)) ?_
  obtain rfl := Option.some.inj h
  replace hx : r = _ := hx
  subst hx
  exact tb_Er rfl rfl
def fl_m_pairsNow_4 : Nat → Nat → Int32 → Int32 → tb_Hp → Option (Int32 × tb_Hp)
  | 0, _, _, _, _ => none
  | n + 1, v0, v1, v2, w => (tb_gN 22 20 v0 w).bind fun p1 => (tb_lI [1, 9] p1 1 w).bind fun x2 => (if v2 < x2 then (tb_gN 22 26 v0 w).bind fun p3 => (tb_lI [1, 9] p3 v2 w).bind fun x4 => (if x4 < 0 then fl_m_pairsNow_4 n v0 v1 (v2 + 1) w else (fb_m_isOf v1 x4 w).bind fun x5 => (if x5.1 = 0 then (tb_on 22 v0 x5.2 (fb_m_isJoined v0 v2 x4 x5.2)).bind fun x6 => (if x6.1 = 0 then fj_m_pairsNow_j27 (fl_m_pairsNow_4 n)  x6.2 else fl_m_pairsNow_4 n v0 (v1 ||| (1 <<< (x4 &&& 31))) (v2 + 1) x6.2) else fj_m_pairsNow_j27 (fl_m_pairsNow_4 n)  x5.2)) else fj_m_pairsNow_j37 (fl_m_pairsNow_4 n) v1 w)
set_option maxHeartbeats 4000000 in
set_option maxRecDepth 20000 in
theorem dl_m_pairsNow_4 : ∀ (n : Nat) (v0 : Nat) (v1 : Int32) (v2 : Int32) (w : tb_Hp) (o : Int32 × tb_Hp), fl_m_pairsNow_4 n v0 v1 v2 w = some o → ∀ (r : Option Value × tb_Hp), r = (some (.int o.1), o.2) → tb_Ev tb_P 3 276 (5, [(0, .ref v0), (1, .int v1), (2, .int v2)], [], w) r := by
  intro n
  induction n with
  | zero =>
    intro v0 v1 v2 w o h
    cases h
  | succ n ih =>
    intro v0 v1 v2 w o h r hx
    unfold fl_m_pairsNow_4 at h
    refine tb_Es (k := 2) (st' := (7, [(0, .ref v0), (1, .int v1), (2, .int v2)], [.ref v0, .int v2], w)) rfl ?_
    replace h := Option.bind_eq_some_iff.mp h
    obtain ⟨p1, ep1, h⟩ := h
    refine tb_e_gN rfl ep1 ?_
    refine tb_Es (k := 1) (st' := (9, [(0, .ref v0), (1, .int v1), (2, .int v2)], [.int 1, .ref p1, .int v2], w)) rfl ?_
    replace h := Option.bind_eq_some_iff.mp h
    obtain ⟨x2, ex2, h⟩ := h
    refine tb_e_lI rfl (Or.inl ⟨rfl, rfl⟩) ex2 ?_
    refine tb_b_cge rfl (fun hc => ?_) (fun hc => ?_)
    · rw [if_pos hc] at h
      refine tb_Es (k := 1) (st' := (12, [(0, .ref v0), (1, .int v1), (2, .int v2)], [.ref v0], w)) rfl ?_
      replace h := Option.bind_eq_some_iff.mp h
      obtain ⟨p3, ep3, h⟩ := h
      refine tb_e_gN rfl ep3 ?_
      refine tb_Es (k := 1) (st' := (14, [(0, .ref v0), (1, .int v1), (2, .int v2)], [.int v2, .ref p3], w)) rfl ?_
      replace h := Option.bind_eq_some_iff.mp h
      obtain ⟨x4, ex4, h⟩ := h
      refine tb_e_lI rfl (Or.inl ⟨rfl, rfl⟩) ex4 ?_
      refine tb_Es (k := 2) (st' := (17, [(3, .int x4), (0, .ref v0), (1, .int v1), (2, .int v2)], [.int x4], w)) rfl ?_
      refine tb_b_ige rfl (fun hc => ?_) (fun hc => ?_)
      · rw [if_pos hc] at h
        refine tb_Es (k := 4) (st' := (5, [(0, .ref v0), (1, .int v1), (2, .int (v2 + 1))], [], w)) rfl ?_
        exact ih v0 v1 (v2 + 1) w _ h r hx
      · rw [if_neg hc] at h
        refine tb_Es (k := 2) (st' := (21, [(3, .int x4), (0, .ref v0), (1, .int v1), (2, .int v2)], [.int x4, .int v1], w)) rfl ?_
        replace h := Option.bind_eq_some_iff.mp h
        obtain ⟨x5, ex5, h⟩ := h
        have hcall := ex5
        refine tb_e_cs (v := some (.int x5.1)) rfl rfl rfl (Nat.le_of_ble_eq_true rfl) rfl (Nat.le_of_ble_eq_true rfl) ((dc_m_isOf hcall).up (by decide)) ?_
        refine tb_b_ine rfl (fun hc => ?_) (fun hc => ?_)
        · rw [if_pos hc] at h
          refine tb_Es (k := 3) (st' := (26, [(3, .int x4), (0, .ref v0), (1, .int v1), (2, .int v2)], [.int x4, .int v2, .ref v0], x5.2)) rfl ?_
          replace h := Option.bind_eq_some_iff.mp h
          obtain ⟨x6, ex6, h⟩ := h
          obtain ⟨hkx6, hcall⟩ := tb_on_some ex6
          refine tb_e_cv (v := some (.int x6.1)) rfl (Or.inl ⟨_, rfl⟩) rfl rfl (Nat.le_of_ble_eq_true rfl) rfl (Nat.le_of_ble_eq_true rfl) hkx6 ((dc_m_isJoined hcall).up (by decide)) ?_
          refine tb_b_ine rfl (fun hc => ?_) (fun hc => ?_)
          · rw [if_pos hc] at h
            refine tb_Es (k := 1) (st' := (29, [], [], x6.2)) rfl ?_
            exact dj_m_pairsNow_j27 (fl_m_pairsNow_4 n)  x6.2 _ h r hx (fun v0_ v1_ v2_ w_ h_ => ih v0_ v1_ v2_ w_ _ h_ r hx)
          · rw [if_neg hc] at h
            refine tb_Es (k := 9) (st' := (5, [(0, .ref v0), (1, .int (v1 ||| (1 <<< (x4 &&& 31)))), (2, .int (v2 + 1))], [], x6.2)) rfl ?_
            exact ih v0 (v1 ||| (1 <<< (x4 &&& 31))) (v2 + 1) x6.2 _ h r hx
        · rw [if_neg hc] at h
          refine tb_Es (k := 1) (st' := (29, [], [], x5.2)) rfl ?_
          exact dj_m_pairsNow_j27 (fl_m_pairsNow_4 n)  x5.2 _ h r hx (fun v0_ v1_ v2_ w_ h_ => ih v0_ v1_ v2_ w_ _ h_ r hx)
    · rw [if_neg hc] at h
      refine tb_Es (k := 1) (st' := (40, [(1, .int v1)], [], w)) rfl ?_
      exact dj_m_pairsNow_j37 (fl_m_pairsNow_4 n) v1 w _ h r hx (fun v0_ v1_ v2_ w_ h_ => ih v0_ v1_ v2_ w_ _ h_ r hx)
def fb_m_pairsNow (a0 : Nat) (w : tb_Hp) : Option (Int32 × tb_Hp) := (fl_m_pairsNow_4 1048576 a0 0 0 w).bind fun o8 => some o8
set_option maxHeartbeats 4000000 in
set_option maxRecDepth 20000 in
theorem dc_m_pairsNow {a0 : Nat} {w : tb_Hp} {o : Int32 × tb_Hp} (h : fb_m_pairsNow a0 w = some o) : tb_Ev tb_P 3 276 (0, tb_ent [.ref a0], [], w) (some (.int o.1), o.2) := by
  unfold fb_m_pairsNow at h
  obtain ⟨r, hr⟩ : ∃ r : Option Value × tb_Hp, r = (some (.int o.1), o.2) := ⟨_, rfl⟩
  rw [← hr]
  show tb_Ev tb_P 3 276 (0, [(0, .ref a0)], [], w) r
  refine tb_Es (k := 5) (st' := (5, [(0, .ref a0), (1, .int 0), (2, .int 0)], [], w)) rfl ?_
  replace h := Option.bind_eq_some_iff.mp h
  obtain ⟨o8, eo8, h⟩ := h
  refine dl_m_pairsNow_4 _ a0 0 0 w _ eo8 r ?_
  obtain rfl := Option.some.inj h
  exact hr
/-! TannerBuntingModel.leanAll()I -/
def fl_m_leanAll_4 : Nat → Nat → Int32 → Int32 → tb_Hp → Option (Int32 × tb_Hp)
  | 0, _, _, _, _ => none
  | n + 1, v0, v1, v2, w => (tb_on 22 v0 w (fb_m_houses v0 w)).bind fun x1 => (if v2 < x1.1 then (tb_on 22 v0 x1.2 (fb_m_isStanding v0 v2 x1.2)).bind fun x2 => (if x2.1 = 0 then fl_m_leanAll_4 n v0 (v1 + 0) (v2 + 1) x2.2 else (tb_gN 22 20 v0 x2.2).bind fun p3 => (tb_lI [1, 9] p3 (12 + v2) x2.2).bind fun x4 => fl_m_leanAll_4 n v0 (v1 + x4) (v2 + 1) x2.2) else some ((v1, x1.2)))
set_option maxHeartbeats 4000000 in
set_option maxRecDepth 20000 in
theorem dl_m_leanAll_4 : ∀ (n : Nat) (v0 : Nat) (v1 : Int32) (v2 : Int32) (w : tb_Hp) (o : Int32 × tb_Hp), fl_m_leanAll_4 n v0 v1 v2 w = some o → ∀ (r : Option Value × tb_Hp), tb_Ev tb_P 3 284 (27, [(1, .int o.1)], [], o.2) r → tb_Ev tb_P 3 284 (5, [(0, .ref v0), (1, .int v1), (2, .int v2)], [], w) r := by
  intro n
  induction n with
  | zero =>
    intro v0 v1 v2 w o h
    cases h
  | succ n ih =>
    intro v0 v1 v2 w o h r hx
    unfold fl_m_leanAll_4 at h
    refine tb_Es (k := 2) (st' := (7, [(0, .ref v0), (1, .int v1), (2, .int v2)], [.ref v0, .int v2], w)) rfl ?_
    replace h := Option.bind_eq_some_iff.mp h
    obtain ⟨x1, ex1, h⟩ := h
    obtain ⟨hkx1, hcall⟩ := tb_on_some ex1
    refine tb_e_cv (v := some (.int x1.1)) rfl (Or.inl ⟨_, rfl⟩) rfl rfl (Nat.le_of_ble_eq_true rfl) rfl (Nat.le_of_ble_eq_true rfl) hkx1 ((dc_m_houses hcall).up (by decide)) ?_
    refine tb_b_cge rfl (fun hc => ?_) (fun hc => ?_)
    · rw [if_pos hc] at h
      refine tb_Es (k := 3) (st' := (12, [(0, .ref v0), (1, .int v1), (2, .int v2)], [.int v2, .ref v0, .int v1], x1.2)) rfl ?_
      replace h := Option.bind_eq_some_iff.mp h
      obtain ⟨x2, ex2, h⟩ := h
      obtain ⟨hkx2, hcall⟩ := tb_on_some ex2
      refine tb_e_cv (v := some (.int x2.1)) rfl (Or.inl ⟨_, rfl⟩) rfl rfl (Nat.le_of_ble_eq_true rfl) rfl (Nat.le_of_ble_eq_true rfl) hkx2 ((dc_m_isStanding hcall).up (by decide)) ?_
      refine tb_b_ieq rfl (fun hc => ?_) (fun hc => ?_)
      · rw [if_pos hc] at h
        refine tb_Es (k := 6) (st' := (5, [(0, .ref v0), (1, .int (v1 + 0)), (2, .int (v2 + 1))], [], x2.2)) rfl ?_
        exact ih v0 (v1 + 0) (v2 + 1) x2.2 _ h r hx
      · rw [if_neg hc] at h
        refine tb_Es (k := 1) (st' := (15, [(0, .ref v0), (1, .int v1), (2, .int v2)], [.ref v0, .int v1], x2.2)) rfl ?_
        replace h := Option.bind_eq_some_iff.mp h
        obtain ⟨p3, ep3, h⟩ := h
        refine tb_e_gN rfl ep3 ?_
        refine tb_Es (k := 3) (st' := (19, [(0, .ref v0), (1, .int v1), (2, .int v2)], [.int (12 + v2), .ref p3, .int v1], x2.2)) rfl ?_
        replace h := Option.bind_eq_some_iff.mp h
        obtain ⟨x4, ex4, h⟩ := h
        refine tb_e_lI rfl (Or.inl ⟨rfl, rfl⟩) ex4 ?_
        refine tb_Es (k := 6) (st' := (5, [(0, .ref v0), (1, .int (v1 + x4)), (2, .int (v2 + 1))], [], x2.2)) rfl ?_
        exact ih v0 (v1 + x4) (v2 + 1) x2.2 _ h r hx
    · rw [if_neg hc] at h
      refine tb_Es (k := 1) (st' := (27, [(1, .int v1)], [], x1.2)) rfl ?_
      obtain rfl := Option.some.inj h
      exact hx
def fb_m_leanAll (a0 : Nat) (w : tb_Hp) : Option (Int32 × tb_Hp) := (fl_m_leanAll_4 1048576 a0 0 0 w).bind fun o5 => some (o5.1, o5.2)
set_option maxHeartbeats 4000000 in
set_option maxRecDepth 20000 in
theorem dc_m_leanAll {a0 : Nat} {w : tb_Hp} {o : Int32 × tb_Hp} (h : fb_m_leanAll a0 w = some o) : tb_Ev tb_P 3 284 (0, tb_ent [.ref a0], [], w) (some (.int o.1), o.2) := by
  unfold fb_m_leanAll at h
  obtain ⟨r, hr⟩ : ∃ r : Option Value × tb_Hp, r = (some (.int o.1), o.2) := ⟨_, rfl⟩
  rw [← hr]
  show tb_Ev tb_P 3 284 (0, [(0, .ref a0)], [], w) r
  refine tb_Es (k := 5) (st' := (5, [(0, .ref a0), (1, .int 0), (2, .int 0)], [], w)) rfl ?_
  replace h := Option.bind_eq_some_iff.mp h
  obtain ⟨o5, eo5, h⟩ := h
  refine dl_m_leanAll_4 _ a0 0 0 w _ eo5 r ?_
  refine tb_Es (k := 1) (st' := (28, [(1, .int o5.1)], [.int o5.1], o5.2)) rfl ?_
  obtain rfl := Option.some.inj h
  subst hr
  exact tb_Er rfl rfl
/-! TannerBunting$StreetReader.read()I -/
def fl_sr_read_8 : Nat → Nat → Int32 → tb_Hp → Option (((Nat × tb_Hp) ⊕ (Nat × tb_Hp)))
  | 0, _, _, _ => none
  | n + 1, v0, v1, w => (if v1 ≤ 40 then (tb_on 18 v0 w (fb_sr_readClause v0 v1 w)).bind fun x5 => (tb_gN 18 1 v0 x5).bind fun p6 => (tb_gI 19 1 p6 x5).bind fun x7 => (if x7 = 4 then (tb_gN 18 1 v0 x5).bind fun p8 => (tb_on 19 p8 x5 (fb_t_advance p8 x5)).bind fun x9 => fl_sr_read_8 n v0 (v1 + 1) x9 else some (.inl ((v0, x5)))) else some (.inr ((v0, w))))
set_option maxHeartbeats 4000000 in
set_option maxRecDepth 20000 in
theorem dl_sr_read_8 : ∀ (n : Nat) (v0 : Nat) (v1 : Int32) (w : tb_Hp) (o : ((Nat × tb_Hp) ⊕ (Nat × tb_Hp))), fl_sr_read_8 n v0 v1 w = some o → ∀ (r : Option Value × tb_Hp), (Sum.elim (fun (q : Nat × tb_Hp) => tb_Ev tb_P 4 16 (21, [(0, .ref q.1)], [], q.2) r) (fun (q : Nat × tb_Hp) => tb_Ev tb_P 4 16 (28, [(0, .ref q.1)], [], q.2) r) o) → tb_Ev tb_P 4 16 (9, [(0, .ref v0), (1, .int v1)], [], w) r := by
  intro n
  induction n with
  | zero =>
    intro v0 v1 w o h
    cases h
  | succ n ih =>
    intro v0 v1 w o h r hx
    unfold fl_sr_read_8 at h
    refine tb_Es (k := 2) (st' := (11, [(0, .ref v0), (1, .int v1)], [.int 40, .int v1], w)) rfl ?_
    refine tb_b_cgt rfl (fun hc => ?_) (fun hc => ?_)
    · rw [if_pos hc] at h
      refine tb_Es (k := 2) (st' := (14, [(0, .ref v0), (1, .int v1)], [.int v1, .ref v0], w)) rfl ?_
      replace h := Option.bind_eq_some_iff.mp h
      obtain ⟨x5, ex5, h⟩ := h
      obtain ⟨hkx5, hcall⟩ := tb_on_some ex5
      refine tb_e_cv (v := none) rfl (Or.inl ⟨_, rfl⟩) rfl rfl (Nat.le_of_ble_eq_true rfl) rfl (Nat.le_of_ble_eq_true rfl) hkx5 ((dc_sr_readClause hcall).up (by decide)) ?_
      refine tb_Es (k := 1) (st' := (16, [(0, .ref v0), (1, .int v1)], [.ref v0], x5)) rfl ?_
      replace h := Option.bind_eq_some_iff.mp h
      obtain ⟨p6, ep6, h⟩ := h
      refine tb_e_gN rfl ep6 ?_
      replace h := Option.bind_eq_some_iff.mp h
      obtain ⟨x7, ex7, h⟩ := h
      refine tb_e_gI rfl ex7 ?_
      refine tb_Es (k := 1) (st' := (19, [(0, .ref v0), (1, .int v1)], [.int 4, .int x7], x5)) rfl ?_
      refine tb_b_ceq rfl (fun hc => ?_) (fun hc => ?_)
      · rw [if_pos hc] at h
        refine tb_Es (k := 1) (st' := (23, [(0, .ref v0), (1, .int v1)], [.ref v0], x5)) rfl ?_
        replace h := Option.bind_eq_some_iff.mp h
        obtain ⟨p8, ep8, h⟩ := h
        refine tb_e_gN rfl ep8 ?_
        replace h := Option.bind_eq_some_iff.mp h
        obtain ⟨x9, ex9, h⟩ := h
        obtain ⟨hkx9, hcall⟩ := tb_on_some ex9
        refine tb_e_cv (v := none) rfl (Or.inl ⟨_, rfl⟩) rfl rfl (Nat.le_of_ble_eq_true rfl) rfl (Nat.le_of_ble_eq_true rfl) hkx9 ((dc_t_advance hcall).up (by decide)) ?_
        refine tb_Es (k := 3) (st' := (9, [(0, .ref v0), (1, .int (v1 + 1))], [], x9)) rfl ?_
        exact ih v0 (v1 + 1) x9 _ h r hx
      · rw [if_neg hc] at h
        refine tb_Es (k := 1) (st' := (21, [(0, .ref v0)], [], x5)) rfl ?_
        obtain rfl := Option.some.inj h
        exact hx
    · rw [if_neg hc] at h
      refine tb_Es (k := 1) (st' := (28, [(0, .ref v0)], [], w)) rfl ?_
      obtain rfl := Option.some.inj h
      exact hx
def fj_sr_read_j25 (v0 : Nat) (w : tb_Hp) : Option (Int32 × tb_Hp) := (tb_gN 18 1 v0 w).bind fun p12 => (tb_gI 19 1 p12 w).bind fun x13 => (if x13 = 0 then (tb_gN 18 0 v0 w).bind fun p14 => (tb_on 17 p14 w (fb_s_raise p14 w)).bind fun x15 => (tb_gN 18 1 v0 x15).bind fun p16 => (tb_gI 19 3 p16 x15).bind fun x17 => some (x17, x15) else (tb_gN 18 1 v0 w).bind fun p18 => (tb_on 19 p18 w (fb_t_fail p18 0 w)).bind fun x19 => (tb_gN 18 0 v0 x19).bind fun p20 => (tb_on 17 p20 x19 (fb_s_raise p20 x19)).bind fun x21 => (tb_gN 18 1 v0 x21).bind fun p22 => (tb_gI 19 3 p22 x21).bind fun x23 => some (x23, x21))
set_option maxHeartbeats 4000000 in
set_option maxRecDepth 20000 in
theorem dj_sr_read_j25 (v0 : Nat) (w : tb_Hp) (o : Int32 × tb_Hp) (h : fj_sr_read_j25 v0 w = some o) (r : Option Value × tb_Hp) (hr : r = (some (.int o.1), o.2)) : tb_Ev tb_P 4 16 (28, [(0, .ref v0)], [], w) r := by
  unfold fj_sr_read_j25 at h
  refine tb_Es (k := 1) (st' := (29, [(0, .ref v0)], [.ref v0], w)) rfl ?_
  replace h := Option.bind_eq_some_iff.mp h
  obtain ⟨p12, ep12, h⟩ := h
  refine tb_e_gN rfl ep12 ?_
  replace h := Option.bind_eq_some_iff.mp h
  obtain ⟨x13, ex13, h⟩ := h
  refine tb_e_gI rfl ex13 ?_
  refine tb_b_ieq rfl (fun hc => ?_) (fun hc => ?_)
  · rw [if_pos hc] at h
    refine tb_Es (k := 1) (st' := (37, [(0, .ref v0)], [.ref v0], w)) rfl ?_
    replace h := Option.bind_eq_some_iff.mp h
    obtain ⟨p14, ep14, h⟩ := h
    refine tb_e_gN rfl ep14 ?_
    replace h := Option.bind_eq_some_iff.mp h
    obtain ⟨x15, ex15, h⟩ := h
    obtain ⟨hkx15, hcall⟩ := tb_on_some ex15
    refine tb_e_cv (v := none) rfl (Or.inl ⟨_, rfl⟩) rfl rfl (Nat.le_of_ble_eq_true rfl) rfl (Nat.le_of_ble_eq_true rfl) hkx15 ((dc_s_raise hcall).up (by decide)) ?_
    refine tb_Es (k := 1) (st' := (40, [(0, .ref v0)], [.ref v0], x15)) rfl ?_
    replace h := Option.bind_eq_some_iff.mp h
    obtain ⟨p16, ep16, h⟩ := h
    refine tb_e_gN rfl ep16 ?_
    replace h := Option.bind_eq_some_iff.mp h
    obtain ⟨x17, ex17, h⟩ := h
    refine tb_e_gI rfl ex17 ?_
    obtain rfl := Option.some.inj h
    subst hr
    exact tb_Er rfl rfl
  · rw [if_neg hc] at h
    refine tb_Es (k := 1) (st' := (33, [(0, .ref v0)], [.ref v0], w)) rfl ?_
    replace h := Option.bind_eq_some_iff.mp h
    obtain ⟨p18, ep18, h⟩ := h
    refine tb_e_gN rfl ep18 ?_
    refine tb_Es (k := 1) (st' := (35, [(0, .ref v0)], [.int 0, .ref p18], w)) rfl ?_
    replace h := Option.bind_eq_some_iff.mp h
    obtain ⟨x19, ex19, h⟩ := h
    obtain ⟨hkx19, hcall⟩ := tb_on_some ex19
    refine tb_e_cv (v := none) rfl (Or.inl ⟨_, rfl⟩) rfl rfl (Nat.le_of_ble_eq_true rfl) rfl (Nat.le_of_ble_eq_true rfl) hkx19 ((dc_t_fail hcall).up (by decide)) ?_
    refine tb_Es (k := 1) (st' := (37, [(0, .ref v0)], [.ref v0], x19)) rfl ?_
    replace h := Option.bind_eq_some_iff.mp h
    obtain ⟨p20, ep20, h⟩ := h
    refine tb_e_gN rfl ep20 ?_
    replace h := Option.bind_eq_some_iff.mp h
    obtain ⟨x21, ex21, h⟩ := h
    obtain ⟨hkx21, hcall⟩ := tb_on_some ex21
    refine tb_e_cv (v := none) rfl (Or.inl ⟨_, rfl⟩) rfl rfl (Nat.le_of_ble_eq_true rfl) rfl (Nat.le_of_ble_eq_true rfl) hkx21 ((dc_s_raise hcall).up (by decide)) ?_
    refine tb_Es (k := 1) (st' := (40, [(0, .ref v0)], [.ref v0], x21)) rfl ?_
    replace h := Option.bind_eq_some_iff.mp h
    obtain ⟨p22, ep22, h⟩ := h
    refine tb_e_gN rfl ep22 ?_
    replace h := Option.bind_eq_some_iff.mp h
    obtain ⟨x23, ex23, h⟩ := h
    refine tb_e_gI rfl ex23 ?_
    obtain rfl := Option.some.inj h
    subst hr
    exact tb_Er rfl rfl
def fb_sr_read (a0 : Nat) (w : tb_Hp) : Option (Int32 × tb_Hp) := (tb_gN 18 0 a0 w).bind fun p1 => (tb_on 17 p1 w (fb_s_clear p1 w)).bind fun x2 => (tb_gN 18 1 a0 x2).bind fun p3 => (tb_on 19 p3 x2 (fb_t_begin p3 x2)).bind fun x4 => (fl_sr_read_8 1048576 a0 0 x4).bind fun o10 => (match o10 with | .inl q11 => fj_sr_read_j25 q11.1 q11.2 | .inr q24 => (tb_gN 18 1 q24.1 q24.2).bind fun p25 => (tb_gI 19 1 p25 q24.2).bind fun x26 => (if x26 = 0 then (tb_gN 18 0 q24.1 q24.2).bind fun p27 => (tb_on 17 p27 q24.2 (fb_s_raise p27 q24.2)).bind fun x28 => (tb_gN 18 1 q24.1 x28).bind fun p29 => (tb_gI 19 3 p29 x28).bind fun x30 => some (x30, x28) else (tb_gN 18 1 q24.1 q24.2).bind fun p31 => (tb_on 19 p31 q24.2 (fb_t_fail p31 0 q24.2)).bind fun x32 => (tb_gN 18 0 q24.1 x32).bind fun p33 => (tb_on 17 p33 x32 (fb_s_raise p33 x32)).bind fun x34 => (tb_gN 18 1 q24.1 x34).bind fun p35 => (tb_gI 19 3 p35 x34).bind fun x36 => some (x36, x34)))
set_option maxHeartbeats 4000000 in
set_option maxRecDepth 20000 in
theorem dc_sr_read {a0 : Nat} {w : tb_Hp} {o : Int32 × tb_Hp} (h : fb_sr_read a0 w = some o) : tb_Ev tb_P 4 16 (0, tb_ent [.ref a0], [], w) (some (.int o.1), o.2) := by
  unfold fb_sr_read at h
  obtain ⟨r, hr⟩ : ∃ r : Option Value × tb_Hp, r = (some (.int o.1), o.2) := ⟨_, rfl⟩
  rw [← hr]
  show tb_Ev tb_P 4 16 (0, [(0, .ref a0)], [], w) r
  refine tb_Es (k := 1) (st' := (1, [(0, .ref a0)], [.ref a0], w)) rfl ?_
  replace h := Option.bind_eq_some_iff.mp h
  obtain ⟨p1, ep1, h⟩ := h
  refine tb_e_gN rfl ep1 ?_
  replace h := Option.bind_eq_some_iff.mp h
  obtain ⟨x2, ex2, h⟩ := h
  obtain ⟨hkx2, hcall⟩ := tb_on_some ex2
  refine tb_e_cv (v := none) rfl (Or.inl ⟨_, rfl⟩) rfl rfl (Nat.le_of_ble_eq_true rfl) rfl (Nat.le_of_ble_eq_true rfl) hkx2 ((dc_s_clear hcall).up (by decide)) ?_
  refine tb_Es (k := 1) (st' := (4, [(0, .ref a0)], [.ref a0], x2)) rfl ?_
  replace h := Option.bind_eq_some_iff.mp h
  obtain ⟨p3, ep3, h⟩ := h
  refine tb_e_gN rfl ep3 ?_
  replace h := Option.bind_eq_some_iff.mp h
  obtain ⟨x4, ex4, h⟩ := h
  obtain ⟨hkx4, hcall⟩ := tb_on_some ex4
  refine tb_e_cv (v := none) rfl (Or.inl ⟨_, rfl⟩) rfl rfl (Nat.le_of_ble_eq_true rfl) rfl (Nat.le_of_ble_eq_true rfl) hkx4 ((dc_t_begin hcall).up (by decide)) ?_
  refine tb_Es (k := 3) (st' := (9, [(0, .ref a0), (1, .int 0)], [], x4)) rfl ?_
  replace h := Option.bind_eq_some_iff.mp h
  obtain ⟨o10, eo10, h⟩ := h
  refine dl_sr_read_8 _ a0 0 x4 _ eo10 r ?_
  rcases o10 with q11 | q24
  · dsimp only at h
    try simp only [Sum.elim_inl, Sum.elim_inr]
    refine tb_Es (k := 2) (st' := (28, [(0, .ref q11.1)], [], q11.2)) rfl ?_
    exact dj_sr_read_j25 q11.1 q11.2 _ h r hr
  · dsimp only at h
    try simp only [Sum.elim_inl, Sum.elim_inr]
    refine tb_Es (k := 1) (st' := (29, [(0, .ref q24.1)], [.ref q24.1], q24.2)) rfl ?_
    replace h := Option.bind_eq_some_iff.mp h
    obtain ⟨p25, ep25, h⟩ := h
    refine tb_e_gN rfl ep25 ?_
    replace h := Option.bind_eq_some_iff.mp h
    obtain ⟨x26, ex26, h⟩ := h
    refine tb_e_gI rfl ex26 ?_
    refine tb_b_ieq rfl (fun hc => ?_) (fun hc => ?_)
    · rw [if_pos hc] at h
      refine tb_Es (k := 1) (st' := (37, [(0, .ref q24.1)], [.ref q24.1], q24.2)) rfl ?_
      replace h := Option.bind_eq_some_iff.mp h
      obtain ⟨p27, ep27, h⟩ := h
      refine tb_e_gN rfl ep27 ?_
      replace h := Option.bind_eq_some_iff.mp h
      obtain ⟨x28, ex28, h⟩ := h
      obtain ⟨hkx28, hcall⟩ := tb_on_some ex28
      refine tb_e_cv (v := none) rfl (Or.inl ⟨_, rfl⟩) rfl rfl (Nat.le_of_ble_eq_true rfl) rfl (Nat.le_of_ble_eq_true rfl) hkx28 ((dc_s_raise hcall).up (by decide)) ?_
      refine tb_Es (k := 1) (st' := (40, [(0, .ref q24.1)], [.ref q24.1], x28)) rfl ?_
      replace h := Option.bind_eq_some_iff.mp h
      obtain ⟨p29, ep29, h⟩ := h
      refine tb_e_gN rfl ep29 ?_
      replace h := Option.bind_eq_some_iff.mp h
      obtain ⟨x30, ex30, h⟩ := h
      refine tb_e_gI rfl ex30 ?_
      obtain rfl := Option.some.inj h
      subst hr
      exact tb_Er rfl rfl
    · rw [if_neg hc] at h
      refine tb_Es (k := 1) (st' := (33, [(0, .ref q24.1)], [.ref q24.1], q24.2)) rfl ?_
      replace h := Option.bind_eq_some_iff.mp h
      obtain ⟨p31, ep31, h⟩ := h
      refine tb_e_gN rfl ep31 ?_
      refine tb_Es (k := 1) (st' := (35, [(0, .ref q24.1)], [.int 0, .ref p31], q24.2)) rfl ?_
      replace h := Option.bind_eq_some_iff.mp h
      obtain ⟨x32, ex32, h⟩ := h
      obtain ⟨hkx32, hcall⟩ := tb_on_some ex32
      refine tb_e_cv (v := none) rfl (Or.inl ⟨_, rfl⟩) rfl rfl (Nat.le_of_ble_eq_true rfl) rfl (Nat.le_of_ble_eq_true rfl) hkx32 ((dc_t_fail hcall).up (by decide)) ?_
      refine tb_Es (k := 1) (st' := (37, [(0, .ref q24.1)], [.ref q24.1], x32)) rfl ?_
      replace h := Option.bind_eq_some_iff.mp h
      obtain ⟨p33, ep33, h⟩ := h
      refine tb_e_gN rfl ep33 ?_
      replace h := Option.bind_eq_some_iff.mp h
      obtain ⟨x34, ex34, h⟩ := h
      obtain ⟨hkx34, hcall⟩ := tb_on_some ex34
      refine tb_e_cv (v := none) rfl (Or.inl ⟨_, rfl⟩) rfl rfl (Nat.le_of_ble_eq_true rfl) rfl (Nat.le_of_ble_eq_true rfl) hkx34 ((dc_s_raise hcall).up (by decide)) ?_
      refine tb_Es (k := 1) (st' := (40, [(0, .ref q24.1)], [.ref q24.1], x34)) rfl ?_
      replace h := Option.bind_eq_some_iff.mp h
      obtain ⟨p35, ep35, h⟩ := h
      refine tb_e_gN rfl ep35 ?_
      replace h := Option.bind_eq_some_iff.mp h
      obtain ⟨x36, ex36, h⟩ := h
      refine tb_e_gI rfl ex36 ?_
      obtain rfl := Option.some.inj h
      subst hr
      exact tb_Er rfl rfl
