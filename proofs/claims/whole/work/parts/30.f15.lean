/-! TannerBuntingModel.streetLineHere(I)Z -/
def fb_m_streetLineHere (a0 : Nat) (a1 : Int32) (w : tb_Hp) : Option (Int32 × tb_Hp) := (tb_on 22 a0 w (fb_m_isWord a0 126943972648308 w)).bind fun x1 => (if x1.1 = 0 then (tb_gN 22 7 a0 x1.2).bind fun p2 => (tb_lI [1, 9] p2 0 x1.2).bind fun x3 => (if x3 = 0 then (tb_on 22 a0 x1.2 (fb_m_fails a0 4 a1 x1.2)).bind fun x4 => tb_z x4.1 x4.2 else (tb_on 22 a0 x1.2 (fb_m_isWord a0 448546567013 x1.2)).bind fun x5 => (if x5.1 = 0 then (tb_on 22 a0 x5.2 (fb_m_isLineHere a0 a1 x5.2)).bind fun x6 => tb_z x6.1 x6.2 else (tb_on 22 a0 x5.2 (fb_m_isHouseHere a0 x5.2)).bind fun x7 => tb_z x7.1 x7.2)) else (tb_on 22 a0 x1.2 (fb_m_isStreetHere a0 a1 x1.2)).bind fun x8 => tb_z x8.1 x8.2)
set_option maxHeartbeats 4000000 in
set_option maxRecDepth 20000 in
theorem dc_m_streetLineHere {a0 : Nat} {a1 : Int32} {w : tb_Hp} {o : Int32 × tb_Hp} (h : fb_m_streetLineHere a0 a1 w = some o) : tb_Ev tb_P 4 182 (0, tb_ent [.ref a0, .int a1], [], w) (some (.int o.1), o.2) := by
  unfold fb_m_streetLineHere at h
  obtain ⟨r, hr⟩ : ∃ r : Option Value × tb_Hp, r = (some (.int o.1), o.2) := ⟨_, rfl⟩
  rw [← hr]
  show tb_Ev tb_P 4 182 (0, [(0, .ref a0), (1, .int a1)], [], w) r
  refine tb_Es (k := 2) (st' := (2, [(0, .ref a0), (1, .int a1)], [.long 126943972648308, .ref a0], w)) rfl ?_
  replace h := Option.bind_eq_some_iff.mp h
  obtain ⟨x1, ex1, h⟩ := h
  obtain ⟨hkx1, hcall⟩ := tb_on_some ex1
  refine tb_e_cv (v := some (.int x1.1)) rfl (Or.inl ⟨_, rfl⟩) rfl rfl (Nat.le_of_ble_eq_true rfl) rfl (Nat.le_of_ble_eq_true rfl) hkx1 ((dc_m_isWord hcall).up (by decide)) ?_
  refine tb_b_ieq rfl (fun hc => ?_) (fun hc => ?_)
  · rw [if_pos hc] at h
    refine tb_Es (k := 1) (st' := (9, [(0, .ref a0), (1, .int a1)], [.ref a0], x1.2)) rfl ?_
    replace h := Option.bind_eq_some_iff.mp h
    obtain ⟨p2, ep2, h⟩ := h
    refine tb_e_gN rfl ep2 ?_
    refine tb_Es (k := 1) (st' := (11, [(0, .ref a0), (1, .int a1)], [.int 0, .ref p2], x1.2)) rfl ?_
    replace h := Option.bind_eq_some_iff.mp h
    obtain ⟨x3, ex3, h⟩ := h
    refine tb_e_lI rfl (Or.inl ⟨rfl, rfl⟩) ex3 ?_
    refine tb_b_ine rfl (fun hc => ?_) (fun hc => ?_)
    · rw [if_pos hc] at h
      refine tb_Es (k := 3) (st' := (16, [(0, .ref a0), (1, .int a1)], [.int a1, .int 4, .ref a0], x1.2)) rfl ?_
      replace h := Option.bind_eq_some_iff.mp h
      obtain ⟨x4, ex4, h⟩ := h
      obtain ⟨hkx4, hcall⟩ := tb_on_some ex4
      refine tb_e_cv (v := some (.int x4.1)) rfl (Or.inl ⟨_, rfl⟩) rfl rfl (Nat.le_of_ble_eq_true rfl) rfl (Nat.le_of_ble_eq_true rfl) hkx4 ((dc_m_fails hcall).up (by decide)) ?_
      subst hr
      exact tb_r_z rfl h
    · rw [if_neg hc] at h
      refine tb_Es (k := 2) (st' := (20, [(0, .ref a0), (1, .int a1)], [.long 448546567013, .ref a0], x1.2)) rfl ?_
      replace h := Option.bind_eq_some_iff.mp h
      obtain ⟨x5, ex5, h⟩ := h
      obtain ⟨hkx5, hcall⟩ := tb_on_some ex5
      refine tb_e_cv (v := some (.int x5.1)) rfl (Or.inl ⟨_, rfl⟩) rfl rfl (Nat.le_of_ble_eq_true rfl) rfl (Nat.le_of_ble_eq_true rfl) hkx5 ((dc_m_isWord hcall).up (by decide)) ?_
      refine tb_b_ieq rfl (fun hc => ?_) (fun hc => ?_)
      · rw [if_pos hc] at h
        refine tb_Es (k := 2) (st' := (27, [(0, .ref a0), (1, .int a1)], [.int a1, .ref a0], x5.2)) rfl ?_
        replace h := Option.bind_eq_some_iff.mp h
        obtain ⟨x6, ex6, h⟩ := h
        obtain ⟨hkx6, hcall⟩ := tb_on_some ex6
        refine tb_e_cv (v := some (.int x6.1)) rfl (Or.inl ⟨_, rfl⟩) rfl rfl (Nat.le_of_ble_eq_true rfl) rfl (Nat.le_of_ble_eq_true rfl) hkx6 ((dc_m_isLineHere hcall).up (by decide)) ?_
        subst hr
        exact tb_r_z rfl h
      · rw [if_neg hc] at h
        refine tb_Es (k := 1) (st' := (23, [(0, .ref a0), (1, .int a1)], [.ref a0], x5.2)) rfl ?_
        replace h := Option.bind_eq_some_iff.mp h
        obtain ⟨x7, ex7, h⟩ := h
        obtain ⟨hkx7, hcall⟩ := tb_on_some ex7
        refine tb_e_cv (v := some (.int x7.1)) rfl (Or.inl ⟨_, rfl⟩) rfl rfl (Nat.le_of_ble_eq_true rfl) rfl (Nat.le_of_ble_eq_true rfl) hkx7 ((dc_m_isHouseHere hcall).up (by decide)) ?_
        refine tb_Es (k := 1) (st' := (28, [(0, .ref a0), (1, .int a1)], [.int x7.1], x7.2)) rfl ?_
        subst hr
        exact tb_r_z rfl h
  · rw [if_neg hc] at h
    refine tb_Es (k := 2) (st' := (6, [(0, .ref a0), (1, .int a1)], [.int a1, .ref a0], x1.2)) rfl ?_
    replace h := Option.bind_eq_some_iff.mp h
    obtain ⟨x8, ex8, h⟩ := h
    obtain ⟨hkx8, hcall⟩ := tb_on_some ex8
    refine tb_e_cv (v := some (.int x8.1)) rfl (Or.inl ⟨_, rfl⟩) rfl rfl (Nat.le_of_ble_eq_true rfl) rfl (Nat.le_of_ble_eq_true rfl) hkx8 ((dc_m_isStreetHere hcall).up (by decide)) ?_
    subst hr
    exact tb_r_z rfl h
/-! TannerBuntingModel.term()Z -/
def fj_m_term_j46 (k : Nat → tb_Hp → Option (Int32 × tb_Hp)) (w : tb_Hp) : Option (Int32 × tb_Hp) := some ((0, w))
set_option maxHeartbeats 4000000 in
set_option maxRecDepth 20000 in
theorem dj_m_term_j46 (k : Nat → tb_Hp → Option (Int32 × tb_Hp)) (w : tb_Hp) (o : Int32 × tb_Hp) (h : fj_m_term_j46 k  w = some o) (r : Option Value × tb_Hp) (hx : r = (some (.int o.1), o.2)) (hk : ∀ (v0 : Nat) (w : tb_Hp), k v0 w = some o → tb_Ev tb_P 4 193 (6, [(0, .ref v0)], [], w) r) : tb_Ev tb_P 4 193 (50, [], [], w) r := by
  unfold fj_m_term_j46 at h
  refine tb_Es (k := 1) (st' := (51, [], [.int 0], w)) rfl ?_
  obtain rfl := Option.some.inj h
  replace hx : r = _ := hx
  subst hx
  exact tb_Er rfl rfl
def fj_m_term_j36 (k : Nat → tb_Hp → Option (Int32 × tb_Hp)) (v0 : Nat) (s0 : Int32) (w : tb_Hp) : Option (Int32 × tb_Hp) := (tb_gI 22 8 v0 w).bind fun x6 => (tb_pI 22 8 v0 (x6 + 1) w).bind fun w7 => (tb_on 22 v0 w7 (fb_m_value v0 w7)).bind fun x8 => (if x8.1 = 0 then fj_m_term_j46 k  x8.2 else (tb_on 22 v0 x8.2 (fb_m_puts v0 s0 0 x8.2)).bind fun x9 => k v0 x9)
set_option maxHeartbeats 4000000 in
set_option maxRecDepth 20000 in
theorem dj_m_term_j36 (k : Nat → tb_Hp → Option (Int32 × tb_Hp)) (v0 : Nat) (s0 : Int32) (w : tb_Hp) (o : Int32 × tb_Hp) (h : fj_m_term_j36 k v0 s0 w = some o) (r : Option Value × tb_Hp) (hx : r = (some (.int o.1), o.2)) (hk : ∀ (v0 : Nat) (w : tb_Hp), k v0 w = some o → tb_Ev tb_P 4 193 (6, [(0, .ref v0)], [], w) r) : tb_Ev tb_P 4 193 (39, [(0, .ref v0)], [.int s0], w) r := by
  unfold fj_m_term_j36 at h
  refine tb_Es (k := 3) (st' := (42, [(1, .int s0), (0, .ref v0)], [.ref v0, .ref v0], w)) rfl ?_
  replace h := Option.bind_eq_some_iff.mp h
  obtain ⟨x6, ex6, h⟩ := h
  refine tb_e_gI rfl ex6 ?_
  refine tb_Es (k := 2) (st' := (45, [(1, .int s0), (0, .ref v0)], [.int (x6 + 1), .ref v0], w)) rfl ?_
  replace h := Option.bind_eq_some_iff.mp h
  obtain ⟨w7, ew7, h⟩ := h
  refine tb_e_pI rfl ew7 ?_
  refine tb_Es (k := 1) (st' := (47, [(1, .int s0), (0, .ref v0)], [.ref v0], w7)) rfl ?_
  replace h := Option.bind_eq_some_iff.mp h
  obtain ⟨x8, ex8, h⟩ := h
  obtain ⟨hkx8, hcall⟩ := tb_on_some ex8
  refine tb_e_cv (v := some (.int x8.1)) rfl (Or.inl ⟨_, rfl⟩) rfl rfl (Nat.le_of_ble_eq_true rfl) rfl (Nat.le_of_ble_eq_true rfl) hkx8 ((dc_m_value hcall).up (by decide)) ?_
  refine tb_b_ine rfl (fun hc => ?_) (fun hc => ?_)
  · rw [if_pos hc] at h
    refine tb_Es (k := 1) (st' := (50, [], [], x8.2)) rfl ?_
    exact dj_m_term_j46 k  x8.2 _ h r hx hk
  · rw [if_neg hc] at h
    refine tb_Es (k := 3) (st' := (55, [(1, .int s0), (0, .ref v0)], [.int 0, .int s0, .ref v0], x8.2)) rfl ?_
    replace h := Option.bind_eq_some_iff.mp h
    obtain ⟨x9, ex9, h⟩ := h
    obtain ⟨hkx9, hcall⟩ := tb_on_some ex9
    refine tb_e_cv (v := none) rfl (Or.inl ⟨_, rfl⟩) rfl rfl (Nat.le_of_ble_eq_true rfl) rfl (Nat.le_of_ble_eq_true rfl) hkx9 ((dc_m_puts hcall).up (by decide)) ?_
    refine tb_Es (k := 2) (st' := (6, [(0, .ref v0)], [], x9)) rfl ?_
    exact hk v0 x9 h
def fj_m_term_j17 (k : Nat → tb_Hp → Option (Int32 × tb_Hp)) (v0 : Nat) (w : tb_Hp) : Option (Int32 × tb_Hp) := (tb_gN 22 0 v0 w).bind fun p3 => (tb_gI 22 8 v0 w).bind fun x4 => (tb_lI [0, 3] p3 x4 w).bind fun x5 => (if x5 = 42 then fj_m_term_j36 k v0 4 w else (tb_gN 22 0 v0 w).bind fun p10 => (tb_gI 22 8 v0 w).bind fun x11 => (tb_lI [0, 3] p10 x11 w).bind fun x12 => (if x12 = 47 then fj_m_term_j36 k v0 5 w else fj_m_term_j36 k v0 14 w))
set_option maxHeartbeats 4000000 in
set_option maxRecDepth 20000 in
theorem dj_m_term_j17 (k : Nat → tb_Hp → Option (Int32 × tb_Hp)) (v0 : Nat) (w : tb_Hp) (o : Int32 × tb_Hp) (h : fj_m_term_j17 k v0 w = some o) (r : Option Value × tb_Hp) (hx : r = (some (.int o.1), o.2)) (hk : ∀ (v0 : Nat) (w : tb_Hp), k v0 w = some o → tb_Ev tb_P 4 193 (6, [(0, .ref v0)], [], w) r) : tb_Ev tb_P 4 193 (19, [(0, .ref v0)], [], w) r := by
  unfold fj_m_term_j17 at h
  refine tb_Es (k := 1) (st' := (20, [(0, .ref v0)], [.ref v0], w)) rfl ?_
  replace h := Option.bind_eq_some_iff.mp h
  obtain ⟨p3, ep3, h⟩ := h
  refine tb_e_gN rfl ep3 ?_
  refine tb_Es (k := 1) (st' := (22, [(0, .ref v0)], [.ref v0, .ref p3], w)) rfl ?_
  replace h := Option.bind_eq_some_iff.mp h
  obtain ⟨x4, ex4, h⟩ := h
  refine tb_e_gI rfl ex4 ?_
  replace h := Option.bind_eq_some_iff.mp h
  obtain ⟨x5, ex5, h⟩ := h
  refine tb_e_lI rfl (Or.inr ⟨rfl, rfl⟩) ex5 ?_
  refine tb_Es (k := 1) (st' := (25, [(0, .ref v0)], [.int 42, .int x5], w)) rfl ?_
  refine tb_b_cne rfl (fun hc => ?_) (fun hc => ?_)
  · rw [if_pos hc] at h
    refine tb_Es (k := 3) (st' := (39, [(0, .ref v0)], [.int 4], w)) rfl ?_
    exact dj_m_term_j36 k v0 4 w _ h r hx hk
  · rw [if_neg hc] at h
    refine tb_Es (k := 1) (st' := (29, [(0, .ref v0)], [.ref v0], w)) rfl ?_
    replace h := Option.bind_eq_some_iff.mp h
    obtain ⟨p10, ep10, h⟩ := h
    refine tb_e_gN rfl ep10 ?_
    refine tb_Es (k := 1) (st' := (31, [(0, .ref v0)], [.ref v0, .ref p10], w)) rfl ?_
    replace h := Option.bind_eq_some_iff.mp h
    obtain ⟨x11, ex11, h⟩ := h
    refine tb_e_gI rfl ex11 ?_
    replace h := Option.bind_eq_some_iff.mp h
    obtain ⟨x12, ex12, h⟩ := h
    refine tb_e_lI rfl (Or.inr ⟨rfl, rfl⟩) ex12 ?_
    refine tb_Es (k := 1) (st' := (34, [(0, .ref v0)], [.int 47, .int x12], w)) rfl ?_
    refine tb_b_cne rfl (fun hc => ?_) (fun hc => ?_)
    · rw [if_pos hc] at h
      refine tb_Es (k := 3) (st' := (39, [(0, .ref v0)], [.int 5], w)) rfl ?_
      exact dj_m_term_j36 k v0 5 w _ h r hx hk
    · rw [if_neg hc] at h
      refine tb_Es (k := 2) (st' := (39, [(0, .ref v0)], [.int 14], w)) rfl ?_
      exact dj_m_term_j36 k v0 14 w _ h r hx hk
def fj_m_term_j53 (k : Nat → tb_Hp → Option (Int32 × tb_Hp)) (w : tb_Hp) : Option (Int32 × tb_Hp) := some ((1, w))
set_option maxHeartbeats 4000000 in
set_option maxRecDepth 20000 in
theorem dj_m_term_j53 (k : Nat → tb_Hp → Option (Int32 × tb_Hp)) (w : tb_Hp) (o : Int32 × tb_Hp) (h : fj_m_term_j53 k  w = some o) (r : Option Value × tb_Hp) (hx : r = (some (.int o.1), o.2)) (hk : ∀ (v0 : Nat) (w : tb_Hp), k v0 w = some o → tb_Ev tb_P 4 193 (6, [(0, .ref v0)], [], w) r) : tb_Ev tb_P 4 193 (58, [], [], w) r := by
  unfold fj_m_term_j53 at h
  refine tb_Es (k := 1) (st' := (59, [], [.int 1], w)) rfl ?_
  obtain rfl := Option.some.inj h
  replace hx : r = _ := hx
  subst hx
  exact tb_Er rfl rfl
def fl_m_term_5 : Nat → Nat → tb_Hp → Option (Int32 × tb_Hp)
  | 0, _, _ => none
  | n + 1, v0, w => (tb_on 22 v0 w (fb_m_see v0 w)).bind fun x2 => (if x2.1 = 42 then fj_m_term_j17 (fl_m_term_5 n) v0 x2.2 else (tb_on 22 v0 x2.2 (fb_m_see v0 x2.2)).bind fun x13 => (if x13.1 = 47 then fj_m_term_j17 (fl_m_term_5 n) v0 x13.2 else (tb_on 22 v0 x13.2 (fb_m_see v0 x13.2)).bind fun x14 => (if x14.1 = 37 then fj_m_term_j17 (fl_m_term_5 n) v0 x14.2 else fj_m_term_j53 (fl_m_term_5 n)  x14.2)))
set_option maxHeartbeats 4000000 in
set_option maxRecDepth 20000 in
theorem dl_m_term_5 : ∀ (n : Nat) (v0 : Nat) (w : tb_Hp) (o : Int32 × tb_Hp), fl_m_term_5 n v0 w = some o → ∀ (r : Option Value × tb_Hp), r = (some (.int o.1), o.2) → tb_Ev tb_P 4 193 (6, [(0, .ref v0)], [], w) r := by
  intro n
  induction n with
  | zero =>
    intro v0 w o h
    cases h
  | succ n ih =>
    intro v0 w o h r hx
    unfold fl_m_term_5 at h
    refine tb_Es (k := 1) (st' := (7, [(0, .ref v0)], [.ref v0], w)) rfl ?_
    replace h := Option.bind_eq_some_iff.mp h
    obtain ⟨x2, ex2, h⟩ := h
    obtain ⟨hkx2, hcall⟩ := tb_on_some ex2
    refine tb_e_cv (v := some (.int x2.1)) rfl (Or.inl ⟨_, rfl⟩) rfl rfl (Nat.le_of_ble_eq_true rfl) rfl (Nat.le_of_ble_eq_true rfl) hkx2 ((dc_m_see hcall).up (by decide)) ?_
    refine tb_Es (k := 1) (st' := (9, [(0, .ref v0)], [.int 42, .int x2.1], x2.2)) rfl ?_
    refine tb_b_ceq rfl (fun hc => ?_) (fun hc => ?_)
    · rw [if_pos hc] at h
      refine tb_Es (k := 1) (st' := (19, [(0, .ref v0)], [], x2.2)) rfl ?_
      exact dj_m_term_j17 (fl_m_term_5 n) v0 x2.2 _ h r hx (fun v0_ w_ h_ => ih v0_ w_ _ h_ r hx)
    · rw [if_neg hc] at h
      refine tb_Es (k := 1) (st' := (11, [(0, .ref v0)], [.ref v0], x2.2)) rfl ?_
      replace h := Option.bind_eq_some_iff.mp h
      obtain ⟨x13, ex13, h⟩ := h
      obtain ⟨hkx13, hcall⟩ := tb_on_some ex13
      refine tb_e_cv (v := some (.int x13.1)) rfl (Or.inl ⟨_, rfl⟩) rfl rfl (Nat.le_of_ble_eq_true rfl) rfl (Nat.le_of_ble_eq_true rfl) hkx13 ((dc_m_see hcall).up (by decide)) ?_
      refine tb_Es (k := 1) (st' := (13, [(0, .ref v0)], [.int 47, .int x13.1], x13.2)) rfl ?_
      refine tb_b_ceq rfl (fun hc => ?_) (fun hc => ?_)
      · rw [if_pos hc] at h
        refine tb_Es (k := 1) (st' := (19, [(0, .ref v0)], [], x13.2)) rfl ?_
        exact dj_m_term_j17 (fl_m_term_5 n) v0 x13.2 _ h r hx (fun v0_ w_ h_ => ih v0_ w_ _ h_ r hx)
      · rw [if_neg hc] at h
        refine tb_Es (k := 1) (st' := (15, [(0, .ref v0)], [.ref v0], x13.2)) rfl ?_
        replace h := Option.bind_eq_some_iff.mp h
        obtain ⟨x14, ex14, h⟩ := h
        obtain ⟨hkx14, hcall⟩ := tb_on_some ex14
        refine tb_e_cv (v := some (.int x14.1)) rfl (Or.inl ⟨_, rfl⟩) rfl rfl (Nat.le_of_ble_eq_true rfl) rfl (Nat.le_of_ble_eq_true rfl) hkx14 ((dc_m_see hcall).up (by decide)) ?_
        refine tb_Es (k := 1) (st' := (17, [(0, .ref v0)], [.int 37, .int x14.1], x14.2)) rfl ?_
        refine tb_b_cne rfl (fun hc => ?_) (fun hc => ?_)
        · rw [if_pos hc] at h
          refine tb_Es (k := 1) (st' := (19, [(0, .ref v0)], [], x14.2)) rfl ?_
          exact dj_m_term_j17 (fl_m_term_5 n) v0 x14.2 _ h r hx (fun v0_ w_ h_ => ih v0_ w_ _ h_ r hx)
        · rw [if_neg hc] at h
          refine tb_Es (k := 1) (st' := (58, [], [], x14.2)) rfl ?_
          exact dj_m_term_j53 (fl_m_term_5 n)  x14.2 _ h r hx (fun v0_ w_ h_ => ih v0_ w_ _ h_ r hx)
def fb_m_term (a0 : Nat) (w : tb_Hp) : Option (Int32 × tb_Hp) := (tb_on 22 a0 w (fb_m_value a0 w)).bind fun x1 => (if x1.1 = 0 then some (0, x1.2) else (fl_m_term_5 1048576 a0 x1.2).bind fun o15 => some o15)
set_option maxHeartbeats 4000000 in
set_option maxRecDepth 20000 in
theorem dc_m_term {a0 : Nat} {w : tb_Hp} {o : Int32 × tb_Hp} (h : fb_m_term a0 w = some o) : tb_Ev tb_P 4 193 (0, tb_ent [.ref a0], [], w) (some (.int o.1), o.2) := by
  unfold fb_m_term at h
  obtain ⟨r, hr⟩ : ∃ r : Option Value × tb_Hp, r = (some (.int o.1), o.2) := ⟨_, rfl⟩
  rw [← hr]
  show tb_Ev tb_P 4 193 (0, [(0, .ref a0)], [], w) r
  refine tb_Es (k := 1) (st' := (1, [(0, .ref a0)], [.ref a0], w)) rfl ?_
  replace h := Option.bind_eq_some_iff.mp h
  obtain ⟨x1, ex1, h⟩ := h
  obtain ⟨hkx1, hcall⟩ := tb_on_some ex1
  refine tb_e_cv (v := some (.int x1.1)) rfl (Or.inl ⟨_, rfl⟩) rfl rfl (Nat.le_of_ble_eq_true rfl) rfl (Nat.le_of_ble_eq_true rfl) hkx1 ((dc_m_value hcall).up (by decide)) ?_
  refine tb_b_ine rfl (fun hc => ?_) (fun hc => ?_)
  · rw [if_pos hc] at h
    refine tb_Es (k := 1) (st' := (4, [(0, .ref a0)], [.int 0], x1.2)) rfl ?_
    obtain rfl := Option.some.inj h
    subst hr
    exact tb_Er rfl rfl
  · rw [if_neg hc] at h
    refine tb_Es (k := 1) (st' := (6, [(0, .ref a0)], [], x1.2)) rfl ?_
    replace h := Option.bind_eq_some_iff.mp h
    obtain ⟨o15, eo15, h⟩ := h
    refine dl_m_term_5 _ a0 x1.2 _ eo15 r ?_
    obtain rfl := Option.some.inj h
    exact hr
/-! TannerBuntingModel.house(II)I -/
def fb_m_house (a0 : Nat) (a1 : Int32) (a2 : Int32) (w : tb_Hp) : Option (Int32 × tb_Hp) := (tb_on 22 a0 w (fb_m_isHouse a0 a1 w)).bind fun x1 => (if x1.1 = 0 then some (-1, x1.2) else (if a2 = 0 then (tb_gN 22 20 a0 x1.2).bind fun p2 => (tb_lI [1, 9] p2 (12 + a1) x1.2).bind fun x3 => some (x3, x1.2) else (if a2 = 1 then (tb_gN 22 20 a0 x1.2).bind fun p4 => (tb_lI [1, 9] p4 (22 + a1) x1.2).bind fun x5 => some (x5, x1.2) else (if a2 = 2 then (tb_gN 22 20 a0 x1.2).bind fun p6 => (tb_lI [1, 9] p6 (32 + a1) x1.2).bind fun x7 => some (x7, x1.2) else (if a2 = 3 then (tb_on 22 a0 x1.2 (fb_m_linesAt a0 a1 x1.2)).bind fun x8 => some (x8.1, x8.2) else some (-1, x1.2))))))
set_option maxHeartbeats 4000000 in
set_option maxRecDepth 20000 in
theorem dc_m_house {a0 : Nat} {a1 : Int32} {a2 : Int32} {w : tb_Hp} {o : Int32 × tb_Hp} (h : fb_m_house a0 a1 a2 w = some o) : tb_Ev tb_P 4 212 (0, tb_ent [.ref a0, .int a1, .int a2], [], w) (some (.int o.1), o.2) := by
  unfold fb_m_house at h
  obtain ⟨r, hr⟩ : ∃ r : Option Value × tb_Hp, r = (some (.int o.1), o.2) := ⟨_, rfl⟩
  rw [← hr]
  show tb_Ev tb_P 4 212 (0, [(0, .ref a0), (1, .int a1), (2, .int a2)], [], w) r
  refine tb_Es (k := 2) (st' := (2, [(0, .ref a0), (1, .int a1), (2, .int a2)], [.int a1, .ref a0], w)) rfl ?_
  replace h := Option.bind_eq_some_iff.mp h
  obtain ⟨x1, ex1, h⟩ := h
  obtain ⟨hkx1, hcall⟩ := tb_on_some ex1
  refine tb_e_cv (v := some (.int x1.1)) rfl (Or.inl ⟨_, rfl⟩) rfl rfl (Nat.le_of_ble_eq_true rfl) rfl (Nat.le_of_ble_eq_true rfl) hkx1 ((dc_m_isHouse hcall).up (by decide)) ?_
  refine tb_b_ine rfl (fun hc => ?_) (fun hc => ?_)
  · rw [if_pos hc] at h
    refine tb_Es (k := 1) (st' := (5, [(0, .ref a0), (1, .int a1), (2, .int a2)], [.int (-1)], x1.2)) rfl ?_
    obtain rfl := Option.some.inj h
    subst hr
    exact tb_Er rfl rfl
  · rw [if_neg hc] at h
    refine tb_Es (k := 1) (st' := (7, [(0, .ref a0), (1, .int a1), (2, .int a2)], [.int a2], x1.2)) rfl ?_
    refine tb_w_tab rfl (by decide) ?_
    refine tb_w_one (k := 0) (by decide) (fun hc => ?_) (fun hc => ?_)
    · rw [if_pos hc] at h
      refine tb_Es (k := 1) (st' := (9, [(0, .ref a0), (1, .int a1), (2, .int a2)], [.ref a0], x1.2)) rfl ?_
      replace h := Option.bind_eq_some_iff.mp h
      obtain ⟨p2, ep2, h⟩ := h
      refine tb_e_gN rfl ep2 ?_
      refine tb_Es (k := 3) (st' := (13, [(0, .ref a0), (1, .int a1), (2, .int a2)], [.int (12 + a1), .ref p2], x1.2)) rfl ?_
      replace h := Option.bind_eq_some_iff.mp h
      obtain ⟨x3, ex3, h⟩ := h
      refine tb_e_lI rfl (Or.inl ⟨rfl, rfl⟩) ex3 ?_
      obtain rfl := Option.some.inj h
      subst hr
      exact tb_Er rfl rfl
    rw [if_neg hc] at h
    refine tb_w_one (k := 1) (by decide) (fun hc => ?_) (fun hc => ?_)
    · rw [if_pos hc] at h
      refine tb_Es (k := 1) (st' := (16, [(0, .ref a0), (1, .int a1), (2, .int a2)], [.ref a0], x1.2)) rfl ?_
      replace h := Option.bind_eq_some_iff.mp h
      obtain ⟨p4, ep4, h⟩ := h
      refine tb_e_gN rfl ep4 ?_
      refine tb_Es (k := 3) (st' := (20, [(0, .ref a0), (1, .int a1), (2, .int a2)], [.int (22 + a1), .ref p4], x1.2)) rfl ?_
      replace h := Option.bind_eq_some_iff.mp h
      obtain ⟨x5, ex5, h⟩ := h
      refine tb_e_lI rfl (Or.inl ⟨rfl, rfl⟩) ex5 ?_
      obtain rfl := Option.some.inj h
      subst hr
      exact tb_Er rfl rfl
    rw [if_neg hc] at h
    refine tb_w_one (k := 2) (by decide) (fun hc => ?_) (fun hc => ?_)
    · rw [if_pos hc] at h
      refine tb_Es (k := 1) (st' := (23, [(0, .ref a0), (1, .int a1), (2, .int a2)], [.ref a0], x1.2)) rfl ?_
      replace h := Option.bind_eq_some_iff.mp h
      obtain ⟨p6, ep6, h⟩ := h
      refine tb_e_gN rfl ep6 ?_
      refine tb_Es (k := 3) (st' := (27, [(0, .ref a0), (1, .int a1), (2, .int a2)], [.int (32 + a1), .ref p6], x1.2)) rfl ?_
      replace h := Option.bind_eq_some_iff.mp h
      obtain ⟨x7, ex7, h⟩ := h
      refine tb_e_lI rfl (Or.inl ⟨rfl, rfl⟩) ex7 ?_
      obtain rfl := Option.some.inj h
      subst hr
      exact tb_Er rfl rfl
    rw [if_neg hc] at h
    refine tb_w_one (k := 3) (by decide) (fun hc => ?_) (fun hc => ?_)
    · rw [if_pos hc] at h
      refine tb_Es (k := 2) (st' := (31, [(0, .ref a0), (1, .int a1), (2, .int a2)], [.int a1, .ref a0], x1.2)) rfl ?_
      replace h := Option.bind_eq_some_iff.mp h
      obtain ⟨x8, ex8, h⟩ := h
      obtain ⟨hkx8, hcall⟩ := tb_on_some ex8
      refine tb_e_cv (v := some (.int x8.1)) rfl (Or.inl ⟨_, rfl⟩) rfl rfl (Nat.le_of_ble_eq_true rfl) rfl (Nat.le_of_ble_eq_true rfl) hkx8 ((dc_m_linesAt hcall).up (by decide)) ?_
      obtain rfl := Option.some.inj h
      subst hr
      exact tb_Er rfl rfl
    rw [if_neg hc] at h
    refine tb_w_end ?_
    refine tb_Es (k := 1) (st' := (34, [(0, .ref a0), (1, .int a1), (2, .int a2)], [.int (-1)], x1.2)) rfl ?_
    obtain rfl := Option.some.inj h
    subst hr
    exact tb_Er rfl rfl
/-! TannerBuntingModel.isKept(I)Z -/
def fb_m_isKept (a0 : Nat) (a1 : Int32) (w : tb_Hp) : Option (Int32 × tb_Hp) := (tb_gN 22 19 a0 w).bind fun p1 => (tb_tJ p1 0 (Int32.toInt64 a1) w).bind fun w2 => (tb_gN 22 19 a0 w2).bind fun p3 => (tb_on 22 a0 w2 (fb_m_oddOf a0 a1 w2)).bind fun x4 => (tb_tJ p3 1 (Int32.toInt64 x4.1) x4.2).bind fun w5 => (tb_gN 22 19 a0 w5).bind fun p6 => (tb_on 22 a0 w5 (fb_m_evenOf a0 a1 w5)).bind fun x7 => (tb_tJ p6 2 (Int32.toInt64 x7.1) x7.2).bind fun w8 => (tb_gN 22 19 a0 w8).bind fun p9 => (tb_on 22 a0 w8 (fb_m_pullOf a0 a1 w8)).bind fun x10 => (tb_tJ p9 3 (Int32.toInt64 x10.1) x10.2).bind fun w11 => (tb_gN 22 19 a0 w11).bind fun p12 => (tb_gN 22 20 a0 w11).bind fun p13 => (tb_on 22 a0 w11 (fb_m_oddOf a0 a1 w11)).bind fun x14 => (tb_lI [1, 9] p13 (12 + x14.1) x14.2).bind fun x15 => (tb_tJ p12 4 (Int32.toInt64 x15) x14.2).bind fun w16 => (tb_gN 22 19 a0 w16).bind fun p17 => (tb_gN 22 20 a0 w16).bind fun p18 => (tb_on 22 a0 w16 (fb_m_evenOf a0 a1 w16)).bind fun x19 => (tb_lI [1, 9] p18 (12 + x19.1) x19.2).bind fun x20 => (tb_tJ p17 5 (Int32.toInt64 x20) x19.2).bind fun w21 => (tb_gN 22 19 a0 w21).bind fun p22 => (tb_gN 22 20 a0 w21).bind fun p23 => (tb_on 22 a0 w21 (fb_m_oddOf a0 a1 w21)).bind fun x24 => (tb_lI [1, 9] p23 (22 + x24.1) x24.2).bind fun x25 => (tb_tJ p22 6 (Int32.toInt64 x25) x24.2).bind fun w26 => (tb_gN 22 19 a0 w26).bind fun p27 => (tb_gN 22 20 a0 w26).bind fun p28 => (tb_on 22 a0 w26 (fb_m_evenOf a0 a1 w26)).bind fun x29 => (tb_lI [1, 9] p28 (22 + x29.1) x29.2).bind fun x30 => (tb_tJ p27 7 (Int32.toInt64 x30) x29.2).bind fun w31 => (tb_gN 22 19 a0 w31).bind fun p32 => (tb_on 22 a0 w31 (fb_m_linesUp a0 w31)).bind fun x33 => (fb_m_bits x33.1 x33.2).bind fun x34 => (tb_tJ p32 8 (Int32.toInt64 x34.1) x34.2).bind fun w35 => (tb_gN 22 19 a0 w35).bind fun p36 => (tb_on 22 a0 w35 (fb_m_standingOnes a0 w35)).bind fun x37 => (fb_m_bits x37.1 x37.2).bind fun x38 => (tb_tJ p36 9 (Int32.toInt64 x38.1) x38.2).bind fun w39 => (tb_gN 22 19 a0 w39).bind fun p40 => (tb_gN 22 20 a0 w39).bind fun p41 => (tb_lI [1, 9] p41 2 w39).bind fun x42 => (tb_tJ p40 10 (Int32.toInt64 x42) w39).bind fun w43 => (tb_gN 22 19 a0 w43).bind fun p44 => (tb_gN 22 20 a0 w43).bind fun p45 => (tb_lI [1, 9] p45 10 w43).bind fun x46 => (tb_tJ p44 11 (Int32.toInt64 x46) w43).bind fun w47 => (tb_gI 22 21 a0 w47).bind fun x48 => (tb_on 22 a0 w47 (fb_m_summedBy a0 x48 w47)).bind fun x49 => (if 0 < (lg_cmp x49.1 0) then some (1, x49.2) else some (0, x49.2))
set_option maxHeartbeats 4000000 in
set_option maxRecDepth 20000 in
theorem dc_m_isKept {a0 : Nat} {a1 : Int32} {w : tb_Hp} {o : Int32 × tb_Hp} (h : fb_m_isKept a0 a1 w = some o) : tb_Ev tb_P 4 228 (0, tb_ent [.ref a0, .int a1], [], w) (some (.int o.1), o.2) := by
  unfold fb_m_isKept at h
  obtain ⟨r, hr⟩ : ∃ r : Option Value × tb_Hp, r = (some (.int o.1), o.2) := ⟨_, rfl⟩
  rw [← hr]
  show tb_Ev tb_P 4 228 (0, [(0, .ref a0), (1, .int a1)], [], w) r
  refine tb_Es (k := 1) (st' := (1, [(0, .ref a0), (1, .int a1)], [.ref a0], w)) rfl ?_
  replace h := Option.bind_eq_some_iff.mp h
  obtain ⟨p1, ep1, h⟩ := h
  refine tb_e_gN rfl ep1 ?_
  refine tb_Es (k := 3) (st' := (5, [(0, .ref a0), (1, .int a1)], [.long (Int32.toInt64 a1), .int 0, .ref p1], w)) rfl ?_
  replace h := Option.bind_eq_some_iff.mp h
  obtain ⟨w2, ew2, h⟩ := h
  refine tb_e_tJ rfl ew2 ?_
  refine tb_Es (k := 1) (st' := (7, [(0, .ref a0), (1, .int a1)], [.ref a0], w2)) rfl ?_
  replace h := Option.bind_eq_some_iff.mp h
  obtain ⟨p3, ep3, h⟩ := h
  refine tb_e_gN rfl ep3 ?_
  refine tb_Es (k := 3) (st' := (11, [(0, .ref a0), (1, .int a1)], [.int a1, .ref a0, .int 1, .ref p3], w2)) rfl ?_
  replace h := Option.bind_eq_some_iff.mp h
  obtain ⟨x4, ex4, h⟩ := h
  obtain ⟨hkx4, hcall⟩ := tb_on_some ex4
  refine tb_e_cv (v := some (.int x4.1)) rfl (Or.inl ⟨_, rfl⟩) rfl rfl (Nat.le_of_ble_eq_true rfl) rfl (Nat.le_of_ble_eq_true rfl) hkx4 ((dc_m_oddOf hcall).up (by decide)) ?_
  refine tb_Es (k := 1) (st' := (13, [(0, .ref a0), (1, .int a1)], [.long (Int32.toInt64 x4.1), .int 1, .ref p3], x4.2)) rfl ?_
  replace h := Option.bind_eq_some_iff.mp h
  obtain ⟨w5, ew5, h⟩ := h
  refine tb_e_tJ rfl ew5 ?_
  refine tb_Es (k := 1) (st' := (15, [(0, .ref a0), (1, .int a1)], [.ref a0], w5)) rfl ?_
  replace h := Option.bind_eq_some_iff.mp h
  obtain ⟨p6, ep6, h⟩ := h
  refine tb_e_gN rfl ep6 ?_
  refine tb_Es (k := 3) (st' := (19, [(0, .ref a0), (1, .int a1)], [.int a1, .ref a0, .int 2, .ref p6], w5)) rfl ?_
  replace h := Option.bind_eq_some_iff.mp h
  obtain ⟨x7, ex7, h⟩ := h
  obtain ⟨hkx7, hcall⟩ := tb_on_some ex7
  refine tb_e_cv (v := some (.int x7.1)) rfl (Or.inl ⟨_, rfl⟩) rfl rfl (Nat.le_of_ble_eq_true rfl) rfl (Nat.le_of_ble_eq_true rfl) hkx7 ((dc_m_evenOf hcall).up (by decide)) ?_
  refine tb_Es (k := 1) (st' := (21, [(0, .ref a0), (1, .int a1)], [.long (Int32.toInt64 x7.1), .int 2, .ref p6], x7.2)) rfl ?_
  replace h := Option.bind_eq_some_iff.mp h
  obtain ⟨w8, ew8, h⟩ := h
  refine tb_e_tJ rfl ew8 ?_
  refine tb_Es (k := 1) (st' := (23, [(0, .ref a0), (1, .int a1)], [.ref a0], w8)) rfl ?_
  replace h := Option.bind_eq_some_iff.mp h
  obtain ⟨p9, ep9, h⟩ := h
  refine tb_e_gN rfl ep9 ?_
  refine tb_Es (k := 3) (st' := (27, [(0, .ref a0), (1, .int a1)], [.int a1, .ref a0, .int 3, .ref p9], w8)) rfl ?_
  replace h := Option.bind_eq_some_iff.mp h
  obtain ⟨x10, ex10, h⟩ := h
  obtain ⟨hkx10, hcall⟩ := tb_on_some ex10
  refine tb_e_cv (v := some (.int x10.1)) rfl (Or.inl ⟨_, rfl⟩) rfl rfl (Nat.le_of_ble_eq_true rfl) rfl (Nat.le_of_ble_eq_true rfl) hkx10 ((dc_m_pullOf hcall).up (by decide)) ?_
  refine tb_Es (k := 1) (st' := (29, [(0, .ref a0), (1, .int a1)], [.long (Int32.toInt64 x10.1), .int 3, .ref p9], x10.2)) rfl ?_
  replace h := Option.bind_eq_some_iff.mp h
  obtain ⟨w11, ew11, h⟩ := h
  refine tb_e_tJ rfl ew11 ?_
  refine tb_Es (k := 1) (st' := (31, [(0, .ref a0), (1, .int a1)], [.ref a0], w11)) rfl ?_
  replace h := Option.bind_eq_some_iff.mp h
  obtain ⟨p12, ep12, h⟩ := h
  refine tb_e_gN rfl ep12 ?_
  refine tb_Es (k := 2) (st' := (34, [(0, .ref a0), (1, .int a1)], [.ref a0, .int 4, .ref p12], w11)) rfl ?_
  replace h := Option.bind_eq_some_iff.mp h
  obtain ⟨p13, ep13, h⟩ := h
  refine tb_e_gN rfl ep13 ?_
  refine tb_Es (k := 3) (st' := (38, [(0, .ref a0), (1, .int a1)], [.int a1, .ref a0, .int 12, .ref p13, .int 4, .ref p12], w11)) rfl ?_
  replace h := Option.bind_eq_some_iff.mp h
  obtain ⟨x14, ex14, h⟩ := h
  obtain ⟨hkx14, hcall⟩ := tb_on_some ex14
  refine tb_e_cv (v := some (.int x14.1)) rfl (Or.inl ⟨_, rfl⟩) rfl rfl (Nat.le_of_ble_eq_true rfl) rfl (Nat.le_of_ble_eq_true rfl) hkx14 ((dc_m_oddOf hcall).up (by decide)) ?_
  refine tb_Es (k := 1) (st' := (40, [(0, .ref a0), (1, .int a1)], [.int (12 + x14.1), .ref p13, .int 4, .ref p12], x14.2)) rfl ?_
  replace h := Option.bind_eq_some_iff.mp h
  obtain ⟨x15, ex15, h⟩ := h
  refine tb_e_lI rfl (Or.inl ⟨rfl, rfl⟩) ex15 ?_
  refine tb_Es (k := 1) (st' := (42, [(0, .ref a0), (1, .int a1)], [.long (Int32.toInt64 x15), .int 4, .ref p12], x14.2)) rfl ?_
  replace h := Option.bind_eq_some_iff.mp h
  obtain ⟨w16, ew16, h⟩ := h
  refine tb_e_tJ rfl ew16 ?_
  refine tb_Es (k := 1) (st' := (44, [(0, .ref a0), (1, .int a1)], [.ref a0], w16)) rfl ?_
  replace h := Option.bind_eq_some_iff.mp h
  obtain ⟨p17, ep17, h⟩ := h
  refine tb_e_gN rfl ep17 ?_
  refine tb_Es (k := 2) (st' := (47, [(0, .ref a0), (1, .int a1)], [.ref a0, .int 5, .ref p17], w16)) rfl ?_
  replace h := Option.bind_eq_some_iff.mp h
  obtain ⟨p18, ep18, h⟩ := h
  refine tb_e_gN rfl ep18 ?_
  refine tb_Es (k := 3) (st' := (51, [(0, .ref a0), (1, .int a1)], [.int a1, .ref a0, .int 12, .ref p18, .int 5, .ref p17], w16)) rfl ?_
  replace h := Option.bind_eq_some_iff.mp h
  obtain ⟨x19, ex19, h⟩ := h
  obtain ⟨hkx19, hcall⟩ := tb_on_some ex19
  refine tb_e_cv (v := some (.int x19.1)) rfl (Or.inl ⟨_, rfl⟩) rfl rfl (Nat.le_of_ble_eq_true rfl) rfl (Nat.le_of_ble_eq_true rfl) hkx19 ((dc_m_evenOf hcall).up (by decide)) ?_
  refine tb_Es (k := 1) (st' := (53, [(0, .ref a0), (1, .int a1)], [.int (12 + x19.1), .ref p18, .int 5, .ref p17], x19.2)) rfl ?_
  replace h := Option.bind_eq_some_iff.mp h
  obtain ⟨x20, ex20, h⟩ := h
  refine tb_e_lI rfl (Or.inl ⟨rfl, rfl⟩) ex20 ?_
  refine tb_Es (k := 1) (st' := (55, [(0, .ref a0), (1, .int a1)], [.long (Int32.toInt64 x20), .int 5, .ref p17], x19.2)) rfl ?_
  replace h := Option.bind_eq_some_iff.mp h
  obtain ⟨w21, ew21, h⟩ := h
  refine tb_e_tJ rfl ew21 ?_
  refine tb_Es (k := 1) (st' := (57, [(0, .ref a0), (1, .int a1)], [.ref a0], w21)) rfl ?_
  replace h := Option.bind_eq_some_iff.mp h
  obtain ⟨p22, ep22, h⟩ := h
  refine tb_e_gN rfl ep22 ?_
  refine tb_Es (k := 2) (st' := (60, [(0, .ref a0), (1, .int a1)], [.ref a0, .int 6, .ref p22], w21)) rfl ?_
  replace h := Option.bind_eq_some_iff.mp h
  obtain ⟨p23, ep23, h⟩ := h
  refine tb_e_gN rfl ep23 ?_
  refine tb_Es (k := 3) (st' := (64, [(0, .ref a0), (1, .int a1)], [.int a1, .ref a0, .int 22, .ref p23, .int 6, .ref p22], w21)) rfl ?_
  replace h := Option.bind_eq_some_iff.mp h
  obtain ⟨x24, ex24, h⟩ := h
  obtain ⟨hkx24, hcall⟩ := tb_on_some ex24
  refine tb_e_cv (v := some (.int x24.1)) rfl (Or.inl ⟨_, rfl⟩) rfl rfl (Nat.le_of_ble_eq_true rfl) rfl (Nat.le_of_ble_eq_true rfl) hkx24 ((dc_m_oddOf hcall).up (by decide)) ?_
  refine tb_Es (k := 1) (st' := (66, [(0, .ref a0), (1, .int a1)], [.int (22 + x24.1), .ref p23, .int 6, .ref p22], x24.2)) rfl ?_
  replace h := Option.bind_eq_some_iff.mp h
  obtain ⟨x25, ex25, h⟩ := h
  refine tb_e_lI rfl (Or.inl ⟨rfl, rfl⟩) ex25 ?_
  refine tb_Es (k := 1) (st' := (68, [(0, .ref a0), (1, .int a1)], [.long (Int32.toInt64 x25), .int 6, .ref p22], x24.2)) rfl ?_
  replace h := Option.bind_eq_some_iff.mp h
  obtain ⟨w26, ew26, h⟩ := h
  refine tb_e_tJ rfl ew26 ?_
  refine tb_Es (k := 1) (st' := (70, [(0, .ref a0), (1, .int a1)], [.ref a0], w26)) rfl ?_
  replace h := Option.bind_eq_some_iff.mp h
  obtain ⟨p27, ep27, h⟩ := h
  refine tb_e_gN rfl ep27 ?_
  refine tb_Es (k := 2) (st' := (73, [(0, .ref a0), (1, .int a1)], [.ref a0, .int 7, .ref p27], w26)) rfl ?_
  replace h := Option.bind_eq_some_iff.mp h
  obtain ⟨p28, ep28, h⟩ := h
  refine tb_e_gN rfl ep28 ?_
  refine tb_Es (k := 3) (st' := (77, [(0, .ref a0), (1, .int a1)], [.int a1, .ref a0, .int 22, .ref p28, .int 7, .ref p27], w26)) rfl ?_
  replace h := Option.bind_eq_some_iff.mp h
  obtain ⟨x29, ex29, h⟩ := h
  obtain ⟨hkx29, hcall⟩ := tb_on_some ex29
  refine tb_e_cv (v := some (.int x29.1)) rfl (Or.inl ⟨_, rfl⟩) rfl rfl (Nat.le_of_ble_eq_true rfl) rfl (Nat.le_of_ble_eq_true rfl) hkx29 ((dc_m_evenOf hcall).up (by decide)) ?_
  refine tb_Es (k := 1) (st' := (79, [(0, .ref a0), (1, .int a1)], [.int (22 + x29.1), .ref p28, .int 7, .ref p27], x29.2)) rfl ?_
  replace h := Option.bind_eq_some_iff.mp h
  obtain ⟨x30, ex30, h⟩ := h
  refine tb_e_lI rfl (Or.inl ⟨rfl, rfl⟩) ex30 ?_
  refine tb_Es (k := 1) (st' := (81, [(0, .ref a0), (1, .int a1)], [.long (Int32.toInt64 x30), .int 7, .ref p27], x29.2)) rfl ?_
  replace h := Option.bind_eq_some_iff.mp h
  obtain ⟨w31, ew31, h⟩ := h
  refine tb_e_tJ rfl ew31 ?_
  refine tb_Es (k := 1) (st' := (83, [(0, .ref a0), (1, .int a1)], [.ref a0], w31)) rfl ?_
  replace h := Option.bind_eq_some_iff.mp h
  obtain ⟨p32, ep32, h⟩ := h
  refine tb_e_gN rfl ep32 ?_
  refine tb_Es (k := 2) (st' := (86, [(0, .ref a0), (1, .int a1)], [.ref a0, .int 8, .ref p32], w31)) rfl ?_
  replace h := Option.bind_eq_some_iff.mp h
  obtain ⟨x33, ex33, h⟩ := h
  obtain ⟨hkx33, hcall⟩ := tb_on_some ex33
  refine tb_e_cv (v := some (.int x33.1)) rfl (Or.inl ⟨_, rfl⟩) rfl rfl (Nat.le_of_ble_eq_true rfl) rfl (Nat.le_of_ble_eq_true rfl) hkx33 ((dc_m_linesUp hcall).up (by decide)) ?_
  replace h := Option.bind_eq_some_iff.mp h
  obtain ⟨x34, ex34, h⟩ := h
  have hcall := ex34
  refine tb_e_cs (v := some (.int x34.1)) rfl rfl rfl (Nat.le_of_ble_eq_true rfl) rfl (Nat.le_of_ble_eq_true rfl) ((dc_m_bits hcall).up (by decide)) ?_
  refine tb_Es (k := 1) (st' := (89, [(0, .ref a0), (1, .int a1)], [.long (Int32.toInt64 x34.1), .int 8, .ref p32], x34.2)) rfl ?_
  replace h := Option.bind_eq_some_iff.mp h
  obtain ⟨w35, ew35, h⟩ := h
  refine tb_e_tJ rfl ew35 ?_
  refine tb_Es (k := 1) (st' := (91, [(0, .ref a0), (1, .int a1)], [.ref a0], w35)) rfl ?_
  replace h := Option.bind_eq_some_iff.mp h
  obtain ⟨p36, ep36, h⟩ := h
  refine tb_e_gN rfl ep36 ?_
  refine tb_Es (k := 2) (st' := (94, [(0, .ref a0), (1, .int a1)], [.ref a0, .int 9, .ref p36], w35)) rfl ?_
  replace h := Option.bind_eq_some_iff.mp h
  obtain ⟨x37, ex37, h⟩ := h
  obtain ⟨hkx37, hcall⟩ := tb_on_some ex37
  refine tb_e_cv (v := some (.int x37.1)) rfl (Or.inl ⟨_, rfl⟩) rfl rfl (Nat.le_of_ble_eq_true rfl) rfl (Nat.le_of_ble_eq_true rfl) hkx37 ((dc_m_standingOnes hcall).up (by decide)) ?_
  replace h := Option.bind_eq_some_iff.mp h
  obtain ⟨x38, ex38, h⟩ := h
  have hcall := ex38
  refine tb_e_cs (v := some (.int x38.1)) rfl rfl rfl (Nat.le_of_ble_eq_true rfl) rfl (Nat.le_of_ble_eq_true rfl) ((dc_m_bits hcall).up (by decide)) ?_
  refine tb_Es (k := 1) (st' := (97, [(0, .ref a0), (1, .int a1)], [.long (Int32.toInt64 x38.1), .int 9, .ref p36], x38.2)) rfl ?_
  replace h := Option.bind_eq_some_iff.mp h
  obtain ⟨w39, ew39, h⟩ := h
  refine tb_e_tJ rfl ew39 ?_
  refine tb_Es (k := 1) (st' := (99, [(0, .ref a0), (1, .int a1)], [.ref a0], w39)) rfl ?_
  replace h := Option.bind_eq_some_iff.mp h
  obtain ⟨p40, ep40, h⟩ := h
  refine tb_e_gN rfl ep40 ?_
  refine tb_Es (k := 2) (st' := (102, [(0, .ref a0), (1, .int a1)], [.ref a0, .int 10, .ref p40], w39)) rfl ?_
  replace h := Option.bind_eq_some_iff.mp h
  obtain ⟨p41, ep41, h⟩ := h
  refine tb_e_gN rfl ep41 ?_
  refine tb_Es (k := 1) (st' := (104, [(0, .ref a0), (1, .int a1)], [.int 2, .ref p41, .int 10, .ref p40], w39)) rfl ?_
  replace h := Option.bind_eq_some_iff.mp h
  obtain ⟨x42, ex42, h⟩ := h
  refine tb_e_lI rfl (Or.inl ⟨rfl, rfl⟩) ex42 ?_
  refine tb_Es (k := 1) (st' := (106, [(0, .ref a0), (1, .int a1)], [.long (Int32.toInt64 x42), .int 10, .ref p40], w39)) rfl ?_
  replace h := Option.bind_eq_some_iff.mp h
  obtain ⟨w43, ew43, h⟩ := h
  refine tb_e_tJ rfl ew43 ?_
  refine tb_Es (k := 1) (st' := (108, [(0, .ref a0), (1, .int a1)], [.ref a0], w43)) rfl ?_
  replace h := Option.bind_eq_some_iff.mp h
  obtain ⟨p44, ep44, h⟩ := h
  refine tb_e_gN rfl ep44 ?_
  refine tb_Es (k := 2) (st' := (111, [(0, .ref a0), (1, .int a1)], [.ref a0, .int 11, .ref p44], w43)) rfl ?_
  replace h := Option.bind_eq_some_iff.mp h
  obtain ⟨p45, ep45, h⟩ := h
  refine tb_e_gN rfl ep45 ?_
  refine tb_Es (k := 1) (st' := (113, [(0, .ref a0), (1, .int a1)], [.int 10, .ref p45, .int 11, .ref p44], w43)) rfl ?_
  replace h := Option.bind_eq_some_iff.mp h
  obtain ⟨x46, ex46, h⟩ := h
  refine tb_e_lI rfl (Or.inl ⟨rfl, rfl⟩) ex46 ?_
  refine tb_Es (k := 1) (st' := (115, [(0, .ref a0), (1, .int a1)], [.long (Int32.toInt64 x46), .int 11, .ref p44], w43)) rfl ?_
  replace h := Option.bind_eq_some_iff.mp h
  obtain ⟨w47, ew47, h⟩ := h
  refine tb_e_tJ rfl ew47 ?_
  refine tb_Es (k := 2) (st' := (118, [(0, .ref a0), (1, .int a1)], [.ref a0, .ref a0], w47)) rfl ?_
  replace h := Option.bind_eq_some_iff.mp h
  obtain ⟨x48, ex48, h⟩ := h
  refine tb_e_gI rfl ex48 ?_
  replace h := Option.bind_eq_some_iff.mp h
  obtain ⟨x49, ex49, h⟩ := h
  obtain ⟨hkx49, hcall⟩ := tb_on_some ex49
  refine tb_e_cv (v := some (.long x49.1)) rfl (Or.inl ⟨_, rfl⟩) rfl rfl (Nat.le_of_ble_eq_true rfl) rfl (Nat.le_of_ble_eq_true rfl) hkx49 ((dc_m_summedBy hcall).up (by decide)) ?_
  refine tb_Es (k := 2) (st' := (122, [(0, .ref a0), (1, .int a1)], [.int (lg_cmp x49.1 0)], x49.2)) rfl ?_
  refine tb_b_ile rfl (fun hc => ?_) (fun hc => ?_)
  · rw [if_pos hc] at h
    refine tb_Es (k := 2) (st' := (126, [(0, .ref a0), (1, .int a1)], [.int 1], x49.2)) rfl ?_
    obtain rfl := Option.some.inj h
    subst hr
    exact tb_Er rfl rfl
  · rw [if_neg hc] at h
    refine tb_Es (k := 1) (st' := (126, [(0, .ref a0), (1, .int a1)], [.int 0], x49.2)) rfl ?_
    obtain rfl := Option.some.inj h
    subst hr
    exact tb_Er rfl rfl
/-! TannerBuntingModel.looseOnes()I -/
def fl_m_looseOnes_4 : Nat → Nat → Int32 → Int32 → tb_Hp → Option (Int32 × tb_Hp)
  | 0, _, _, _, _ => none
  | n + 1, v0, v1, v2, w => (tb_on 22 v0 w (fb_m_houses v0 w)).bind fun x1 => (if v2 < x1.1 then (tb_on 22 v0 x1.2 (fb_m_isStanding v0 v2 x1.2)).bind fun x2 => (if x2.1 = 0 then fl_m_looseOnes_4 n v0 (v1 ||| 0) (v2 + 1) x2.2 else (tb_on 22 v0 x2.2 (fb_m_spareOf v0 v2 x2.2)).bind fun x3 => (if x3.1 < 0 then fl_m_looseOnes_4 n v0 (v1 ||| (1 <<< (v2 &&& 31))) (v2 + 1) x3.2 else fl_m_looseOnes_4 n v0 (v1 ||| 0) (v2 + 1) x3.2)) else some ((v1, x1.2)))
set_option maxHeartbeats 4000000 in
set_option maxRecDepth 20000 in
theorem dl_m_looseOnes_4 : ∀ (n : Nat) (v0 : Nat) (v1 : Int32) (v2 : Int32) (w : tb_Hp) (o : Int32 × tb_Hp), fl_m_looseOnes_4 n v0 v1 v2 w = some o → ∀ (r : Option Value × tb_Hp), tb_Ev tb_P 4 244 (28, [(1, .int o.1)], [], o.2) r → tb_Ev tb_P 4 244 (5, [(0, .ref v0), (1, .int v1), (2, .int v2)], [], w) r := by
  intro n
  induction n with
  | zero =>
    intro v0 v1 v2 w o h
    cases h
  | succ n ih =>
    intro v0 v1 v2 w o h r hx
    unfold fl_m_looseOnes_4 at h
    refine tb_Es (k := 2) (st' := (7, [(0, .ref v0), (1, .int v1), (2, .int v2)], [.ref v0, .int v2], w)) rfl ?_
    replace h := Option.bind_eq_some_iff.mp h
    obtain ⟨x1, ex1, h⟩ := h
    obtain ⟨hkx1, hcall⟩ := tb_on_some ex1
    refine tb_e_cv (v := some (.int x1.1)) rfl (Or.inl ⟨_, rfl⟩) rfl rfl (Nat.le_of_ble_eq_true rfl) rfl (Nat.le_of_ble_eq_true rfl) hkx1 ((dc_m_houses hcall).up (by decide)) ?_
    refine tb_b_cge rfl (fun hc => ?_) (fun hc => ?_)
    · rw [if_pos hc] at h
      refine tb_Es (k := 3) (st' := (12, [(0, .ref v0), (1, .int v1), (2, .int v2)], [.int v2, .ref v0, .int v1], x1.2)) rfl ?_
      replace h := Option.bind_eq_some_iff.mp h
      obtain ⟨x2, ex2, h⟩ := h
      obtain ⟨hkx2, hcall⟩ := tb_on_some ex2
      refine tb_e_cv (v := some (.int x2.1)) rfl (Or.inl ⟨_, rfl⟩) rfl rfl (Nat.le_of_ble_eq_true rfl) rfl (Nat.le_of_ble_eq_true rfl) hkx2 ((dc_m_isStanding hcall).up (by decide)) ?_
      refine tb_b_ieq rfl (fun hc => ?_) (fun hc => ?_)
      · rw [if_pos hc] at h
        refine tb_Es (k := 6) (st' := (5, [(0, .ref v0), (1, .int (v1 ||| 0)), (2, .int (v2 + 1))], [], x2.2)) rfl ?_
        exact ih v0 (v1 ||| 0) (v2 + 1) x2.2 _ h r hx
      · rw [if_neg hc] at h
        refine tb_Es (k := 2) (st' := (16, [(0, .ref v0), (1, .int v1), (2, .int v2)], [.int v2, .ref v0, .int v1], x2.2)) rfl ?_
        replace h := Option.bind_eq_some_iff.mp h
        obtain ⟨x3, ex3, h⟩ := h
        obtain ⟨hkx3, hcall⟩ := tb_on_some ex3
        refine tb_e_cv (v := some (.int x3.1)) rfl (Or.inl ⟨_, rfl⟩) rfl rfl (Nat.le_of_ble_eq_true rfl) rfl (Nat.le_of_ble_eq_true rfl) hkx3 ((dc_m_spareOf hcall).up (by decide)) ?_
        refine tb_b_ige rfl (fun hc => ?_) (fun hc => ?_)
        · rw [if_pos hc] at h
          refine tb_Es (k := 9) (st' := (5, [(0, .ref v0), (1, .int (v1 ||| (1 <<< (v2 &&& 31)))), (2, .int (v2 + 1))], [], x3.2)) rfl ?_
          exact ih v0 (v1 ||| (1 <<< (v2 &&& 31))) (v2 + 1) x3.2 _ h r hx
        · rw [if_neg hc] at h
          refine tb_Es (k := 6) (st' := (5, [(0, .ref v0), (1, .int (v1 ||| 0)), (2, .int (v2 + 1))], [], x3.2)) rfl ?_
          exact ih v0 (v1 ||| 0) (v2 + 1) x3.2 _ h r hx
    · rw [if_neg hc] at h
      refine tb_Es (k := 1) (st' := (28, [(1, .int v1)], [], x1.2)) rfl ?_
      obtain rfl := Option.some.inj h
      exact hx
def fb_m_looseOnes (a0 : Nat) (w : tb_Hp) : Option (Int32 × tb_Hp) := (fl_m_looseOnes_4 1048576 a0 0 0 w).bind fun o4 => some (o4.1, o4.2)
set_option maxHeartbeats 4000000 in
set_option maxRecDepth 20000 in
theorem dc_m_looseOnes {a0 : Nat} {w : tb_Hp} {o : Int32 × tb_Hp} (h : fb_m_looseOnes a0 w = some o) : tb_Ev tb_P 4 244 (0, tb_ent [.ref a0], [], w) (some (.int o.1), o.2) := by
  unfold fb_m_looseOnes at h
  obtain ⟨r, hr⟩ : ∃ r : Option Value × tb_Hp, r = (some (.int o.1), o.2) := ⟨_, rfl⟩
  rw [← hr]
  show tb_Ev tb_P 4 244 (0, [(0, .ref a0)], [], w) r
  refine tb_Es (k := 5) (st' := (5, [(0, .ref a0), (1, .int 0), (2, .int 0)], [], w)) rfl ?_
  replace h := Option.bind_eq_some_iff.mp h
  obtain ⟨o4, eo4, h⟩ := h
  refine dl_m_looseOnes_4 _ a0 0 0 w _ eo4 r ?_
  refine tb_Es (k := 1) (st' := (29, [(1, .int o4.1)], [.int o4.1], o4.2)) rfl ?_
  obtain rfl := Option.some.inj h
  subst hr
  exact tb_Er rfl rfl
/-! TannerBuntingModel.hang(III)I -/
def fb_m_hang (a0 : Nat) (a1 : Int32) (a2 : Int32) (a3 : Int32) (w : tb_Hp) : Option (Int32 × tb_Hp) := (tb_on 22 a0 w (fb_m_canHang a0 a1 a2 w)).bind fun x1 => (if x1.1 = 0 then some (-1, x1.2) else (fb_m_in (Int32.toInt64 a3) 1 40 x1.2).bind fun x2 => (if x2.1 = 0 then some (-1, x2.2) else (tb_on 22 a0 x2.2 (fb_m_keepsAct a0 x2.2)).bind fun x3 => (tb_on 22 a0 x3 (fb_m_hangs a0 a1 a2 a3 x3)).bind fun x4 => some (x4.1, x4.2)))
set_option maxHeartbeats 4000000 in
set_option maxRecDepth 20000 in
theorem dc_m_hang {a0 : Nat} {a1 : Int32} {a2 : Int32} {a3 : Int32} {w : tb_Hp} {o : Int32 × tb_Hp} (h : fb_m_hang a0 a1 a2 a3 w = some o) : tb_Ev tb_P 4 248 (0, tb_ent [.ref a0, .int a1, .int a2, .int a3], [], w) (some (.int o.1), o.2) := by
  unfold fb_m_hang at h
  obtain ⟨r, hr⟩ : ∃ r : Option Value × tb_Hp, r = (some (.int o.1), o.2) := ⟨_, rfl⟩
  rw [← hr]
  show tb_Ev tb_P 4 248 (0, [(0, .ref a0), (1, .int a1), (2, .int a2), (3, .int a3)], [], w) r
  refine tb_Es (k := 3) (st' := (3, [(0, .ref a0), (1, .int a1), (2, .int a2), (3, .int a3)], [.int a2, .int a1, .ref a0], w)) rfl ?_
  replace h := Option.bind_eq_some_iff.mp h
  obtain ⟨x1, ex1, h⟩ := h
  obtain ⟨hkx1, hcall⟩ := tb_on_some ex1
  refine tb_e_cv (v := some (.int x1.1)) rfl (Or.inl ⟨_, rfl⟩) rfl rfl (Nat.le_of_ble_eq_true rfl) rfl (Nat.le_of_ble_eq_true rfl) hkx1 ((dc_m_canHang hcall).up (by decide)) ?_
  refine tb_b_ieq rfl (fun hc => ?_) (fun hc => ?_)
  · rw [if_pos hc] at h
    refine tb_Es (k := 1) (st' := (12, [(0, .ref a0), (1, .int a1), (2, .int a2), (3, .int a3)], [.int (-1)], x1.2)) rfl ?_
    obtain rfl := Option.some.inj h
    subst hr
    exact tb_Er rfl rfl
  · rw [if_neg hc] at h
    refine tb_Es (k := 4) (st' := (9, [(0, .ref a0), (1, .int a1), (2, .int a2), (3, .int a3)], [.long 40, .long 1, .long (Int32.toInt64 a3)], x1.2)) rfl ?_
    replace h := Option.bind_eq_some_iff.mp h
    obtain ⟨x2, ex2, h⟩ := h
    have hcall := ex2
    refine tb_e_cs (v := some (.int x2.1)) rfl rfl rfl (Nat.le_of_ble_eq_true rfl) rfl (Nat.le_of_ble_eq_true rfl) ((dc_m_in hcall).up (by decide)) ?_
    refine tb_b_ine rfl (fun hc => ?_) (fun hc => ?_)
    · rw [if_pos hc] at h
      refine tb_Es (k := 1) (st' := (12, [(0, .ref a0), (1, .int a1), (2, .int a2), (3, .int a3)], [.int (-1)], x2.2)) rfl ?_
      obtain rfl := Option.some.inj h
      subst hr
      exact tb_Er rfl rfl
    · rw [if_neg hc] at h
      refine tb_Es (k := 1) (st' := (14, [(0, .ref a0), (1, .int a1), (2, .int a2), (3, .int a3)], [.ref a0], x2.2)) rfl ?_
      replace h := Option.bind_eq_some_iff.mp h
      obtain ⟨x3, ex3, h⟩ := h
      obtain ⟨hkx3, hcall⟩ := tb_on_some ex3
      refine tb_e_cv (v := none) rfl (Or.inl ⟨_, rfl⟩) rfl rfl (Nat.le_of_ble_eq_true rfl) rfl (Nat.le_of_ble_eq_true rfl) hkx3 ((dc_m_keepsAct hcall).up (by decide)) ?_
      refine tb_Es (k := 4) (st' := (19, [(0, .ref a0), (1, .int a1), (2, .int a2), (3, .int a3)], [.int a3, .int a2, .int a1, .ref a0], x3)) rfl ?_
      replace h := Option.bind_eq_some_iff.mp h
      obtain ⟨x4, ex4, h⟩ := h
      obtain ⟨hkx4, hcall⟩ := tb_on_some ex4
      refine tb_e_cv (v := some (.int x4.1)) rfl (Or.inl ⟨_, rfl⟩) rfl rfl (Nat.le_of_ble_eq_true rfl) rfl (Nat.le_of_ble_eq_true rfl) hkx4 ((dc_m_hangs hcall).up (by decide)) ?_
      obtain rfl := Option.some.inj h
      subst hr
      exact tb_Er rfl rfl
/-! TannerBuntingModel.spare(I)I -/
def fb_m_spare (a0 : Nat) (a1 : Int32) (w : tb_Hp) : Option (Int32 × tb_Hp) := (tb_on 22 a0 w (fb_m_isStanding a0 a1 w)).bind fun x1 => (if x1.1 = 0 then some (-1000, x1.2) else (tb_on 22 a0 x1.2 (fb_m_spareOf a0 a1 x1.2)).bind fun x2 => some (x2.1, x2.2))
set_option maxHeartbeats 4000000 in
set_option maxRecDepth 20000 in
theorem dc_m_spare {a0 : Nat} {a1 : Int32} {w : tb_Hp} {o : Int32 × tb_Hp} (h : fb_m_spare a0 a1 w = some o) : tb_Ev tb_P 4 260 (0, tb_ent [.ref a0, .int a1], [], w) (some (.int o.1), o.2) := by
  unfold fb_m_spare at h
  obtain ⟨r, hr⟩ : ∃ r : Option Value × tb_Hp, r = (some (.int o.1), o.2) := ⟨_, rfl⟩
  rw [← hr]
  show tb_Ev tb_P 4 260 (0, [(0, .ref a0), (1, .int a1)], [], w) r
  refine tb_Es (k := 2) (st' := (2, [(0, .ref a0), (1, .int a1)], [.int a1, .ref a0], w)) rfl ?_
  replace h := Option.bind_eq_some_iff.mp h
  obtain ⟨x1, ex1, h⟩ := h
  obtain ⟨hkx1, hcall⟩ := tb_on_some ex1
  refine tb_e_cv (v := some (.int x1.1)) rfl (Or.inl ⟨_, rfl⟩) rfl rfl (Nat.le_of_ble_eq_true rfl) rfl (Nat.le_of_ble_eq_true rfl) hkx1 ((dc_m_isStanding hcall).up (by decide)) ?_
  refine tb_b_ieq rfl (fun hc => ?_) (fun hc => ?_)
  · rw [if_pos hc] at h
    refine tb_Es (k := 1) (st' := (9, [(0, .ref a0), (1, .int a1)], [.int (-1000)], x1.2)) rfl ?_
    obtain rfl := Option.some.inj h
    subst hr
    exact tb_Er rfl rfl
  · rw [if_neg hc] at h
    refine tb_Es (k := 2) (st' := (6, [(0, .ref a0), (1, .int a1)], [.int a1, .ref a0], x1.2)) rfl ?_
    replace h := Option.bind_eq_some_iff.mp h
    obtain ⟨x2, ex2, h⟩ := h
    obtain ⟨hkx2, hcall⟩ := tb_on_some ex2
    refine tb_e_cv (v := some (.int x2.1)) rfl (Or.inl ⟨_, rfl⟩) rfl rfl (Nat.le_of_ble_eq_true rfl) rfl (Nat.le_of_ble_eq_true rfl) hkx2 ((dc_m_spareOf hcall).up (by decide)) ?_
    refine tb_Es (k := 1) (st' := (9, [(0, .ref a0), (1, .int a1)], [.int x2.1], x2.2)) rfl ?_
    obtain rfl := Option.some.inj h
    subst hr
    exact tb_Er rfl rfl
/-! TannerBuntingModel.blocks(I)I -/
def fl_m_blocks_22 : Nat → Nat → Int32 → Int32 → tb_Hp → Option (Int32 × tb_Hp)
  | 0, _, _, _, _ => none
  | n + 1, v0, v2, v3, w => (tb_on 22 v0 w (fb_m_houses v0 w)).bind fun x2 => (if v3 < x2.1 then (tb_on 22 v0 x2.2 (fb_m_isStanding v0 v3 x2.2)).bind fun x3 => (if x3.1 = 0 then fl_m_blocks_22 n v0 (v2 + 0) (v3 + 1) x3.2 else (tb_on 22 v0 x3.2 (fb_m_blockOf v0 v3 x3.2)).bind fun x4 => (fb_m_leastOf x4.1 x4.2).bind fun x5 => (if x5.1 = v3 then fl_m_blocks_22 n v0 (v2 + 1) (v3 + 1) x5.2 else fl_m_blocks_22 n v0 (v2 + 0) (v3 + 1) x5.2)) else some ((v2, x2.2)))
set_option maxHeartbeats 4000000 in
set_option maxRecDepth 20000 in
theorem dl_m_blocks_22 : ∀ (n : Nat) (v0 : Nat) (v2 : Int32) (v3 : Int32) (w : tb_Hp) (o : Int32 × tb_Hp), fl_m_blocks_22 n v0 v2 v3 w = some o → ∀ (r : Option Value × tb_Hp), tb_Ev tb_P 4 270 (46, [(2, .int o.1)], [], o.2) r → tb_Ev tb_P 4 270 (23, [(0, .ref v0), (2, .int v2), (3, .int v3)], [], w) r := by
  intro n
  induction n with
  | zero =>
    intro v0 v2 v3 w o h
    cases h
  | succ n ih =>
    intro v0 v2 v3 w o h r hx
    unfold fl_m_blocks_22 at h
    refine tb_Es (k := 2) (st' := (25, [(0, .ref v0), (2, .int v2), (3, .int v3)], [.ref v0, .int v3], w)) rfl ?_
    replace h := Option.bind_eq_some_iff.mp h
    obtain ⟨x2, ex2, h⟩ := h
    obtain ⟨hkx2, hcall⟩ := tb_on_some ex2
    refine tb_e_cv (v := some (.int x2.1)) rfl (Or.inl ⟨_, rfl⟩) rfl rfl (Nat.le_of_ble_eq_true rfl) rfl (Nat.le_of_ble_eq_true rfl) hkx2 ((dc_m_houses hcall).up (by decide)) ?_
    refine tb_b_cge rfl (fun hc => ?_) (fun hc => ?_)
    · rw [if_pos hc] at h
      refine tb_Es (k := 3) (st' := (30, [(0, .ref v0), (2, .int v2), (3, .int v3)], [.int v3, .ref v0, .int v2], x2.2)) rfl ?_
      replace h := Option.bind_eq_some_iff.mp h
      obtain ⟨x3, ex3, h⟩ := h
      obtain ⟨hkx3, hcall⟩ := tb_on_some ex3
      refine tb_e_cv (v := some (.int x3.1)) rfl (Or.inl ⟨_, rfl⟩) rfl rfl (Nat.le_of_ble_eq_true rfl) rfl (Nat.le_of_ble_eq_true rfl) hkx3 ((dc_m_isStanding hcall).up (by decide)) ?_
      refine tb_b_ieq rfl (fun hc => ?_) (fun hc => ?_)
      · rw [if_pos hc] at h
        refine tb_Es (k := 6) (st' := (23, [(0, .ref v0), (2, .int (v2 + 0)), (3, .int (v3 + 1))], [], x3.2)) rfl ?_
        exact ih v0 (v2 + 0) (v3 + 1) x3.2 _ h r hx
      · rw [if_neg hc] at h
        refine tb_Es (k := 2) (st' := (34, [(0, .ref v0), (2, .int v2), (3, .int v3)], [.int v3, .ref v0, .int v2], x3.2)) rfl ?_
        replace h := Option.bind_eq_some_iff.mp h
        obtain ⟨x4, ex4, h⟩ := h
        obtain ⟨hkx4, hcall⟩ := tb_on_some ex4
        refine tb_e_cv (v := some (.int x4.1)) rfl (Or.inl ⟨_, rfl⟩) rfl rfl (Nat.le_of_ble_eq_true rfl) rfl (Nat.le_of_ble_eq_true rfl) hkx4 ((dc_m_blockOf hcall).up (by decide)) ?_
        replace h := Option.bind_eq_some_iff.mp h
        obtain ⟨x5, ex5, h⟩ := h
        have hcall := ex5
        refine tb_e_cs (v := some (.int x5.1)) rfl rfl rfl (Nat.le_of_ble_eq_true rfl) rfl (Nat.le_of_ble_eq_true rfl) ((dc_m_leastOf hcall).up (by decide)) ?_
        refine tb_Es (k := 1) (st' := (37, [(0, .ref v0), (2, .int v2), (3, .int v3)], [.int v3, .int x5.1, .int v2], x5.2)) rfl ?_
        refine tb_b_cne rfl (fun hc => ?_) (fun hc => ?_)
        · rw [if_pos hc] at h
          refine tb_Es (k := 7) (st' := (23, [(0, .ref v0), (2, .int (v2 + 1)), (3, .int (v3 + 1))], [], x5.2)) rfl ?_
          exact ih v0 (v2 + 1) (v3 + 1) x5.2 _ h r hx
        · rw [if_neg hc] at h
          refine tb_Es (k := 6) (st' := (23, [(0, .ref v0), (2, .int (v2 + 0)), (3, .int (v3 + 1))], [], x5.2)) rfl ?_
          exact ih v0 (v2 + 0) (v3 + 1) x5.2 _ h r hx
    · rw [if_neg hc] at h
      refine tb_Es (k := 1) (st' := (46, [(2, .int v2)], [], x2.2)) rfl ?_
      obtain rfl := Option.some.inj h
      exact hx
def fb_m_blocks (a0 : Nat) (a1 : Int32) (w : tb_Hp) : Option (Int32 × tb_Hp) := (tb_on 22 a0 w (fb_m_isStreet a0 w)).bind fun x1 => (if x1.1 = 0 then some (-2, x1.2) else (if a1 = (-1) then (fl_m_blocks_22 1048576 a0 0 0 x1.2).bind fun o6 => some (o6.1, o6.2) else (tb_on 22 a0 x1.2 (fb_m_isStanding a0 a1 x1.2)).bind fun x7 => (if x7.1 = 0 then some (-2, x7.2) else (tb_on 22 a0 x7.2 (fb_m_blockOf a0 a1 x7.2)).bind fun x8 => some (x8.1, x8.2))))
set_option maxHeartbeats 4000000 in
set_option maxRecDepth 20000 in
theorem dc_m_blocks {a0 : Nat} {a1 : Int32} {w : tb_Hp} {o : Int32 × tb_Hp} (h : fb_m_blocks a0 a1 w = some o) : tb_Ev tb_P 4 270 (0, tb_ent [.ref a0, .int a1], [], w) (some (.int o.1), o.2) := by
  unfold fb_m_blocks at h
  obtain ⟨r, hr⟩ : ∃ r : Option Value × tb_Hp, r = (some (.int o.1), o.2) := ⟨_, rfl⟩
  rw [← hr]
  show tb_Ev tb_P 4 270 (0, [(0, .ref a0), (1, .int a1)], [], w) r
  refine tb_Es (k := 1) (st' := (1, [(0, .ref a0), (1, .int a1)], [.ref a0], w)) rfl ?_
  replace h := Option.bind_eq_some_iff.mp h
  obtain ⟨x1, ex1, h⟩ := h
  obtain ⟨hkx1, hcall⟩ := tb_on_some ex1
  refine tb_e_cv (v := some (.int x1.1)) rfl (Or.inl ⟨_, rfl⟩) rfl rfl (Nat.le_of_ble_eq_true rfl) rfl (Nat.le_of_ble_eq_true rfl) hkx1 ((dc_m_isStreet hcall).up (by decide)) ?_
  refine tb_b_ine rfl (fun hc => ?_) (fun hc => ?_)
  · rw [if_pos hc] at h
    refine tb_Es (k := 1) (st' := (4, [(0, .ref a0), (1, .int a1)], [.int (-2)], x1.2)) rfl ?_
    obtain rfl := Option.some.inj h
    subst hr
    exact tb_Er rfl rfl
  · rw [if_neg hc] at h
    refine tb_Es (k := 2) (st' := (7, [(0, .ref a0), (1, .int a1)], [.int (-1), .int a1], x1.2)) rfl ?_
    refine tb_b_ceq rfl (fun hc => ?_) (fun hc => ?_)
    · rw [if_pos hc] at h
      refine tb_Es (k := 5) (st' := (23, [(0, .ref a0), (2, .int 0), (3, .int 0)], [], x1.2)) rfl ?_
      replace h := Option.bind_eq_some_iff.mp h
      obtain ⟨o6, eo6, h⟩ := h
      refine dl_m_blocks_22 _ a0 0 0 x1.2 _ eo6 r ?_
      refine tb_Es (k := 1) (st' := (47, [(2, .int o6.1)], [.int o6.1], o6.2)) rfl ?_
      obtain rfl := Option.some.inj h
      subst hr
      exact tb_Er rfl rfl
    · rw [if_neg hc] at h
      refine tb_Es (k := 2) (st' := (10, [(0, .ref a0), (1, .int a1)], [.int a1, .ref a0], x1.2)) rfl ?_
      replace h := Option.bind_eq_some_iff.mp h
      obtain ⟨x7, ex7, h⟩ := h
      obtain ⟨hkx7, hcall⟩ := tb_on_some ex7
      refine tb_e_cv (v := some (.int x7.1)) rfl (Or.inl ⟨_, rfl⟩) rfl rfl (Nat.le_of_ble_eq_true rfl) rfl (Nat.le_of_ble_eq_true rfl) hkx7 ((dc_m_isStanding hcall).up (by decide)) ?_
      refine tb_b_ieq rfl (fun hc => ?_) (fun hc => ?_)
      · rw [if_pos hc] at h
        refine tb_Es (k := 1) (st' := (17, [(0, .ref a0), (1, .int a1)], [.int (-2)], x7.2)) rfl ?_
        obtain rfl := Option.some.inj h
        subst hr
        exact tb_Er rfl rfl
      · rw [if_neg hc] at h
        refine tb_Es (k := 2) (st' := (14, [(0, .ref a0), (1, .int a1)], [.int a1, .ref a0], x7.2)) rfl ?_
        replace h := Option.bind_eq_some_iff.mp h
        obtain ⟨x8, ex8, h⟩ := h
        obtain ⟨hkx8, hcall⟩ := tb_on_some ex8
        refine tb_e_cv (v := some (.int x8.1)) rfl (Or.inl ⟨_, rfl⟩) rfl rfl (Nat.le_of_ble_eq_true rfl) rfl (Nat.le_of_ble_eq_true rfl) hkx8 ((dc_m_blockOf hcall).up (by decide)) ?_
        refine tb_Es (k := 1) (st' := (17, [(0, .ref a0), (1, .int a1)], [.int x8.1], x8.2)) rfl ?_
        obtain rfl := Option.some.inj h
        subst hr
        exact tb_Er rfl rfl
/-! TannerBuntingModel.findsPairs()I -/
def fl_m_findsPairs_4 : Nat → Nat → Int32 → Int32 → tb_Hp → Option (Nat × Int32 × tb_Hp)
  | 0, _, _, _, _ => none
  | n + 1, v0, v1, v2, w => (if v2 < 5 then (tb_gN 22 26 v0 w).bind fun p1 => (tb_tI p1 v2 (-1) w).bind fun w2 => (tb_gN 22 27 v0 w2).bind fun p3 => (tb_tI p3 v2 (-1) w2).bind fun w4 => fl_m_findsPairs_4 n v0 v1 (v2 + 1) w4 else some ((v0, v1, w)))
set_option maxHeartbeats 4000000 in
set_option maxRecDepth 20000 in
theorem dl_m_findsPairs_4 : ∀ (n : Nat) (v0 : Nat) (v1 : Int32) (v2 : Int32) (w : tb_Hp) (o : Nat × Int32 × tb_Hp), fl_m_findsPairs_4 n v0 v1 v2 w = some o → ∀ (r : Option Value × tb_Hp), tb_Ev tb_P 4 274 (21, [(0, .ref o.1), (1, .int o.2.1)], [], o.2.2) r → tb_Ev tb_P 4 274 (5, [(0, .ref v0), (1, .int v1), (2, .int v2)], [], w) r := by
  intro n
  induction n with
  | zero =>
    intro v0 v1 v2 w o h
    cases h
  | succ n ih =>
    intro v0 v1 v2 w o h r hx
    unfold fl_m_findsPairs_4 at h
    refine tb_Es (k := 2) (st' := (7, [(0, .ref v0), (1, .int v1), (2, .int v2)], [.int 5, .int v2], w)) rfl ?_
    refine tb_b_cge rfl (fun hc => ?_) (fun hc => ?_)
    · rw [if_pos hc] at h
      refine tb_Es (k := 1) (st' := (9, [(0, .ref v0), (1, .int v1), (2, .int v2)], [.ref v0], w)) rfl ?_
      replace h := Option.bind_eq_some_iff.mp h
      obtain ⟨p1, ep1, h⟩ := h
      refine tb_e_gN rfl ep1 ?_
      refine tb_Es (k := 2) (st' := (12, [(0, .ref v0), (1, .int v1), (2, .int v2)], [.int (-1), .int v2, .ref p1], w)) rfl ?_
      replace h := Option.bind_eq_some_iff.mp h
      obtain ⟨w2, ew2, h⟩ := h
      refine tb_e_tI rfl ew2 ?_
      refine tb_Es (k := 1) (st' := (14, [(0, .ref v0), (1, .int v1), (2, .int v2)], [.ref v0], w2)) rfl ?_
      replace h := Option.bind_eq_some_iff.mp h
      obtain ⟨p3, ep3, h⟩ := h
      refine tb_e_gN rfl ep3 ?_
      refine tb_Es (k := 2) (st' := (17, [(0, .ref v0), (1, .int v1), (2, .int v2)], [.int (-1), .int v2, .ref p3], w2)) rfl ?_
      replace h := Option.bind_eq_some_iff.mp h
      obtain ⟨w4, ew4, h⟩ := h
      refine tb_e_tI rfl ew4 ?_
      refine tb_Es (k := 3) (st' := (5, [(0, .ref v0), (1, .int v1), (2, .int (v2 + 1))], [], w4)) rfl ?_
      exact ih v0 v1 (v2 + 1) w4 _ h r hx
    · rw [if_neg hc] at h
      refine tb_Es (k := 1) (st' := (21, [(0, .ref v0), (1, .int v1)], [], w)) rfl ?_
      obtain rfl := Option.some.inj h
      exact hx
def fl_m_findsPairs_33 : Nat → Nat → Int32 → Int32 → tb_Hp → Option (Nat × Int32 × tb_Hp)
  | 0, _, _, _, _ => none
  | n + 1, v0, v1, v3, w => (if v3 < 5 then (tb_gN 22 27 v0 w).bind fun p8 => (tb_gN 22 26 v0 w).bind fun p9 => (tb_lI [1, 9] p9 v3 w).bind fun x10 => (tb_tI p8 v3 x10 w).bind fun w11 => fl_m_findsPairs_33 n v0 v1 (v3 + 1) w11 else some ((v0, v1, w)))
set_option maxHeartbeats 4000000 in
set_option maxRecDepth 20000 in
theorem dl_m_findsPairs_33 : ∀ (n : Nat) (v0 : Nat) (v1 : Int32) (v3 : Int32) (w : tb_Hp) (o : Nat × Int32 × tb_Hp), fl_m_findsPairs_33 n v0 v1 v3 w = some o → ∀ (r : Option Value × tb_Hp), tb_Ev tb_P 4 274 (50, [(0, .ref o.1), (1, .int o.2.1)], [], o.2.2) r → tb_Ev tb_P 4 274 (36, [(0, .ref v0), (1, .int v1), (3, .int v3)], [], w) r := by
  intro n
  induction n with
  | zero =>
    intro v0 v1 v3 w o h
    cases h
  | succ n ih =>
    intro v0 v1 v3 w o h r hx
    unfold fl_m_findsPairs_33 at h
    refine tb_Es (k := 2) (st' := (38, [(0, .ref v0), (1, .int v1), (3, .int v3)], [.int 5, .int v3], w)) rfl ?_
    refine tb_b_cge rfl (fun hc => ?_) (fun hc => ?_)
    · rw [if_pos hc] at h
      refine tb_Es (k := 1) (st' := (40, [(0, .ref v0), (1, .int v1), (3, .int v3)], [.ref v0], w)) rfl ?_
      replace h := Option.bind_eq_some_iff.mp h
      obtain ⟨p8, ep8, h⟩ := h
      refine tb_e_gN rfl ep8 ?_
      refine tb_Es (k := 2) (st' := (43, [(0, .ref v0), (1, .int v1), (3, .int v3)], [.ref v0, .int v3, .ref p8], w)) rfl ?_
      replace h := Option.bind_eq_some_iff.mp h
      obtain ⟨p9, ep9, h⟩ := h
      refine tb_e_gN rfl ep9 ?_
      refine tb_Es (k := 1) (st' := (45, [(0, .ref v0), (1, .int v1), (3, .int v3)], [.int v3, .ref p9, .int v3, .ref p8], w)) rfl ?_
      replace h := Option.bind_eq_some_iff.mp h
      obtain ⟨x10, ex10, h⟩ := h
      refine tb_e_lI rfl (Or.inl ⟨rfl, rfl⟩) ex10 ?_
      replace h := Option.bind_eq_some_iff.mp h
      obtain ⟨w11, ew11, h⟩ := h
      refine tb_e_tI rfl ew11 ?_
      refine tb_Es (k := 3) (st' := (36, [(0, .ref v0), (1, .int v1), (3, .int (v3 + 1))], [], w11)) rfl ?_
      exact ih v0 v1 (v3 + 1) w11 _ h r hx
    · rw [if_neg hc] at h
      refine tb_Es (k := 1) (st' := (50, [(0, .ref v0), (1, .int v1)], [], w)) rfl ?_
      obtain rfl := Option.some.inj h
      exact hx
def fl_m_findsPairs_19 : Nat → Nat → Int32 → tb_Hp → Option (Int32 × tb_Hp)
  | 0, _, _, _ => none
  | n + 1, v0, v1, w => (tb_on 22 v0 w (fb_m_nextPairs v0 w)).bind fun x6 => (if x6.1 = 0 then some ((v1, x6.2)) else (tb_on 22 v0 x6.2 (fb_m_pairsNow v0 x6.2)).bind fun x7 => (if x7.1 ≤ v1 then fl_m_findsPairs_19 n v0 v1 x7.2 else (fl_m_findsPairs_33 1048576 v0 x7.1 0 x7.2).bind fun o12 => fl_m_findsPairs_19 n o12.1 o12.2.1 o12.2.2))
set_option maxHeartbeats 4000000 in
set_option maxRecDepth 20000 in
theorem dl_m_findsPairs_19 : ∀ (n : Nat) (v0 : Nat) (v1 : Int32) (w : tb_Hp) (o : Int32 × tb_Hp), fl_m_findsPairs_19 n v0 v1 w = some o → ∀ (r : Option Value × tb_Hp), tb_Ev tb_P 4 274 (52, [(1, .int o.1)], [], o.2) r → tb_Ev tb_P 4 274 (21, [(0, .ref v0), (1, .int v1)], [], w) r := by
  intro n
  induction n with
  | zero =>
    intro v0 v1 w o h
    cases h
  | succ n ih =>
    intro v0 v1 w o h r hx
    unfold fl_m_findsPairs_19 at h
    refine tb_Es (k := 1) (st' := (22, [(0, .ref v0), (1, .int v1)], [.ref v0], w)) rfl ?_
    replace h := Option.bind_eq_some_iff.mp h
    obtain ⟨x6, ex6, h⟩ := h
    obtain ⟨hkx6, hcall⟩ := tb_on_some ex6
    refine tb_e_cv (v := some (.int x6.1)) rfl (Or.inl ⟨_, rfl⟩) rfl rfl (Nat.le_of_ble_eq_true rfl) rfl (Nat.le_of_ble_eq_true rfl) hkx6 ((dc_m_nextPairs hcall).up (by decide)) ?_
    refine tb_b_ieq rfl (fun hc => ?_) (fun hc => ?_)
    · rw [if_pos hc] at h
      refine tb_Es (k := 1) (st' := (52, [(1, .int v1)], [], x6.2)) rfl ?_
      obtain rfl := Option.some.inj h
      exact hx
    · rw [if_neg hc] at h
      refine tb_Es (k := 1) (st' := (25, [(0, .ref v0), (1, .int v1)], [.ref v0], x6.2)) rfl ?_
      replace h := Option.bind_eq_some_iff.mp h
      obtain ⟨x7, ex7, h⟩ := h
      obtain ⟨hkx7, hcall⟩ := tb_on_some ex7
      refine tb_e_cv (v := some (.int x7.1)) rfl (Or.inl ⟨_, rfl⟩) rfl rfl (Nat.le_of_ble_eq_true rfl) rfl (Nat.le_of_ble_eq_true rfl) hkx7 ((dc_m_pairsNow hcall).up (by decide)) ?_
      refine tb_Es (k := 3) (st' := (29, [(2, .int x7.1), (0, .ref v0), (1, .int v1)], [.int v1, .int x7.1], x7.2)) rfl ?_
      refine tb_b_cgt rfl (fun hc => ?_) (fun hc => ?_)
      · rw [if_pos hc] at h
        refine tb_Es (k := 2) (st' := (21, [(0, .ref v0), (1, .int v1)], [], x7.2)) rfl ?_
        exact ih v0 v1 x7.2 _ h r hx
      · rw [if_neg hc] at h
        refine tb_Es (k := 5) (st' := (36, [(0, .ref v0), (1, .int x7.1), (3, .int 0)], [], x7.2)) rfl ?_
        replace h := Option.bind_eq_some_iff.mp h
        obtain ⟨o12, eo12, h⟩ := h
        refine dl_m_findsPairs_33 _ v0 x7.1 0 x7.2 _ eo12 r ?_
        refine tb_Es (k := 2) (st' := (21, [(0, .ref o12.1), (1, .int o12.2.1)], [], o12.2.2)) rfl ?_
        exact ih o12.1 o12.2.1 o12.2.2 _ h r hx
def fb_m_findsPairs (a0 : Nat) (w : tb_Hp) : Option (Int32 × tb_Hp) := (fl_m_findsPairs_4 1048576 a0 0 0 w).bind fun o5 => (fl_m_findsPairs_19 1048576 o5.1 o5.2.1 o5.2.2).bind fun o13 => some (o13.1, o13.2)
set_option maxHeartbeats 4000000 in
set_option maxRecDepth 20000 in
theorem dc_m_findsPairs {a0 : Nat} {w : tb_Hp} {o : Int32 × tb_Hp} (h : fb_m_findsPairs a0 w = some o) : tb_Ev tb_P 4 274 (0, tb_ent [.ref a0], [], w) (some (.int o.1), o.2) := by
  unfold fb_m_findsPairs at h
  obtain ⟨r, hr⟩ : ∃ r : Option Value × tb_Hp, r = (some (.int o.1), o.2) := ⟨_, rfl⟩
  rw [← hr]
  show tb_Ev tb_P 4 274 (0, [(0, .ref a0)], [], w) r
  refine tb_Es (k := 5) (st' := (5, [(0, .ref a0), (1, .int 0), (2, .int 0)], [], w)) rfl ?_
  replace h := Option.bind_eq_some_iff.mp h
  obtain ⟨o5, eo5, h⟩ := h
  refine dl_m_findsPairs_4 _ a0 0 0 w _ eo5 r ?_
  replace h := Option.bind_eq_some_iff.mp h
  obtain ⟨o13, eo13, h⟩ := h
  refine dl_m_findsPairs_19 _ o5.1 o5.2.1 o5.2.2 _ eo13 r ?_
  refine tb_Es (k := 1) (st' := (53, [(1, .int o13.1)], [.int o13.1], o13.2)) rfl ?_
  obtain rfl := Option.some.inj h
  subst hr
  exact tb_Er rfl rfl
