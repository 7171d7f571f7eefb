/-! TannerBuntingModel.seed(I)I -/
def fb_m_seed (a0 : Nat) (a1 : Int32) (w : tb_Hp) : Option (Int32 × tb_Hp) := (if a1 < 0 then some (-1, w) else (tb_gI 22 22 a0 w).bind fun x1 => (tb_pI 22 22 a0 a1 w).bind fun w2 => some (x1, w2))
set_option maxHeartbeats 4000000 in
set_option maxRecDepth 20000 in
theorem dc_m_seed {a0 : Nat} {a1 : Int32} {w : tb_Hp} {o : Int32 × tb_Hp} (h : fb_m_seed a0 a1 w = some o) : tb_Ev tb_P 0 293 (0, tb_ent [.ref a0, .int a1], [], w) (some (.int o.1), o.2) := by
  unfold fb_m_seed at h
  obtain ⟨r, hr⟩ : ∃ r : Option Value × tb_Hp, r = (some (.int o.1), o.2) := ⟨_, rfl⟩
  rw [← hr]
  show tb_Ev tb_P 0 293 (0, [(0, .ref a0), (1, .int a1)], [], w) r
  refine tb_Es (k := 1) (st' := (1, [(0, .ref a0), (1, .int a1)], [.int a1], w)) rfl ?_
  refine tb_b_ige rfl (fun hc => ?_) (fun hc => ?_)
  · rw [if_pos hc] at h
    refine tb_Es (k := 1) (st' := (3, [(0, .ref a0), (1, .int a1)], [.int (-1)], w)) rfl ?_
    obtain rfl := Option.some.inj h
    subst hr
    exact tb_Er rfl rfl
  · rw [if_neg hc] at h
    refine tb_Es (k := 1) (st' := (5, [(0, .ref a0), (1, .int a1)], [.ref a0], w)) rfl ?_
    replace h := Option.bind_eq_some_iff.mp h
    obtain ⟨x1, ex1, h⟩ := h
    refine tb_e_gI rfl ex1 ?_
    refine tb_Es (k := 3) (st' := (9, [(2, .int x1), (0, .ref a0), (1, .int a1)], [.int a1, .ref a0], w)) rfl ?_
    replace h := Option.bind_eq_some_iff.mp h
    obtain ⟨w2, ew2, h⟩ := h
    refine tb_e_pI rfl ew2 ?_
    refine tb_Es (k := 1) (st' := (11, [(2, .int x1), (0, .ref a0), (1, .int a1)], [.int x1], w2)) rfl ?_
    obtain rfl := Option.some.inj h
    subst hr
    exact tb_Er rfl rfl
/-! TannerBuntingModel.draw(I)I -/
def fb_m_draw (a0 : Nat) (a1 : Int32) (w : tb_Hp) : Option (Int32 × tb_Hp) := (tb_gJ 22 31 a0 w).bind fun x1 => (tb_pJ 22 31 a0 (((x1 * 1103515245) + 12345) - ((x1 * 1103515245) + 12345) / 2147483648 * 2147483648) w).bind fun w2 => (tb_gJ 22 31 a0 w2).bind fun x3 => if (Int32.toInt64 a1) = 0 then none else some (Int64.toInt32 ((x3 / 65536) - (x3 / 65536) / (Int32.toInt64 a1) * (Int32.toInt64 a1)), w2)
set_option maxHeartbeats 4000000 in
set_option maxRecDepth 20000 in
theorem dc_m_draw {a0 : Nat} {a1 : Int32} {w : tb_Hp} {o : Int32 × tb_Hp} (h : fb_m_draw a0 a1 w = some o) : tb_Ev tb_P 0 295 (0, tb_ent [.ref a0, .int a1], [], w) (some (.int o.1), o.2) := by
  unfold fb_m_draw at h
  obtain ⟨r, hr⟩ : ∃ r : Option Value × tb_Hp, r = (some (.int o.1), o.2) := ⟨_, rfl⟩
  rw [← hr]
  show tb_Ev tb_P 0 295 (0, [(0, .ref a0), (1, .int a1)], [], w) r
  refine tb_Es (k := 2) (st' := (2, [(0, .ref a0), (1, .int a1)], [.ref a0, .ref a0], w)) rfl ?_
  replace h := Option.bind_eq_some_iff.mp h
  obtain ⟨x1, ex1, h⟩ := h
  refine tb_e_gJ rfl ex1 ?_
  refine tb_Es (k := 5) (st' := (8, [(0, .ref a0), (1, .int a1)], [.long 2147483648, .long ((x1 * 1103515245) + 12345), .ref a0], w)) rfl ?_
  refine tb_e_lrem rfl (by decide) ?_
  replace h := Option.bind_eq_some_iff.mp h
  obtain ⟨w2, ew2, h⟩ := h
  refine tb_e_pJ rfl ew2 ?_
  refine tb_Es (k := 1) (st' := (11, [(0, .ref a0), (1, .int a1)], [.ref a0], w2)) rfl ?_
  replace h := Option.bind_eq_some_iff.mp h
  obtain ⟨x3, ex3, h⟩ := h
  refine tb_e_gJ rfl ex3 ?_
  refine tb_Es (k := 1) (st' := (13, [(0, .ref a0), (1, .int a1)], [.long 65536, .long x3], w2)) rfl ?_
  refine tb_e_ldiv rfl (by decide) ?_
  refine tb_Es (k := 2) (st' := (16, [(0, .ref a0), (1, .int a1)], [.long (Int32.toInt64 a1), .long (x3 / 65536)], w2)) rfl ?_
  by_cases hz : (Int32.toInt64 a1) = 0
  · rw [if_pos hz] at h
    cases h
  rw [if_neg hz] at h
  refine tb_e_lrem rfl hz ?_
  refine tb_Es (k := 1) (st' := (18, [(0, .ref a0), (1, .int a1)], [.int (Int64.toInt32 ((x3 / 65536) - (x3 / 65536) / (Int32.toInt64 a1) * (Int32.toInt64 a1)))], w2)) rfl ?_
  obtain rfl := Option.some.inj h
  subst hr
  exact tb_Er rfl rfl
/-! TannerBunting$StreetReader.<init>(LTannerBunting$Text;)V -/
def fb_sr_init (a0 : Nat) (a1 : Nat) (w : tb_Hp) : Option (tb_Hp) := (tb_pR 18 1 a0 a1 w).bind fun w1 => (tb_on 17 w1.1.length (tb_new w1 17 12) (fb_s_init w1.1.length (tb_new w1 17 12))).bind fun x3 => (tb_pR 18 0 a0 w1.1.length x3).bind fun w4 => some w4
set_option maxHeartbeats 4000000 in
set_option maxRecDepth 20000 in
theorem dc_sr_init {a0 : Nat} {a1 : Nat} {w : tb_Hp} {o : tb_Hp} (h : fb_sr_init a0 a1 w = some o) : tb_Ev tb_P 1 2 (0, tb_ent [.ref a0, .ref a1], [], w) (none, o) := by
  unfold fb_sr_init at h
  obtain ⟨r, hr⟩ : ∃ r : Option Value × tb_Hp, r = (none, o) := ⟨_, rfl⟩
  rw [← hr]
  show tb_Ev tb_P 1 2 (0, [(0, .ref a0), (1, .ref a1)], [], w) r
  refine tb_Es (k := 1) (st' := (1, [(0, .ref a0), (1, .ref a1)], [.ref a0], w)) rfl ?_
  refine tb_e_ob rfl rfl ?_
  refine tb_Es (k := 2) (st' := (4, [(0, .ref a0), (1, .ref a1)], [.ref a1, .ref a0], w)) rfl ?_
  replace h := Option.bind_eq_some_iff.mp h
  obtain ⟨w1, ew1, h⟩ := h
  refine tb_e_pR rfl ew1 ?_
  refine tb_Es (k := 3) (st' := (8, [(0, .ref a0), (1, .ref a1)], [.ref w1.1.length, .ref w1.1.length, .ref a0], (tb_new w1 17 12))) rfl ?_
  replace h := Option.bind_eq_some_iff.mp h
  obtain ⟨x3, ex3, h⟩ := h
  obtain ⟨hkx3, hcall⟩ := tb_on_some ex3
  refine tb_e_cv (v := none) rfl (Or.inr ⟨_, rfl⟩) rfl rfl (Nat.le_of_ble_eq_true rfl) rfl (Nat.le_of_ble_eq_true rfl) hkx3 ((dc_s_init hcall).up (by decide)) ?_
  replace h := Option.bind_eq_some_iff.mp h
  obtain ⟨w4, ew4, h⟩ := h
  refine tb_e_pR rfl ew4 ?_
  obtain rfl := Option.some.inj h
  subst hr
  exact tb_Er rfl rfl
/-! TannerBunting$Scene.<init>()V -/
def fb_sc_init (a0 : Nat) (w : tb_Hp) : Option (tb_Hp) := (tb_on 17 w.1.length (tb_new w 17 12) (fb_s_init w.1.length (tb_new w 17 12))).bind fun x2 => (tb_pR 15 0 a0 w.1.length x2).bind fun w3 => (tb_on 17 w3.1.length (tb_new w3 17 12) (fb_s_init w3.1.length (tb_new w3 17 12))).bind fun x5 => (tb_pR 15 1 a0 w3.1.length x5).bind fun w6 => (tb_on 12 w6.1.length (tb_new w6 12 4) (fb_n_init w6.1.length (tb_new w6 12 4))).bind fun x8 => (tb_pR 15 2 a0 w6.1.length x8).bind fun w9 => (tb_pI 15 3 a0 (-1) w9).bind fun w10 => some w10
set_option maxHeartbeats 4000000 in
set_option maxRecDepth 20000 in
theorem dc_sc_init {a0 : Nat} {w : tb_Hp} {o : tb_Hp} (h : fb_sc_init a0 w = some o) : tb_Ev tb_P 1 5 (0, tb_ent [.ref a0], [], w) (none, o) := by
  unfold fb_sc_init at h
  obtain ⟨r, hr⟩ : ∃ r : Option Value × tb_Hp, r = (none, o) := ⟨_, rfl⟩
  rw [← hr]
  show tb_Ev tb_P 1 5 (0, [(0, .ref a0)], [], w) r
  refine tb_Es (k := 1) (st' := (1, [(0, .ref a0)], [.ref a0], w)) rfl ?_
  refine tb_e_ob rfl rfl ?_
  refine tb_Es (k := 3) (st' := (5, [(0, .ref a0)], [.ref w.1.length, .ref w.1.length, .ref a0], (tb_new w 17 12))) rfl ?_
  replace h := Option.bind_eq_some_iff.mp h
  obtain ⟨x2, ex2, h⟩ := h
  obtain ⟨hkx2, hcall⟩ := tb_on_some ex2
  refine tb_e_cv (v := none) rfl (Or.inr ⟨_, rfl⟩) rfl rfl (Nat.le_of_ble_eq_true rfl) rfl (Nat.le_of_ble_eq_true rfl) hkx2 ((dc_s_init hcall).up (by decide)) ?_
  replace h := Option.bind_eq_some_iff.mp h
  obtain ⟨w3, ew3, h⟩ := h
  refine tb_e_pR rfl ew3 ?_
  refine tb_Es (k := 3) (st' := (10, [(0, .ref a0)], [.ref w3.1.length, .ref w3.1.length, .ref a0], (tb_new w3 17 12))) rfl ?_
  replace h := Option.bind_eq_some_iff.mp h
  obtain ⟨x5, ex5, h⟩ := h
  obtain ⟨hkx5, hcall⟩ := tb_on_some ex5
  refine tb_e_cv (v := none) rfl (Or.inr ⟨_, rfl⟩) rfl rfl (Nat.le_of_ble_eq_true rfl) rfl (Nat.le_of_ble_eq_true rfl) hkx5 ((dc_s_init hcall).up (by decide)) ?_
  replace h := Option.bind_eq_some_iff.mp h
  obtain ⟨w6, ew6, h⟩ := h
  refine tb_e_pR rfl ew6 ?_
  refine tb_Es (k := 3) (st' := (15, [(0, .ref a0)], [.ref w6.1.length, .ref w6.1.length, .ref a0], (tb_new w6 12 4))) rfl ?_
  replace h := Option.bind_eq_some_iff.mp h
  obtain ⟨x8, ex8, h⟩ := h
  obtain ⟨hkx8, hcall⟩ := tb_on_some ex8
  refine tb_e_cv (v := none) rfl (Or.inr ⟨_, rfl⟩) rfl rfl (Nat.le_of_ble_eq_true rfl) rfl (Nat.le_of_ble_eq_true rfl) hkx8 ((dc_n_init hcall).up (by decide)) ?_
  replace h := Option.bind_eq_some_iff.mp h
  obtain ⟨w9, ew9, h⟩ := h
  refine tb_e_pR rfl ew9 ?_
  refine tb_Es (k := 2) (st' := (19, [(0, .ref a0)], [.int (-1), .ref a0], w9)) rfl ?_
  replace h := Option.bind_eq_some_iff.mp h
  obtain ⟨w10, ew10, h⟩ := h
  refine tb_e_pI rfl ew10 ?_
  obtain rfl := Option.some.inj h
  subst hr
  exact tb_Er rfl rfl
/-! TannerBunting$Hands.<init>()V -/
def fb_h_init (a0 : Nat) (w : tb_Hp) : Option (tb_Hp) := (tb_on 17 w.1.length (tb_new w 17 12) (fb_s_init w.1.length (tb_new w 17 12))).bind fun x2 => (tb_pR 10 0 a0 w.1.length x2).bind fun w3 => (tb_na 1 192 w3).bind fun w4 => (tb_pR 10 1 a0 w3.1.length w4).bind fun w5 => (tb_na 1 5 w5).bind fun w6 => (tb_pR 10 2 a0 w5.1.length w6).bind fun w7 => some w7
set_option maxHeartbeats 4000000 in
set_option maxRecDepth 20000 in
theorem dc_h_init {a0 : Nat} {w : tb_Hp} {o : tb_Hp} (h : fb_h_init a0 w = some o) : tb_Ev tb_P 1 9 (0, tb_ent [.ref a0], [], w) (none, o) := by
  unfold fb_h_init at h
  obtain ⟨r, hr⟩ : ∃ r : Option Value × tb_Hp, r = (none, o) := ⟨_, rfl⟩
  rw [← hr]
  show tb_Ev tb_P 1 9 (0, [(0, .ref a0)], [], w) r
  refine tb_Es (k := 1) (st' := (1, [(0, .ref a0)], [.ref a0], w)) rfl ?_
  refine tb_e_ob rfl rfl ?_
  refine tb_Es (k := 3) (st' := (5, [(0, .ref a0)], [.ref w.1.length, .ref w.1.length, .ref a0], (tb_new w 17 12))) rfl ?_
  replace h := Option.bind_eq_some_iff.mp h
  obtain ⟨x2, ex2, h⟩ := h
  obtain ⟨hkx2, hcall⟩ := tb_on_some ex2
  refine tb_e_cv (v := none) rfl (Or.inr ⟨_, rfl⟩) rfl rfl (Nat.le_of_ble_eq_true rfl) rfl (Nat.le_of_ble_eq_true rfl) hkx2 ((dc_s_init hcall).up (by decide)) ?_
  replace h := Option.bind_eq_some_iff.mp h
  obtain ⟨w3, ew3, h⟩ := h
  refine tb_e_pR rfl ew3 ?_
  refine tb_Es (k := 2) (st' := (9, [(0, .ref a0)], [.int 192, .ref a0], w3)) rfl ?_
  replace h := Option.bind_eq_some_iff.mp h
  obtain ⟨w4, ew4, h⟩ := h
  refine tb_e_na rfl (Or.inl ⟨_, rfl⟩) ew4 ?_
  replace h := Option.bind_eq_some_iff.mp h
  obtain ⟨w5, ew5, h⟩ := h
  refine tb_e_pR rfl ew5 ?_
  refine tb_Es (k := 2) (st' := (13, [(0, .ref a0)], [.int 5, .ref a0], w5)) rfl ?_
  replace h := Option.bind_eq_some_iff.mp h
  obtain ⟨w6, ew6, h⟩ := h
  refine tb_e_na rfl (Or.inl ⟨_, rfl⟩) ew6 ?_
  replace h := Option.bind_eq_some_iff.mp h
  obtain ⟨w7, ew7, h⟩ := h
  refine tb_e_pR rfl ew7 ?_
  obtain rfl := Option.some.inj h
  subst hr
  exact tb_Er rfl rfl
/-! TannerBunting$Years.<init>(LTannerBunting$Judge;)V -/
def fb_yr_init (a0 : Nat) (a1 : Nat) (w : tb_Hp) : Option (tb_Hp) := (tb_pR 20 5 a0 a1 w).bind fun w1 => (tb_on 17 w1.1.length (tb_new w1 17 12) (fb_s_init w1.1.length (tb_new w1 17 12))).bind fun x3 => (tb_pR 20 0 a0 w1.1.length x3).bind fun w4 => (tb_na 1 8 w4).bind fun w5 => (tb_pR 20 6 a0 w4.1.length w5).bind fun w6 => some w6
set_option maxHeartbeats 4000000 in
set_option maxRecDepth 20000 in
theorem dc_yr_init {a0 : Nat} {a1 : Nat} {w : tb_Hp} {o : tb_Hp} (h : fb_yr_init a0 a1 w = some o) : tb_Ev tb_P 1 10 (0, tb_ent [.ref a0, .ref a1], [], w) (none, o) := by
  unfold fb_yr_init at h
  obtain ⟨r, hr⟩ : ∃ r : Option Value × tb_Hp, r = (none, o) := ⟨_, rfl⟩
  rw [← hr]
  show tb_Ev tb_P 1 10 (0, [(0, .ref a0), (1, .ref a1)], [], w) r
  refine tb_Es (k := 1) (st' := (1, [(0, .ref a0), (1, .ref a1)], [.ref a0], w)) rfl ?_
  refine tb_e_ob rfl rfl ?_
  refine tb_Es (k := 2) (st' := (4, [(0, .ref a0), (1, .ref a1)], [.ref a1, .ref a0], w)) rfl ?_
  replace h := Option.bind_eq_some_iff.mp h
  obtain ⟨w1, ew1, h⟩ := h
  refine tb_e_pR rfl ew1 ?_
  refine tb_Es (k := 3) (st' := (8, [(0, .ref a0), (1, .ref a1)], [.ref w1.1.length, .ref w1.1.length, .ref a0], (tb_new w1 17 12))) rfl ?_
  replace h := Option.bind_eq_some_iff.mp h
  obtain ⟨x3, ex3, h⟩ := h
  obtain ⟨hkx3, hcall⟩ := tb_on_some ex3
  refine tb_e_cv (v := none) rfl (Or.inr ⟨_, rfl⟩) rfl rfl (Nat.le_of_ble_eq_true rfl) rfl (Nat.le_of_ble_eq_true rfl) hkx3 ((dc_s_init hcall).up (by decide)) ?_
  replace h := Option.bind_eq_some_iff.mp h
  obtain ⟨w4, ew4, h⟩ := h
  refine tb_e_pR rfl ew4 ?_
  refine tb_Es (k := 2) (st' := (12, [(0, .ref a0), (1, .ref a1)], [.int 8, .ref a0], w4)) rfl ?_
  replace h := Option.bind_eq_some_iff.mp h
  obtain ⟨w5, ew5, h⟩ := h
  refine tb_e_na rfl (Or.inl ⟨_, rfl⟩) ew5 ?_
  replace h := Option.bind_eq_some_iff.mp h
  obtain ⟨w6, ew6, h⟩ := h
  refine tb_e_pR rfl ew6 ?_
  obtain rfl := Option.some.inj h
  subst hr
  exact tb_Er rfl rfl
/-! TannerBunting$Story.<init>(LTannerBunting$Judge;)V -/
def fb_so_init (a0 : Nat) (a1 : Nat) (w : tb_Hp) : Option (tb_Hp) := (tb_pR 16 2 a0 a1 w).bind fun w1 => (tb_on 17 w1.1.length (tb_new w1 17 12) (fb_s_init w1.1.length (tb_new w1 17 12))).bind fun x3 => (tb_pR 16 3 a0 w1.1.length x3).bind fun w4 => (tb_na 1 10 w4).bind fun w5 => (tb_pR 16 4 a0 w4.1.length w5).bind fun w6 => some w6
set_option maxHeartbeats 4000000 in
set_option maxRecDepth 20000 in
theorem dc_so_init {a0 : Nat} {a1 : Nat} {w : tb_Hp} {o : tb_Hp} (h : fb_so_init a0 a1 w = some o) : tb_Ev tb_P 1 11 (0, tb_ent [.ref a0, .ref a1], [], w) (none, o) := by
  unfold fb_so_init at h
  obtain ⟨r, hr⟩ : ∃ r : Option Value × tb_Hp, r = (none, o) := ⟨_, rfl⟩
  rw [← hr]
  show tb_Ev tb_P 1 11 (0, [(0, .ref a0), (1, .ref a1)], [], w) r
  refine tb_Es (k := 1) (st' := (1, [(0, .ref a0), (1, .ref a1)], [.ref a0], w)) rfl ?_
  refine tb_e_ob rfl rfl ?_
  refine tb_Es (k := 2) (st' := (4, [(0, .ref a0), (1, .ref a1)], [.ref a1, .ref a0], w)) rfl ?_
  replace h := Option.bind_eq_some_iff.mp h
  obtain ⟨w1, ew1, h⟩ := h
  refine tb_e_pR rfl ew1 ?_
  refine tb_Es (k := 3) (st' := (8, [(0, .ref a0), (1, .ref a1)], [.ref w1.1.length, .ref w1.1.length, .ref a0], (tb_new w1 17 12))) rfl ?_
  replace h := Option.bind_eq_some_iff.mp h
  obtain ⟨x3, ex3, h⟩ := h
  obtain ⟨hkx3, hcall⟩ := tb_on_some ex3
  refine tb_e_cv (v := none) rfl (Or.inr ⟨_, rfl⟩) rfl rfl (Nat.le_of_ble_eq_true rfl) rfl (Nat.le_of_ble_eq_true rfl) hkx3 ((dc_s_init hcall).up (by decide)) ?_
  replace h := Option.bind_eq_some_iff.mp h
  obtain ⟨w4, ew4, h⟩ := h
  refine tb_e_pR rfl ew4 ?_
  refine tb_Es (k := 2) (st' := (12, [(0, .ref a0), (1, .ref a1)], [.int 10, .ref a0], w4)) rfl ?_
  replace h := Option.bind_eq_some_iff.mp h
  obtain ⟨w5, ew5, h⟩ := h
  refine tb_e_na rfl (Or.inl ⟨_, rfl⟩) ew5 ?_
  replace h := Option.bind_eq_some_iff.mp h
  obtain ⟨w6, ew6, h⟩ := h
  refine tb_e_pR rfl ew6 ?_
  obtain rfl := Option.some.inj h
  subst hr
  exact tb_Er rfl rfl
/-! TannerBunting.feed(IIIII)I -/
def fb_x_feed (a0 : Nat) (a1 : Int32) (a2 : Int32) (a3 : Int32) (a4 : Int32) (a5 : Int32) (w : tb_Hp) : Option (Int32 × tb_Hp) := (tb_gN 21 0 a0 w).bind fun p1 => (tb_gI 19 0 p1 w).bind fun x2 => (if 400 < (x2 + 20) then some (-1, w) else (tb_gN 21 0 a0 w).bind fun p3 => (tb_on 19 p3 w (fb_t_addFour p3 a1 w)).bind fun x4 => (tb_gN 21 0 a0 x4).bind fun p5 => (tb_on 19 p5 x4 (fb_t_addFour p5 a2 x4)).bind fun x6 => (tb_gN 21 0 a0 x6).bind fun p7 => (tb_on 19 p7 x6 (fb_t_addFour p7 a3 x6)).bind fun x8 => (tb_gN 21 0 a0 x8).bind fun p9 => (tb_on 19 p9 x8 (fb_t_addFour p9 a4 x8)).bind fun x10 => (tb_gN 21 0 a0 x10).bind fun p11 => (tb_on 19 p11 x10 (fb_t_addFour p11 a5 x10)).bind fun x12 => (tb_gN 21 0 a0 x12).bind fun p13 => (tb_gI 19 0 p13 x12).bind fun x14 => some (x14, x12))
set_option maxHeartbeats 4000000 in
set_option maxRecDepth 20000 in
theorem dc_x_feed {a0 : Nat} {a1 : Int32} {a2 : Int32} {a3 : Int32} {a4 : Int32} {a5 : Int32} {w : tb_Hp} {o : Int32 × tb_Hp} (h : fb_x_feed a0 a1 a2 a3 a4 a5 w = some o) : tb_Ev tb_P 1 12 (0, tb_ent [.ref a0, .int a1, .int a2, .int a3, .int a4, .int a5], [], w) (some (.int o.1), o.2) := by
  unfold fb_x_feed at h
  obtain ⟨r, hr⟩ : ∃ r : Option Value × tb_Hp, r = (some (.int o.1), o.2) := ⟨_, rfl⟩
  rw [← hr]
  show tb_Ev tb_P 1 12 (0, [(0, .ref a0), (1, .int a1), (2, .int a2), (3, .int a3), (4, .int a4), (5, .int a5)], [], w) r
  refine tb_Es (k := 1) (st' := (1, [(0, .ref a0), (1, .int a1), (2, .int a2), (3, .int a3), (4, .int a4), (5, .int a5)], [.ref a0], w)) rfl ?_
  replace h := Option.bind_eq_some_iff.mp h
  obtain ⟨p1, ep1, h⟩ := h
  refine tb_e_gN rfl ep1 ?_
  replace h := Option.bind_eq_some_iff.mp h
  obtain ⟨x2, ex2, h⟩ := h
  refine tb_e_gI rfl ex2 ?_
  refine tb_Es (k := 3) (st' := (6, [(0, .ref a0), (1, .int a1), (2, .int a2), (3, .int a3), (4, .int a4), (5, .int a5)], [.int 400, .int (x2 + 20)], w)) rfl ?_
  refine tb_b_cle rfl (fun hc => ?_) (fun hc => ?_)
  · rw [if_pos hc] at h
    refine tb_Es (k := 1) (st' := (8, [(0, .ref a0), (1, .int a1), (2, .int a2), (3, .int a3), (4, .int a4), (5, .int a5)], [.int (-1)], w)) rfl ?_
    obtain rfl := Option.some.inj h
    subst hr
    exact tb_Er rfl rfl
  · rw [if_neg hc] at h
    refine tb_Es (k := 1) (st' := (10, [(0, .ref a0), (1, .int a1), (2, .int a2), (3, .int a3), (4, .int a4), (5, .int a5)], [.ref a0], w)) rfl ?_
    replace h := Option.bind_eq_some_iff.mp h
    obtain ⟨p3, ep3, h⟩ := h
    refine tb_e_gN rfl ep3 ?_
    refine tb_Es (k := 1) (st' := (12, [(0, .ref a0), (1, .int a1), (2, .int a2), (3, .int a3), (4, .int a4), (5, .int a5)], [.int a1, .ref p3], w)) rfl ?_
    replace h := Option.bind_eq_some_iff.mp h
    obtain ⟨x4, ex4, h⟩ := h
    obtain ⟨hkx4, hcall⟩ := tb_on_some ex4
    refine tb_e_cv (v := none) rfl (Or.inl ⟨_, rfl⟩) rfl rfl (Nat.le_of_ble_eq_true rfl) rfl (Nat.le_of_ble_eq_true rfl) hkx4 ((dc_t_addFour hcall).up (by decide)) ?_
    refine tb_Es (k := 1) (st' := (14, [(0, .ref a0), (1, .int a1), (2, .int a2), (3, .int a3), (4, .int a4), (5, .int a5)], [.ref a0], x4)) rfl ?_
    replace h := Option.bind_eq_some_iff.mp h
    obtain ⟨p5, ep5, h⟩ := h
    refine tb_e_gN rfl ep5 ?_
    refine tb_Es (k := 1) (st' := (16, [(0, .ref a0), (1, .int a1), (2, .int a2), (3, .int a3), (4, .int a4), (5, .int a5)], [.int a2, .ref p5], x4)) rfl ?_
    replace h := Option.bind_eq_some_iff.mp h
    obtain ⟨x6, ex6, h⟩ := h
    obtain ⟨hkx6, hcall⟩ := tb_on_some ex6
    refine tb_e_cv (v := none) rfl (Or.inl ⟨_, rfl⟩) rfl rfl (Nat.le_of_ble_eq_true rfl) rfl (Nat.le_of_ble_eq_true rfl) hkx6 ((dc_t_addFour hcall).up (by decide)) ?_
    refine tb_Es (k := 1) (st' := (18, [(0, .ref a0), (1, .int a1), (2, .int a2), (3, .int a3), (4, .int a4), (5, .int a5)], [.ref a0], x6)) rfl ?_
    replace h := Option.bind_eq_some_iff.mp h
    obtain ⟨p7, ep7, h⟩ := h
    refine tb_e_gN rfl ep7 ?_
    refine tb_Es (k := 1) (st' := (20, [(0, .ref a0), (1, .int a1), (2, .int a2), (3, .int a3), (4, .int a4), (5, .int a5)], [.int a3, .ref p7], x6)) rfl ?_
    replace h := Option.bind_eq_some_iff.mp h
    obtain ⟨x8, ex8, h⟩ := h
    obtain ⟨hkx8, hcall⟩ := tb_on_some ex8
    refine tb_e_cv (v := none) rfl (Or.inl ⟨_, rfl⟩) rfl rfl (Nat.le_of_ble_eq_true rfl) rfl (Nat.le_of_ble_eq_true rfl) hkx8 ((dc_t_addFour hcall).up (by decide)) ?_
    refine tb_Es (k := 1) (st' := (22, [(0, .ref a0), (1, .int a1), (2, .int a2), (3, .int a3), (4, .int a4), (5, .int a5)], [.ref a0], x8)) rfl ?_
    replace h := Option.bind_eq_some_iff.mp h
    obtain ⟨p9, ep9, h⟩ := h
    refine tb_e_gN rfl ep9 ?_
    refine tb_Es (k := 1) (st' := (24, [(0, .ref a0), (1, .int a1), (2, .int a2), (3, .int a3), (4, .int a4), (5, .int a5)], [.int a4, .ref p9], x8)) rfl ?_
    replace h := Option.bind_eq_some_iff.mp h
    obtain ⟨x10, ex10, h⟩ := h
    obtain ⟨hkx10, hcall⟩ := tb_on_some ex10
    refine tb_e_cv (v := none) rfl (Or.inl ⟨_, rfl⟩) rfl rfl (Nat.le_of_ble_eq_true rfl) rfl (Nat.le_of_ble_eq_true rfl) hkx10 ((dc_t_addFour hcall).up (by decide)) ?_
    refine tb_Es (k := 1) (st' := (26, [(0, .ref a0), (1, .int a1), (2, .int a2), (3, .int a3), (4, .int a4), (5, .int a5)], [.ref a0], x10)) rfl ?_
    replace h := Option.bind_eq_some_iff.mp h
    obtain ⟨p11, ep11, h⟩ := h
    refine tb_e_gN rfl ep11 ?_
    refine tb_Es (k := 1) (st' := (28, [(0, .ref a0), (1, .int a1), (2, .int a2), (3, .int a3), (4, .int a4), (5, .int a5)], [.int a5, .ref p11], x10)) rfl ?_
    replace h := Option.bind_eq_some_iff.mp h
    obtain ⟨x12, ex12, h⟩ := h
    obtain ⟨hkx12, hcall⟩ := tb_on_some ex12
    refine tb_e_cv (v := none) rfl (Or.inl ⟨_, rfl⟩) rfl rfl (Nat.le_of_ble_eq_true rfl) rfl (Nat.le_of_ble_eq_true rfl) hkx12 ((dc_t_addFour hcall).up (by decide)) ?_
    refine tb_Es (k := 1) (st' := (30, [(0, .ref a0), (1, .int a1), (2, .int a2), (3, .int a3), (4, .int a4), (5, .int a5)], [.ref a0], x12)) rfl ?_
    replace h := Option.bind_eq_some_iff.mp h
    obtain ⟨p13, ep13, h⟩ := h
    refine tb_e_gN rfl ep13 ?_
    replace h := Option.bind_eq_some_iff.mp h
    obtain ⟨x14, ex14, h⟩ := h
    refine tb_e_gI rfl ex14 ?_
    obtain rfl := Option.some.inj h
    subst hr
    exact tb_Er rfl rfl
/-! TannerBunting$Street.clear()V -/
def fb_s_clear (a0 : Nat) (w : tb_Hp) : Option (tb_Hp) := (tb_pI 17 0 a0 0 w).bind fun w1 => (tb_pI 17 1 a0 0 w1).bind fun w2 => (tb_pI 17 2 a0 0 w2).bind fun w3 => (tb_pI 17 3 a0 0 w3).bind fun w4 => (tb_pI 17 4 a0 0 w4).bind fun w5 => (tb_pI 17 5 a0 0 w5).bind fun w6 => (tb_gN 17 6 a0 w6).bind fun p7 => (fb_ar_fill p7 0 w6).bind fun x8 => (tb_gN 17 7 a0 x8).bind fun p9 => (fb_ar_fill p9 0 x8).bind fun x10 => some x10
set_option maxHeartbeats 4000000 in
set_option maxRecDepth 20000 in
theorem dc_s_clear {a0 : Nat} {w : tb_Hp} {o : tb_Hp} (h : fb_s_clear a0 w = some o) : tb_Ev tb_P 1 17 (0, tb_ent [.ref a0], [], w) (none, o) := by
  unfold fb_s_clear at h
  obtain ⟨r, hr⟩ : ∃ r : Option Value × tb_Hp, r = (none, o) := ⟨_, rfl⟩
  rw [← hr]
  show tb_Ev tb_P 1 17 (0, [(0, .ref a0)], [], w) r
  refine tb_Es (k := 2) (st' := (2, [(0, .ref a0)], [.int 0, .ref a0], w)) rfl ?_
  replace h := Option.bind_eq_some_iff.mp h
  obtain ⟨w1, ew1, h⟩ := h
  refine tb_e_pI rfl ew1 ?_
  refine tb_Es (k := 2) (st' := (5, [(0, .ref a0)], [.int 0, .ref a0], w1)) rfl ?_
  replace h := Option.bind_eq_some_iff.mp h
  obtain ⟨w2, ew2, h⟩ := h
  refine tb_e_pI rfl ew2 ?_
  refine tb_Es (k := 2) (st' := (8, [(0, .ref a0)], [.int 0, .ref a0], w2)) rfl ?_
  replace h := Option.bind_eq_some_iff.mp h
  obtain ⟨w3, ew3, h⟩ := h
  refine tb_e_pI rfl ew3 ?_
  refine tb_Es (k := 2) (st' := (11, [(0, .ref a0)], [.int 0, .ref a0], w3)) rfl ?_
  replace h := Option.bind_eq_some_iff.mp h
  obtain ⟨w4, ew4, h⟩ := h
  refine tb_e_pI rfl ew4 ?_
  refine tb_Es (k := 2) (st' := (14, [(0, .ref a0)], [.int 0, .ref a0], w4)) rfl ?_
  replace h := Option.bind_eq_some_iff.mp h
  obtain ⟨w5, ew5, h⟩ := h
  refine tb_e_pI rfl ew5 ?_
  refine tb_Es (k := 2) (st' := (17, [(0, .ref a0)], [.int 0, .ref a0], w5)) rfl ?_
  replace h := Option.bind_eq_some_iff.mp h
  obtain ⟨w6, ew6, h⟩ := h
  refine tb_e_pI rfl ew6 ?_
  refine tb_Es (k := 1) (st' := (19, [(0, .ref a0)], [.ref a0], w6)) rfl ?_
  replace h := Option.bind_eq_some_iff.mp h
  obtain ⟨p7, ep7, h⟩ := h
  refine tb_e_gN rfl ep7 ?_
  refine tb_Es (k := 1) (st' := (21, [(0, .ref a0)], [.int 0, .ref p7], w6)) rfl ?_
  replace h := Option.bind_eq_some_iff.mp h
  obtain ⟨x8, ex8, h⟩ := h
  have hcall := ex8
  refine tb_e_cs (v := none) rfl rfl rfl (Nat.le_of_ble_eq_true rfl) rfl (Nat.le_of_ble_eq_true rfl) ((dc_ar_fill hcall).up (by decide)) ?_
  refine tb_Es (k := 1) (st' := (23, [(0, .ref a0)], [.ref a0], x8)) rfl ?_
  replace h := Option.bind_eq_some_iff.mp h
  obtain ⟨p9, ep9, h⟩ := h
  refine tb_e_gN rfl ep9 ?_
  refine tb_Es (k := 1) (st' := (25, [(0, .ref a0)], [.int 0, .ref p9], x8)) rfl ?_
  replace h := Option.bind_eq_some_iff.mp h
  obtain ⟨x10, ex10, h⟩ := h
  have hcall := ex10
  refine tb_e_cs (v := none) rfl rfl rfl (Nat.le_of_ble_eq_true rfl) rfl (Nat.le_of_ble_eq_true rfl) ((dc_ar_fill hcall).up (by decide)) ?_
  obtain rfl := Option.some.inj h
  subst hr
  exact tb_Er rfl rfl
/-! TannerBunting$Text.splitNumber(I)I -/
def fl_t_splitNumber_4 : Nat → Nat → Int32 → Int32 → Int32 → tb_Hp → Option (Nat × Int32 × Int32 × Int32 × tb_Hp)
  | 0, _, _, _, _, _ => none
  | n + 1, v0, v1, v2, v3, w => (tb_gI 19 0 v0 w).bind fun x1 => (if v3 < x1 then (tb_on 19 v0 w (fb_t_byteAt v0 v3 w)).bind fun x2 => (fb_t_isDigit x2.1 x2.2).bind fun x3 => (if x3.1 = 0 then some ((v0, v1, v2, v3, x3.2)) else (if (v3 - v1) < 5 then (tb_on 19 v0 x3.2 (fb_t_byteAt v0 v3 x3.2)).bind fun x4 => fl_t_splitNumber_4 n v0 v1 (((v2 * 10) + x4.1) - 48) (v3 + 1) x4.2 else fl_t_splitNumber_4 n v0 v1 v2 (v3 + 1) x3.2)) else some ((v0, v1, v2, v3, w)))
set_option maxHeartbeats 4000000 in
set_option maxRecDepth 20000 in
theorem dl_t_splitNumber_4 : ∀ (n : Nat) (v0 : Nat) (v1 : Int32) (v2 : Int32) (v3 : Int32) (w : tb_Hp) (o : Nat × Int32 × Int32 × Int32 × tb_Hp), fl_t_splitNumber_4 n v0 v1 v2 v3 w = some o → ∀ (r : Option Value × tb_Hp), tb_Ev tb_P 1 22 (32, [(0, .ref o.1), (1, .int o.2.1), (2, .int o.2.2.1), (3, .int o.2.2.2.1)], [], o.2.2.2.2) r → tb_Ev tb_P 1 22 (5, [(0, .ref v0), (1, .int v1), (2, .int v2), (3, .int v3)], [], w) r := by
  intro n
  induction n with
  | zero =>
    intro v0 v1 v2 v3 w o h
    cases h
  | succ n ih =>
    intro v0 v1 v2 v3 w o h r hx
    unfold fl_t_splitNumber_4 at h
    refine tb_Es (k := 2) (st' := (7, [(0, .ref v0), (1, .int v1), (2, .int v2), (3, .int v3)], [.ref v0, .int v3], w)) rfl ?_
    replace h := Option.bind_eq_some_iff.mp h
    obtain ⟨x1, ex1, h⟩ := h
    refine tb_e_gI rfl ex1 ?_
    refine tb_b_cge rfl (fun hc => ?_) (fun hc => ?_)
    · rw [if_pos hc] at h
      refine tb_Es (k := 2) (st' := (11, [(0, .ref v0), (1, .int v1), (2, .int v2), (3, .int v3)], [.int v3, .ref v0], w)) rfl ?_
      replace h := Option.bind_eq_some_iff.mp h
      obtain ⟨x2, ex2, h⟩ := h
      obtain ⟨hkx2, hcall⟩ := tb_on_some ex2
      refine tb_e_cv (v := some (.int x2.1)) rfl (Or.inl ⟨_, rfl⟩) rfl rfl (Nat.le_of_ble_eq_true rfl) rfl (Nat.le_of_ble_eq_true rfl) hkx2 ((dc_t_byteAt hcall).up (by decide)) ?_
      replace h := Option.bind_eq_some_iff.mp h
      obtain ⟨x3, ex3, h⟩ := h
      have hcall := ex3
      refine tb_e_cs (v := some (.int x3.1)) rfl rfl rfl (Nat.le_of_ble_eq_true rfl) rfl (Nat.le_of_ble_eq_true rfl) ((dc_t_isDigit hcall).up (by decide)) ?_
      refine tb_b_ieq rfl (fun hc => ?_) (fun hc => ?_)
      · rw [if_pos hc] at h
        refine tb_Es (k := 1) (st' := (32, [(0, .ref v0), (1, .int v1), (2, .int v2), (3, .int v3)], [], x3.2)) rfl ?_
        obtain rfl := Option.some.inj h
        exact hx
      · rw [if_neg hc] at h
        refine tb_Es (k := 4) (st' := (18, [(0, .ref v0), (1, .int v1), (2, .int v2), (3, .int v3)], [.int 5, .int (v3 - v1)], x3.2)) rfl ?_
        refine tb_b_cge rfl (fun hc => ?_) (fun hc => ?_)
        · rw [if_pos hc] at h
          refine tb_Es (k := 5) (st' := (24, [(0, .ref v0), (1, .int v1), (2, .int v2), (3, .int v3)], [.int v3, .ref v0, .int (v2 * 10)], x3.2)) rfl ?_
          replace h := Option.bind_eq_some_iff.mp h
          obtain ⟨x4, ex4, h⟩ := h
          obtain ⟨hkx4, hcall⟩ := tb_on_some ex4
          refine tb_e_cv (v := some (.int x4.1)) rfl (Or.inl ⟨_, rfl⟩) rfl rfl (Nat.le_of_ble_eq_true rfl) rfl (Nat.le_of_ble_eq_true rfl) hkx4 ((dc_t_byteAt hcall).up (by decide)) ?_
          refine tb_Es (k := 7) (st' := (5, [(0, .ref v0), (1, .int v1), (2, .int (((v2 * 10) + x4.1) - 48)), (3, .int (v3 + 1))], [], x4.2)) rfl ?_
          exact ih v0 v1 (((v2 * 10) + x4.1) - 48) (v3 + 1) x4.2 _ h r hx
        · rw [if_neg hc] at h
          refine tb_Es (k := 3) (st' := (5, [(0, .ref v0), (1, .int v1), (2, .int v2), (3, .int (v3 + 1))], [], x3.2)) rfl ?_
          exact ih v0 v1 v2 (v3 + 1) x3.2 _ h r hx
    · rw [if_neg hc] at h
      refine tb_Es (k := 1) (st' := (32, [(0, .ref v0), (1, .int v1), (2, .int v2), (3, .int v3)], [], w)) rfl ?_
      obtain rfl := Option.some.inj h
      exact hx
def fb_t_splitNumber (a0 : Nat) (a1 : Int32) (w : tb_Hp) : Option (Int32 × tb_Hp) := (fl_t_splitNumber_4 1048576 a0 a1 0 a1 w).bind fun o5 => (if 5 < (o5.2.2.2.1 - o5.2.1) then (tb_on 19 o5.1 o5.2.2.2.2 (fb_t_addToken o5.1 3 o5.2.1 o5.2.2.1 o5.2.2.2.2)).bind fun x6 => some (o5.2.2.2.1, x6) else (tb_on 19 o5.1 o5.2.2.2.2 (fb_t_addToken o5.1 2 o5.2.1 o5.2.2.1 o5.2.2.2.2)).bind fun x7 => some (o5.2.2.2.1, x7))
set_option maxHeartbeats 4000000 in
set_option maxRecDepth 20000 in
theorem dc_t_splitNumber {a0 : Nat} {a1 : Int32} {w : tb_Hp} {o : Int32 × tb_Hp} (h : fb_t_splitNumber a0 a1 w = some o) : tb_Ev tb_P 1 22 (0, tb_ent [.ref a0, .int a1], [], w) (some (.int o.1), o.2) := by
  unfold fb_t_splitNumber at h
  obtain ⟨r, hr⟩ : ∃ r : Option Value × tb_Hp, r = (some (.int o.1), o.2) := ⟨_, rfl⟩
  rw [← hr]
  show tb_Ev tb_P 1 22 (0, [(0, .ref a0), (1, .int a1)], [], w) r
  refine tb_Es (k := 5) (st' := (5, [(0, .ref a0), (1, .int a1), (2, .int 0), (3, .int a1)], [], w)) rfl ?_
  replace h := Option.bind_eq_some_iff.mp h
  obtain ⟨o5, eo5, h⟩ := h
  refine dl_t_splitNumber_4 _ a0 a1 0 a1 w _ eo5 r ?_
  refine tb_Es (k := 5) (st' := (37, [(0, .ref o5.1), (1, .int o5.2.1), (2, .int o5.2.2.1), (3, .int o5.2.2.2.1)], [.int 5, .int (o5.2.2.2.1 - o5.2.1), .ref o5.1], o5.2.2.2.2)) rfl ?_
  refine tb_b_cle rfl (fun hc => ?_) (fun hc => ?_)
  · rw [if_pos hc] at h
    refine tb_Es (k := 4) (st' := (43, [(0, .ref o5.1), (1, .int o5.2.1), (2, .int o5.2.2.1), (3, .int o5.2.2.2.1)], [.int o5.2.2.1, .int o5.2.1, .int 3, .ref o5.1], o5.2.2.2.2)) rfl ?_
    replace h := Option.bind_eq_some_iff.mp h
    obtain ⟨x6, ex6, h⟩ := h
    obtain ⟨hkx6, hcall⟩ := tb_on_some ex6
    refine tb_e_cv (v := none) rfl (Or.inl ⟨_, rfl⟩) rfl rfl (Nat.le_of_ble_eq_true rfl) rfl (Nat.le_of_ble_eq_true rfl) hkx6 ((dc_t_addToken hcall).up (by decide)) ?_
    refine tb_Es (k := 1) (st' := (45, [(0, .ref o5.1), (1, .int o5.2.1), (2, .int o5.2.2.1), (3, .int o5.2.2.2.1)], [.int o5.2.2.2.1], x6)) rfl ?_
    obtain rfl := Option.some.inj h
    subst hr
    exact tb_Er rfl rfl
  · rw [if_neg hc] at h
    refine tb_Es (k := 3) (st' := (43, [(0, .ref o5.1), (1, .int o5.2.1), (2, .int o5.2.2.1), (3, .int o5.2.2.2.1)], [.int o5.2.2.1, .int o5.2.1, .int 2, .ref o5.1], o5.2.2.2.2)) rfl ?_
    replace h := Option.bind_eq_some_iff.mp h
    obtain ⟨x7, ex7, h⟩ := h
    obtain ⟨hkx7, hcall⟩ := tb_on_some ex7
    refine tb_e_cv (v := none) rfl (Or.inl ⟨_, rfl⟩) rfl rfl (Nat.le_of_ble_eq_true rfl) rfl (Nat.le_of_ble_eq_true rfl) hkx7 ((dc_t_addToken hcall).up (by decide)) ?_
    refine tb_Es (k := 1) (st' := (45, [(0, .ref o5.1), (1, .int o5.2.1), (2, .int o5.2.2.1), (3, .int o5.2.2.2.1)], [.int o5.2.2.2.1], x7)) rfl ?_
    obtain rfl := Option.some.inj h
    subst hr
    exact tb_Er rfl rfl
/-! TannerBunting$Text.isSpelt(Ljava/lang/String;II)Z -/
def fj_t_isSpelt_j23 (k : Nat → Nat → Int32 → Int32 → tb_Hp → Option (Int32 × tb_Hp)) (w : tb_Hp) : Option (Int32 × tb_Hp) := some ((0, w))
set_option maxHeartbeats 4000000 in
set_option maxRecDepth 20000 in
theorem dj_t_isSpelt_j23 (k : Nat → Nat → Int32 → Int32 → tb_Hp → Option (Int32 × tb_Hp)) (w : tb_Hp) (o : Int32 × tb_Hp) (h : fj_t_isSpelt_j23 k  w = some o) (r : Option Value × tb_Hp) (hx : r = (some (.int o.1), o.2)) (hk : ∀ (v0 : Nat) (v1 : Nat) (v2 : Int32) (v4 : Int32) (w : tb_Hp), k v0 v1 v2 v4 w = some o → tb_Ev tb_P 1 27 (11, [(0, .ref v0), (1, .retAddr v1), (2, .int v2), (4, .int v4)], [], w) r) : tb_Ev tb_P 1 27 (25, [], [], w) r := by
  unfold fj_t_isSpelt_j23 at h
  refine tb_Es (k := 1) (st' := (26, [], [.int 0], w)) rfl ?_
  obtain rfl := Option.some.inj h
  replace hx : r = _ := hx
  subst hx
  exact tb_Er rfl rfl
def fj_t_isSpelt_j27 (k : Nat → Nat → Int32 → Int32 → tb_Hp → Option (Int32 × tb_Hp)) (w : tb_Hp) : Option (Int32 × tb_Hp) := some ((1, w))
set_option maxHeartbeats 4000000 in
set_option maxRecDepth 20000 in
theorem dj_t_isSpelt_j27 (k : Nat → Nat → Int32 → Int32 → tb_Hp → Option (Int32 × tb_Hp)) (w : tb_Hp) (o : Int32 × tb_Hp) (h : fj_t_isSpelt_j27 k  w = some o) (r : Option Value × tb_Hp) (hx : r = (some (.int o.1), o.2)) (hk : ∀ (v0 : Nat) (v1 : Nat) (v2 : Int32) (v4 : Int32) (w : tb_Hp), k v0 v1 v2 v4 w = some o → tb_Ev tb_P 1 27 (11, [(0, .ref v0), (1, .retAddr v1), (2, .int v2), (4, .int v4)], [], w) r) : tb_Ev tb_P 1 27 (30, [], [], w) r := by
  unfold fj_t_isSpelt_j27 at h
  refine tb_Es (k := 1) (st' := (31, [], [.int 1], w)) rfl ?_
  obtain rfl := Option.some.inj h
  replace hx : r = _ := hx
  subst hx
  exact tb_Er rfl rfl
def fl_t_isSpelt_10 : Nat → Nat → Nat → Int32 → Int32 → tb_Hp → Option (Int32 × tb_Hp)
  | 0, _, _, _, _, _ => none
  | n + 1, v0, v1, v2, v4, w => (tb_tl tb_P.2.2.2 v1).bind fun x2 => (if v4 < x2 then (tb_tc tb_P.2.2.2 v1 v4).bind fun x3 => (tb_on 19 v0 w (fb_t_byteAt v0 (v2 + v4) w)).bind fun x4 => (if x3 = x4.1 then fl_t_isSpelt_10 n v0 v1 v2 (v4 + 1) x4.2 else fj_t_isSpelt_j23 (fl_t_isSpelt_10 n)  x4.2) else fj_t_isSpelt_j27 (fl_t_isSpelt_10 n)  w)
set_option maxHeartbeats 4000000 in
set_option maxRecDepth 20000 in
theorem dl_t_isSpelt_10 : ∀ (n : Nat) (v0 : Nat) (v1 : Nat) (v2 : Int32) (v4 : Int32) (w : tb_Hp) (o : Int32 × tb_Hp), fl_t_isSpelt_10 n v0 v1 v2 v4 w = some o → ∀ (r : Option Value × tb_Hp), r = (some (.int o.1), o.2) → tb_Ev tb_P 1 27 (11, [(0, .ref v0), (1, .retAddr v1), (2, .int v2), (4, .int v4)], [], w) r := by
  intro n
  induction n with
  | zero =>
    intro v0 v1 v2 v4 w o h
    cases h
  | succ n ih =>
    intro v0 v1 v2 v4 w o h r hx
    unfold fl_t_isSpelt_10 at h
    refine tb_Es (k := 2) (st' := (13, [(0, .ref v0), (1, .retAddr v1), (2, .int v2), (4, .int v4)], [.retAddr v1, .int v4], w)) rfl ?_
    replace h := Option.bind_eq_some_iff.mp h
    obtain ⟨x2, ex2, h⟩ := h
    refine tb_e_tl rfl rfl ex2 ?_
    refine tb_b_cge rfl (fun hc => ?_) (fun hc => ?_)
    · rw [if_pos hc] at h
      refine tb_Es (k := 2) (st' := (17, [(0, .ref v0), (1, .retAddr v1), (2, .int v2), (4, .int v4)], [.int v4, .retAddr v1], w)) rfl ?_
      replace h := Option.bind_eq_some_iff.mp h
      obtain ⟨x3, ex3, h⟩ := h
      refine tb_e_tc rfl rfl ex3 ?_
      refine tb_Es (k := 4) (st' := (22, [(0, .ref v0), (1, .retAddr v1), (2, .int v2), (4, .int v4)], [.int (v2 + v4), .ref v0, .int x3], w)) rfl ?_
      replace h := Option.bind_eq_some_iff.mp h
      obtain ⟨x4, ex4, h⟩ := h
      obtain ⟨hkx4, hcall⟩ := tb_on_some ex4
      refine tb_e_cv (v := some (.int x4.1)) rfl (Or.inl ⟨_, rfl⟩) rfl rfl (Nat.le_of_ble_eq_true rfl) rfl (Nat.le_of_ble_eq_true rfl) hkx4 ((dc_t_byteAt hcall).up (by decide)) ?_
      refine tb_b_ceq rfl (fun hc => ?_) (fun hc => ?_)
      · rw [if_pos hc] at h
        refine tb_Es (k := 3) (st' := (11, [(0, .ref v0), (1, .retAddr v1), (2, .int v2), (4, .int (v4 + 1))], [], x4.2)) rfl ?_
        exact ih v0 v1 v2 (v4 + 1) x4.2 _ h r hx
      · rw [if_neg hc] at h
        refine tb_Es (k := 1) (st' := (25, [], [], x4.2)) rfl ?_
        exact dj_t_isSpelt_j23 (fl_t_isSpelt_10 n)  x4.2 _ h r hx (fun v0_ v1_ v2_ v4_ w_ h_ => ih v0_ v1_ v2_ v4_ w_ _ h_ r hx)
    · rw [if_neg hc] at h
      refine tb_Es (k := 1) (st' := (30, [], [], w)) rfl ?_
      exact dj_t_isSpelt_j27 (fl_t_isSpelt_10 n)  w _ h r hx (fun v0_ v1_ v2_ v4_ w_ h_ => ih v0_ v1_ v2_ v4_ w_ _ h_ r hx)
def fb_t_isSpelt (a0 : Nat) (a1 : Nat) (a2 : Int32) (a3 : Int32) (w : tb_Hp) : Option (Int32 × tb_Hp) := (tb_tl tb_P.2.2.2 a1).bind fun x1 => (if x1 = (a3 - a2) then (fl_t_isSpelt_10 1048576 a0 a1 a2 0 w).bind fun o5 => some o5 else some (0, w))
set_option maxHeartbeats 4000000 in
set_option maxRecDepth 20000 in
theorem dc_t_isSpelt {a0 : Nat} {a1 : Nat} {a2 : Int32} {a3 : Int32} {w : tb_Hp} {o : Int32 × tb_Hp} (h : fb_t_isSpelt a0 a1 a2 a3 w = some o) : tb_Ev tb_P 1 27 (0, tb_ent [.ref a0, .retAddr a1, .int a2, .int a3], [], w) (some (.int o.1), o.2) := by
  unfold fb_t_isSpelt at h
  obtain ⟨r, hr⟩ : ∃ r : Option Value × tb_Hp, r = (some (.int o.1), o.2) := ⟨_, rfl⟩
  rw [← hr]
  show tb_Ev tb_P 1 27 (0, [(0, .ref a0), (1, .retAddr a1), (2, .int a2), (3, .int a3)], [], w) r
  refine tb_Es (k := 1) (st' := (1, [(0, .ref a0), (1, .retAddr a1), (2, .int a2), (3, .int a3)], [.retAddr a1], w)) rfl ?_
  replace h := Option.bind_eq_some_iff.mp h
  obtain ⟨x1, ex1, h⟩ := h
  refine tb_e_tl rfl rfl ex1 ?_
  refine tb_Es (k := 3) (st' := (5, [(0, .ref a0), (1, .retAddr a1), (2, .int a2), (3, .int a3)], [.int (a3 - a2), .int x1], w)) rfl ?_
  refine tb_b_ceq rfl (fun hc => ?_) (fun hc => ?_)
  · rw [if_pos hc] at h
    refine tb_Es (k := 3) (st' := (11, [(0, .ref a0), (1, .retAddr a1), (2, .int a2), (4, .int 0)], [], w)) rfl ?_
    replace h := Option.bind_eq_some_iff.mp h
    obtain ⟨o5, eo5, h⟩ := h
    refine dl_t_isSpelt_10 _ a0 a1 a2 0 w _ eo5 r ?_
    obtain rfl := Option.some.inj h
    exact hr
  · rw [if_neg hc] at h
    refine tb_Es (k := 1) (st' := (7, [(0, .ref a0), (1, .retAddr a1), (2, .int a2), (3, .int a3)], [.int 0], w)) rfl ?_
    obtain rfl := Option.some.inj h
    subst hr
    exact tb_Er rfl rfl
/-! TannerBunting$Text.splitSign(I)I -/
def fj_t_splitSign_j18 (v0 : Nat) (v1 : Int32) (v2 : Int32) (w : tb_Hp) : Option (Int32 × tb_Hp) := (if v2 = 12 then (tb_on 19 v0 w (fb_t_addToken v0 13 v1 0 w)).bind fun x4 => some (v1 + 2, x4) else (tb_on 19 v0 w (fb_t_addToken v0 15 v1 0 w)).bind fun x5 => some (v1 + 2, x5))
set_option maxHeartbeats 4000000 in
set_option maxRecDepth 20000 in
theorem dj_t_splitSign_j18 (v0 : Nat) (v1 : Int32) (v2 : Int32) (w : tb_Hp) (o : Int32 × tb_Hp) (h : fj_t_splitSign_j18 v0 v1 v2 w = some o) (r : Option Value × tb_Hp) (hr : r = (some (.int o.1), o.2)) : tb_Ev tb_P 1 28 (19, [(0, .ref v0), (1, .int v1), (2, .int v2)], [], w) r := by
  unfold fj_t_splitSign_j18 at h
  refine tb_Es (k := 3) (st' := (22, [(0, .ref v0), (1, .int v1), (2, .int v2)], [.int 12, .int v2, .ref v0], w)) rfl ?_
  refine tb_b_cne rfl (fun hc => ?_) (fun hc => ?_)
  · rw [if_pos hc] at h
    refine tb_Es (k := 4) (st' := (28, [(0, .ref v0), (1, .int v1), (2, .int v2)], [.int 0, .int v1, .int 13, .ref v0], w)) rfl ?_
    replace h := Option.bind_eq_some_iff.mp h
    obtain ⟨x4, ex4, h⟩ := h
    obtain ⟨hkx4, hcall⟩ := tb_on_some ex4
    refine tb_e_cv (v := none) rfl (Or.inl ⟨_, rfl⟩) rfl rfl (Nat.le_of_ble_eq_true rfl) rfl (Nat.le_of_ble_eq_true rfl) hkx4 ((dc_t_addToken hcall).up (by decide)) ?_
    refine tb_Es (k := 3) (st' := (32, [(0, .ref v0), (1, .int v1), (2, .int v2)], [.int (v1 + 2)], x4)) rfl ?_
    obtain rfl := Option.some.inj h
    subst hr
    exact tb_Er rfl rfl
  · rw [if_neg hc] at h
    refine tb_Es (k := 3) (st' := (28, [(0, .ref v0), (1, .int v1), (2, .int v2)], [.int 0, .int v1, .int 15, .ref v0], w)) rfl ?_
    replace h := Option.bind_eq_some_iff.mp h
    obtain ⟨x5, ex5, h⟩ := h
    obtain ⟨hkx5, hcall⟩ := tb_on_some ex5
    refine tb_e_cv (v := none) rfl (Or.inl ⟨_, rfl⟩) rfl rfl (Nat.le_of_ble_eq_true rfl) rfl (Nat.le_of_ble_eq_true rfl) hkx5 ((dc_t_addToken hcall).up (by decide)) ?_
    refine tb_Es (k := 3) (st' := (32, [(0, .ref v0), (1, .int v1), (2, .int v2)], [.int (v1 + 2)], x5)) rfl ?_
    obtain rfl := Option.some.inj h
    subst hr
    exact tb_Er rfl rfl
def fj_t_splitSign_j32 (v0 : Nat) (v1 : Int32) (v2 : Int32) (w : tb_Hp) : Option (Int32 × tb_Hp) := (tb_on 19 v0 w (fb_t_addToken v0 v2 v1 0 w)).bind fun x6 => some (v1 + 1, x6)
set_option maxHeartbeats 4000000 in
set_option maxRecDepth 20000 in
theorem dj_t_splitSign_j32 (v0 : Nat) (v1 : Int32) (v2 : Int32) (w : tb_Hp) (o : Int32 × tb_Hp) (h : fj_t_splitSign_j32 v0 v1 v2 w = some o) (r : Option Value × tb_Hp) (hr : r = (some (.int o.1), o.2)) : tb_Ev tb_P 1 28 (34, [(0, .ref v0), (1, .int v1), (2, .int v2)], [], w) r := by
  unfold fj_t_splitSign_j32 at h
  refine tb_Es (k := 4) (st' := (38, [(0, .ref v0), (1, .int v1), (2, .int v2)], [.int 0, .int v1, .int v2, .ref v0], w)) rfl ?_
  replace h := Option.bind_eq_some_iff.mp h
  obtain ⟨x6, ex6, h⟩ := h
  obtain ⟨hkx6, hcall⟩ := tb_on_some ex6
  refine tb_e_cv (v := none) rfl (Or.inl ⟨_, rfl⟩) rfl rfl (Nat.le_of_ble_eq_true rfl) rfl (Nat.le_of_ble_eq_true rfl) hkx6 ((dc_t_addToken hcall).up (by decide)) ?_
  refine tb_Es (k := 3) (st' := (42, [(0, .ref v0), (1, .int v1), (2, .int v2)], [.int (v1 + 1)], x6)) rfl ?_
  obtain rfl := Option.some.inj h
  subst hr
  exact tb_Er rfl rfl
def fb_t_splitSign (a0 : Nat) (a1 : Int32) (w : tb_Hp) : Option (Int32 × tb_Hp) := (tb_on 19 a0 w (fb_t_byteAt a0 a1 w)).bind fun x1 => (fb_t_signOf x1.1 x1.2).bind fun x2 => (tb_on 19 a0 x2.2 (fb_t_byteAt a0 (a1 + 1) x2.2)).bind fun x3 => (if x3.1 = 61 then (if x2.1 = 12 then fj_t_splitSign_j18 a0 a1 x2.1 x3.2 else (if x2.1 = 16 then fj_t_splitSign_j18 a0 a1 x2.1 x3.2 else fj_t_splitSign_j32 a0 a1 x2.1 x3.2)) else fj_t_splitSign_j32 a0 a1 x2.1 x3.2)
set_option maxHeartbeats 4000000 in
set_option maxRecDepth 20000 in
theorem dc_t_splitSign {a0 : Nat} {a1 : Int32} {w : tb_Hp} {o : Int32 × tb_Hp} (h : fb_t_splitSign a0 a1 w = some o) : tb_Ev tb_P 1 28 (0, tb_ent [.ref a0, .int a1], [], w) (some (.int o.1), o.2) := by
  unfold fb_t_splitSign at h
  obtain ⟨r, hr⟩ : ∃ r : Option Value × tb_Hp, r = (some (.int o.1), o.2) := ⟨_, rfl⟩
  rw [← hr]
  show tb_Ev tb_P 1 28 (0, [(0, .ref a0), (1, .int a1)], [], w) r
  refine tb_Es (k := 2) (st' := (2, [(0, .ref a0), (1, .int a1)], [.int a1, .ref a0], w)) rfl ?_
  replace h := Option.bind_eq_some_iff.mp h
  obtain ⟨x1, ex1, h⟩ := h
  obtain ⟨hkx1, hcall⟩ := tb_on_some ex1
  refine tb_e_cv (v := some (.int x1.1)) rfl (Or.inl ⟨_, rfl⟩) rfl rfl (Nat.le_of_ble_eq_true rfl) rfl (Nat.le_of_ble_eq_true rfl) hkx1 ((dc_t_byteAt hcall).up (by decide)) ?_
  replace h := Option.bind_eq_some_iff.mp h
  obtain ⟨x2, ex2, h⟩ := h
  have hcall := ex2
  refine tb_e_cs (v := some (.int x2.1)) rfl rfl rfl (Nat.le_of_ble_eq_true rfl) rfl (Nat.le_of_ble_eq_true rfl) ((dc_t_signOf hcall).up (by decide)) ?_
  refine tb_Es (k := 5) (st' := (9, [(2, .int x2.1), (0, .ref a0), (1, .int a1)], [.int (a1 + 1), .ref a0], x2.2)) rfl ?_
  replace h := Option.bind_eq_some_iff.mp h
  obtain ⟨x3, ex3, h⟩ := h
  obtain ⟨hkx3, hcall⟩ := tb_on_some ex3
  refine tb_e_cv (v := some (.int x3.1)) rfl (Or.inl ⟨_, rfl⟩) rfl rfl (Nat.le_of_ble_eq_true rfl) rfl (Nat.le_of_ble_eq_true rfl) hkx3 ((dc_t_byteAt hcall).up (by decide)) ?_
  refine tb_Es (k := 1) (st' := (11, [(2, .int x2.1), (0, .ref a0), (1, .int a1)], [.int 61, .int x3.1], x3.2)) rfl ?_
  refine tb_b_cne rfl (fun hc => ?_) (fun hc => ?_)
  · rw [if_pos hc] at h
    refine tb_Es (k := 2) (st' := (14, [(2, .int x2.1), (0, .ref a0), (1, .int a1)], [.int 12, .int x2.1], x3.2)) rfl ?_
    refine tb_b_ceq rfl (fun hc => ?_) (fun hc => ?_)
    · rw [if_pos hc] at h
      refine tb_Es (k := 1) (st' := (19, [(0, .ref a0), (1, .int a1), (2, .int x2.1)], [], x3.2)) rfl ?_
      exact dj_t_splitSign_j18 a0 a1 x2.1 x3.2 _ h r hr
    · rw [if_neg hc] at h
      refine tb_Es (k := 2) (st' := (17, [(2, .int x2.1), (0, .ref a0), (1, .int a1)], [.int 16, .int x2.1], x3.2)) rfl ?_
      refine tb_b_cne rfl (fun hc => ?_) (fun hc => ?_)
      · rw [if_pos hc] at h
        refine tb_Es (k := 1) (st' := (19, [(0, .ref a0), (1, .int a1), (2, .int x2.1)], [], x3.2)) rfl ?_
        exact dj_t_splitSign_j18 a0 a1 x2.1 x3.2 _ h r hr
      · rw [if_neg hc] at h
        refine tb_Es (k := 1) (st' := (34, [(0, .ref a0), (1, .int a1), (2, .int x2.1)], [], x3.2)) rfl ?_
        exact dj_t_splitSign_j32 a0 a1 x2.1 x3.2 _ h r hr
  · rw [if_neg hc] at h
    refine tb_Es (k := 1) (st' := (34, [(0, .ref a0), (1, .int a1), (2, .int x2.1)], [], x3.2)) rfl ?_
    exact dj_t_splitSign_j32 a0 a1 x2.1 x3.2 _ h r hr
/-! TannerBunting$StreetReader.readNumber(II)I -/
def fj_sr_readNumber_j19 (v0 : Nat) (w : tb_Hp) : Option (Int32 × tb_Hp) := (tb_gN 18 1 v0 w).bind fun p6 => (tb_gN 18 1 v0 w).bind fun p7 => (tb_gI 19 1 p7 w).bind fun x8 => (if x8 = 2 then (tb_on 19 p6 w (fb_t_fail p6 1 w)).bind fun x9 => some (0, x9) else (tb_gN 18 1 v0 w).bind fun p10 => (tb_gI 19 1 p10 w).bind fun x11 => (if x11 = 3 then (tb_on 19 p6 w (fb_t_fail p6 1 w)).bind fun x12 => some (0, x12) else (tb_on 19 p6 w (fb_t_fail p6 0 w)).bind fun x13 => some (0, x13)))
set_option maxHeartbeats 4000000 in
set_option maxRecDepth 20000 in
theorem dj_sr_readNumber_j19 (v0 : Nat) (w : tb_Hp) (o : Int32 × tb_Hp) (h : fj_sr_readNumber_j19 v0 w = some o) (r : Option Value × tb_Hp) (hr : r = (some (.int o.1), o.2)) : tb_Ev tb_P 1 33 (20, [(0, .ref v0)], [], w) r := by
  unfold fj_sr_readNumber_j19 at h
  refine tb_Es (k := 1) (st' := (21, [(0, .ref v0)], [.ref v0], w)) rfl ?_
  replace h := Option.bind_eq_some_iff.mp h
  obtain ⟨p6, ep6, h⟩ := h
  refine tb_e_gN rfl ep6 ?_
  refine tb_Es (k := 1) (st' := (23, [(0, .ref v0)], [.ref v0, .ref p6], w)) rfl ?_
  replace h := Option.bind_eq_some_iff.mp h
  obtain ⟨p7, ep7, h⟩ := h
  refine tb_e_gN rfl ep7 ?_
  replace h := Option.bind_eq_some_iff.mp h
  obtain ⟨x8, ex8, h⟩ := h
  refine tb_e_gI rfl ex8 ?_
  refine tb_Es (k := 1) (st' := (26, [(0, .ref v0)], [.int 2, .int x8, .ref p6], w)) rfl ?_
  refine tb_b_ceq rfl (fun hc => ?_) (fun hc => ?_)
  · rw [if_pos hc] at h
    refine tb_Es (k := 2) (st' := (35, [(0, .ref v0)], [.int 1, .ref p6], w)) rfl ?_
    replace h := Option.bind_eq_some_iff.mp h
    obtain ⟨x9, ex9, h⟩ := h
    obtain ⟨hkx9, hcall⟩ := tb_on_some ex9
    refine tb_e_cv (v := none) rfl (Or.inl ⟨_, rfl⟩) rfl rfl (Nat.le_of_ble_eq_true rfl) rfl (Nat.le_of_ble_eq_true rfl) hkx9 ((dc_t_fail hcall).up (by decide)) ?_
    refine tb_Es (k := 1) (st' := (37, [(0, .ref v0)], [.int 0], x9)) rfl ?_
    obtain rfl := Option.some.inj h
    subst hr
    exact tb_Er rfl rfl
  · rw [if_neg hc] at h
    refine tb_Es (k := 1) (st' := (28, [(0, .ref v0)], [.ref v0, .ref p6], w)) rfl ?_
    replace h := Option.bind_eq_some_iff.mp h
    obtain ⟨p10, ep10, h⟩ := h
    refine tb_e_gN rfl ep10 ?_
    replace h := Option.bind_eq_some_iff.mp h
    obtain ⟨x11, ex11, h⟩ := h
    refine tb_e_gI rfl ex11 ?_
    refine tb_Es (k := 1) (st' := (31, [(0, .ref v0)], [.int 3, .int x11, .ref p6], w)) rfl ?_
    refine tb_b_cne rfl (fun hc => ?_) (fun hc => ?_)
    · rw [if_pos hc] at h
      refine tb_Es (k := 2) (st' := (35, [(0, .ref v0)], [.int 1, .ref p6], w)) rfl ?_
      replace h := Option.bind_eq_some_iff.mp h
      obtain ⟨x12, ex12, h⟩ := h
      obtain ⟨hkx12, hcall⟩ := tb_on_some ex12
      refine tb_e_cv (v := none) rfl (Or.inl ⟨_, rfl⟩) rfl rfl (Nat.le_of_ble_eq_true rfl) rfl (Nat.le_of_ble_eq_true rfl) hkx12 ((dc_t_fail hcall).up (by decide)) ?_
      refine tb_Es (k := 1) (st' := (37, [(0, .ref v0)], [.int 0], x12)) rfl ?_
      obtain rfl := Option.some.inj h
      subst hr
      exact tb_Er rfl rfl
    · rw [if_neg hc] at h
      refine tb_Es (k := 1) (st' := (35, [(0, .ref v0)], [.int 0, .ref p6], w)) rfl ?_
      replace h := Option.bind_eq_some_iff.mp h
      obtain ⟨x13, ex13, h⟩ := h
      obtain ⟨hkx13, hcall⟩ := tb_on_some ex13
      refine tb_e_cv (v := none) rfl (Or.inl ⟨_, rfl⟩) rfl rfl (Nat.le_of_ble_eq_true rfl) rfl (Nat.le_of_ble_eq_true rfl) hkx13 ((dc_t_fail hcall).up (by decide)) ?_
      refine tb_Es (k := 1) (st' := (37, [(0, .ref v0)], [.int 0], x13)) rfl ?_
      obtain rfl := Option.some.inj h
      subst hr
      exact tb_Er rfl rfl
def fb_sr_readNumber (a0 : Nat) (a1 : Int32) (a2 : Int32) (w : tb_Hp) : Option (Int32 × tb_Hp) := (tb_gN 18 1 a0 w).bind fun p1 => (tb_gI 19 2 p1 w).bind fun x2 => (tb_gN 18 1 a0 w).bind fun p3 => (tb_gI 19 1 p3 w).bind fun x4 => (if x4 = 2 then (fb_x_within x2 a1 a2 w).bind fun x5 => (if x5.1 = 0 then fj_sr_readNumber_j19 a0 x5.2 else (tb_gN 18 1 a0 x5.2).bind fun p14 => (tb_on 19 p14 x5.2 (fb_t_advance p14 x5.2)).bind fun x15 => some (x2, x15)) else fj_sr_readNumber_j19 a0 w)
set_option maxHeartbeats 4000000 in
set_option maxRecDepth 20000 in
theorem dc_sr_readNumber {a0 : Nat} {a1 : Int32} {a2 : Int32} {w : tb_Hp} {o : Int32 × tb_Hp} (h : fb_sr_readNumber a0 a1 a2 w = some o) : tb_Ev tb_P 1 33 (0, tb_ent [.ref a0, .int a1, .int a2], [], w) (some (.int o.1), o.2) := by
  unfold fb_sr_readNumber at h
  obtain ⟨r, hr⟩ : ∃ r : Option Value × tb_Hp, r = (some (.int o.1), o.2) := ⟨_, rfl⟩
  rw [← hr]
  show tb_Ev tb_P 1 33 (0, [(0, .ref a0), (1, .int a1), (2, .int a2)], [], w) r
  refine tb_Es (k := 1) (st' := (1, [(0, .ref a0), (1, .int a1), (2, .int a2)], [.ref a0], w)) rfl ?_
  replace h := Option.bind_eq_some_iff.mp h
  obtain ⟨p1, ep1, h⟩ := h
  refine tb_e_gN rfl ep1 ?_
  replace h := Option.bind_eq_some_iff.mp h
  obtain ⟨x2, ex2, h⟩ := h
  refine tb_e_gI rfl ex2 ?_
  refine tb_Es (k := 2) (st' := (5, [(3, .int x2), (0, .ref a0), (1, .int a1), (2, .int a2)], [.ref a0], w)) rfl ?_
  replace h := Option.bind_eq_some_iff.mp h
  obtain ⟨p3, ep3, h⟩ := h
  refine tb_e_gN rfl ep3 ?_
  replace h := Option.bind_eq_some_iff.mp h
  obtain ⟨x4, ex4, h⟩ := h
  refine tb_e_gI rfl ex4 ?_
  refine tb_Es (k := 1) (st' := (8, [(3, .int x2), (0, .ref a0), (1, .int a1), (2, .int a2)], [.int 2, .int x4], w)) rfl ?_
  refine tb_b_cne rfl (fun hc => ?_) (fun hc => ?_)
  · rw [if_pos hc] at h
    refine tb_Es (k := 3) (st' := (12, [(3, .int x2), (0, .ref a0), (1, .int a1), (2, .int a2)], [.int a2, .int a1, .int x2], w)) rfl ?_
    replace h := Option.bind_eq_some_iff.mp h
    obtain ⟨x5, ex5, h⟩ := h
    have hcall := ex5
    refine tb_e_cs (v := some (.int x5.1)) rfl rfl rfl (Nat.le_of_ble_eq_true rfl) rfl (Nat.le_of_ble_eq_true rfl) ((dc_x_within hcall).up (by decide)) ?_
    refine tb_b_ieq rfl (fun hc => ?_) (fun hc => ?_)
    · rw [if_pos hc] at h
      refine tb_Es (k := 1) (st' := (20, [(0, .ref a0)], [], x5.2)) rfl ?_
      exact dj_sr_readNumber_j19 a0 x5.2 _ h r hr
    · rw [if_neg hc] at h
      refine tb_Es (k := 1) (st' := (15, [(3, .int x2), (0, .ref a0), (1, .int a1), (2, .int a2)], [.ref a0], x5.2)) rfl ?_
      replace h := Option.bind_eq_some_iff.mp h
      obtain ⟨p14, ep14, h⟩ := h
      refine tb_e_gN rfl ep14 ?_
      replace h := Option.bind_eq_some_iff.mp h
      obtain ⟨x15, ex15, h⟩ := h
      obtain ⟨hkx15, hcall⟩ := tb_on_some ex15
      refine tb_e_cv (v := none) rfl (Or.inl ⟨_, rfl⟩) rfl rfl (Nat.le_of_ble_eq_true rfl) rfl (Nat.le_of_ble_eq_true rfl) hkx15 ((dc_t_advance hcall).up (by decide)) ?_
      refine tb_Es (k := 1) (st' := (18, [(3, .int x2), (0, .ref a0), (1, .int a1), (2, .int a2)], [.int x2], x15)) rfl ?_
      obtain rfl := Option.some.inj h
      subst hr
      exact tb_Er rfl rfl
  · rw [if_neg hc] at h
    refine tb_Es (k := 1) (st' := (20, [(0, .ref a0)], [], w)) rfl ?_
    exact dj_sr_readNumber_j19 a0 w _ h r hr
/-! TannerBunting$Street.setLean(II)V -/
def fb_s_setLean (a0 : Nat) (a1 : Int32) (a2 : Int32) (w : tb_Hp) : Option (tb_Hp) := (tb_on 17 a0 w (fb_s_isHouse a0 a1 w)).bind fun x1 => (if x1.1 = 0 then some x1.2 else (tb_gN 17 6 a0 x1.2).bind fun p2 => (tb_tI p2 a1 a2 x1.2).bind fun w3 => some w3)
set_option maxHeartbeats 4000000 in
set_option maxRecDepth 20000 in
theorem dc_s_setLean {a0 : Nat} {a1 : Int32} {a2 : Int32} {w : tb_Hp} {o : tb_Hp} (h : fb_s_setLean a0 a1 a2 w = some o) : tb_Ev tb_P 1 37 (0, tb_ent [.ref a0, .int a1, .int a2], [], w) (none, o) := by
  unfold fb_s_setLean at h
  obtain ⟨r, hr⟩ : ∃ r : Option Value × tb_Hp, r = (none, o) := ⟨_, rfl⟩
  rw [← hr]
  show tb_Ev tb_P 1 37 (0, [(0, .ref a0), (1, .int a1), (2, .int a2)], [], w) r
  refine tb_Es (k := 2) (st' := (2, [(0, .ref a0), (1, .int a1), (2, .int a2)], [.int a1, .ref a0], w)) rfl ?_
  replace h := Option.bind_eq_some_iff.mp h
  obtain ⟨x1, ex1, h⟩ := h
  obtain ⟨hkx1, hcall⟩ := tb_on_some ex1
  refine tb_e_cv (v := some (.int x1.1)) rfl (Or.inl ⟨_, rfl⟩) rfl rfl (Nat.le_of_ble_eq_true rfl) rfl (Nat.le_of_ble_eq_true rfl) hkx1 ((dc_s_isHouse hcall).up (by decide)) ?_
  refine tb_b_ieq rfl (fun hc => ?_) (fun hc => ?_)
  · rw [if_pos hc] at h
    obtain rfl := Option.some.inj h
    subst hr
    exact tb_Er rfl rfl
  · rw [if_neg hc] at h
    refine tb_Es (k := 1) (st' := (5, [(0, .ref a0), (1, .int a1), (2, .int a2)], [.ref a0], x1.2)) rfl ?_
    replace h := Option.bind_eq_some_iff.mp h
    obtain ⟨p2, ep2, h⟩ := h
    refine tb_e_gN rfl ep2 ?_
    refine tb_Es (k := 2) (st' := (8, [(0, .ref a0), (1, .int a1), (2, .int a2)], [.int a2, .int a1, .ref p2], x1.2)) rfl ?_
    replace h := Option.bind_eq_some_iff.mp h
    obtain ⟨w3, ew3, h⟩ := h
    refine tb_e_tI rfl ew3 ?_
    obtain rfl := Option.some.inj h
    subst hr
    exact tb_Er rfl rfl
/-! TannerBunting$Street.setFoot(II)V -/
def fb_s_setFoot (a0 : Nat) (a1 : Int32) (a2 : Int32) (w : tb_Hp) : Option (tb_Hp) := (tb_on 17 a0 w (fb_s_isHouse a0 a1 w)).bind fun x1 => (if x1.1 = 0 then some x1.2 else (tb_gN 17 7 a0 x1.2).bind fun p2 => (tb_tI p2 a1 a2 x1.2).bind fun w3 => some w3)
set_option maxHeartbeats 4000000 in
set_option maxRecDepth 20000 in
theorem dc_s_setFoot {a0 : Nat} {a1 : Int32} {a2 : Int32} {w : tb_Hp} {o : tb_Hp} (h : fb_s_setFoot a0 a1 a2 w = some o) : tb_Ev tb_P 1 39 (0, tb_ent [.ref a0, .int a1, .int a2], [], w) (none, o) := by
  unfold fb_s_setFoot at h
  obtain ⟨r, hr⟩ : ∃ r : Option Value × tb_Hp, r = (none, o) := ⟨_, rfl⟩
  rw [← hr]
  show tb_Ev tb_P 1 39 (0, [(0, .ref a0), (1, .int a1), (2, .int a2)], [], w) r
  refine tb_Es (k := 2) (st' := (2, [(0, .ref a0), (1, .int a1), (2, .int a2)], [.int a1, .ref a0], w)) rfl ?_
  replace h := Option.bind_eq_some_iff.mp h
  obtain ⟨x1, ex1, h⟩ := h
  obtain ⟨hkx1, hcall⟩ := tb_on_some ex1
  refine tb_e_cv (v := some (.int x1.1)) rfl (Or.inl ⟨_, rfl⟩) rfl rfl (Nat.le_of_ble_eq_true rfl) rfl (Nat.le_of_ble_eq_true rfl) hkx1 ((dc_s_isHouse hcall).up (by decide)) ?_
  refine tb_b_ieq rfl (fun hc => ?_) (fun hc => ?_)
  · rw [if_pos hc] at h
    obtain rfl := Option.some.inj h
    subst hr
    exact tb_Er rfl rfl
  · rw [if_neg hc] at h
    refine tb_Es (k := 1) (st' := (5, [(0, .ref a0), (1, .int a1), (2, .int a2)], [.ref a0], x1.2)) rfl ?_
    replace h := Option.bind_eq_some_iff.mp h
    obtain ⟨p2, ep2, h⟩ := h
    refine tb_e_gN rfl ep2 ?_
    refine tb_Es (k := 2) (st' := (8, [(0, .ref a0), (1, .int a1), (2, .int a2)], [.int a2, .int a1, .ref p2], x1.2)) rfl ?_
    replace h := Option.bind_eq_some_iff.mp h
    obtain ⟨w3, ew3, h⟩ := h
    refine tb_e_tI rfl ew3 ?_
    obtain rfl := Option.some.inj h
    subst hr
    exact tb_Er rfl rfl
/-! TannerBunting$Street.putUp(IIII)V -/
def fb_s_putUp (a0 : Nat) (a1 : Int32) (a2 : Int32) (a3 : Int32) (a4 : Int32) (w : tb_Hp) : Option (tb_Hp) := (if a1 < 0 then some w else (tb_gI 17 3 a0 w).bind fun x1 => (if a1 ≤ x1 then (if a1 < 8 then (tb_gN 17 8 a0 w).bind fun p2 => (tb_tI p2 a1 a2 w).bind fun w3 => (tb_gN 17 9 a0 w3).bind fun p4 => (tb_tI p4 a1 a3 w3).bind fun w5 => (tb_gN 17 10 a0 w5).bind fun p6 => (tb_tI p6 a1 a4 w5).bind fun w7 => (tb_gI 17 4 a0 w7).bind fun x8 => (tb_pI 17 4 a0 (x8 ||| (1 <<< (a1 &&& 31))) w7).bind fun w9 => (tb_gI 17 3 a0 w9).bind fun x10 => (fb_ma_max x10 (a1 + 1) w9).bind fun x11 => (tb_pI 17 3 a0 x11.1 x11.2).bind fun w12 => some w12 else some w) else some w))
set_option maxHeartbeats 4000000 in
set_option maxRecDepth 20000 in
theorem dc_s_putUp {a0 : Nat} {a1 : Int32} {a2 : Int32} {a3 : Int32} {a4 : Int32} {w : tb_Hp} {o : tb_Hp} (h : fb_s_putUp a0 a1 a2 a3 a4 w = some o) : tb_Ev tb_P 1 41 (0, tb_ent [.ref a0, .int a1, .int a2, .int a3, .int a4], [], w) (none, o) := by
  unfold fb_s_putUp at h
  obtain ⟨r, hr⟩ : ∃ r : Option Value × tb_Hp, r = (none, o) := ⟨_, rfl⟩
  rw [← hr]
  show tb_Ev tb_P 1 41 (0, [(0, .ref a0), (1, .int a1), (2, .int a2), (3, .int a3), (4, .int a4)], [], w) r
  refine tb_Es (k := 1) (st' := (1, [(0, .ref a0), (1, .int a1), (2, .int a2), (3, .int a3), (4, .int a4)], [.int a1], w)) rfl ?_
  refine tb_b_ilt rfl (fun hc => ?_) (fun hc => ?_)
  · rw [if_pos hc] at h
    obtain rfl := Option.some.inj h
    subst hr
    exact tb_Er rfl rfl
  · rw [if_neg hc] at h
    refine tb_Es (k := 2) (st' := (4, [(0, .ref a0), (1, .int a1), (2, .int a2), (3, .int a3), (4, .int a4)], [.ref a0, .int a1], w)) rfl ?_
    replace h := Option.bind_eq_some_iff.mp h
    obtain ⟨x1, ex1, h⟩ := h
    refine tb_e_gI rfl ex1 ?_
    refine tb_b_cgt rfl (fun hc => ?_) (fun hc => ?_)
    · rw [if_pos hc] at h
      refine tb_Es (k := 2) (st' := (8, [(0, .ref a0), (1, .int a1), (2, .int a2), (3, .int a3), (4, .int a4)], [.int 8, .int a1], w)) rfl ?_
      refine tb_b_clt rfl (fun hc => ?_) (fun hc => ?_)
      · rw [if_pos hc] at h
        refine tb_Es (k := 1) (st' := (11, [(0, .ref a0), (1, .int a1), (2, .int a2), (3, .int a3), (4, .int a4)], [.ref a0], w)) rfl ?_
        replace h := Option.bind_eq_some_iff.mp h
        obtain ⟨p2, ep2, h⟩ := h
        refine tb_e_gN rfl ep2 ?_
        refine tb_Es (k := 2) (st' := (14, [(0, .ref a0), (1, .int a1), (2, .int a2), (3, .int a3), (4, .int a4)], [.int a2, .int a1, .ref p2], w)) rfl ?_
        replace h := Option.bind_eq_some_iff.mp h
        obtain ⟨w3, ew3, h⟩ := h
        refine tb_e_tI rfl ew3 ?_
        refine tb_Es (k := 1) (st' := (16, [(0, .ref a0), (1, .int a1), (2, .int a2), (3, .int a3), (4, .int a4)], [.ref a0], w3)) rfl ?_
        replace h := Option.bind_eq_some_iff.mp h
        obtain ⟨p4, ep4, h⟩ := h
        refine tb_e_gN rfl ep4 ?_
        refine tb_Es (k := 2) (st' := (19, [(0, .ref a0), (1, .int a1), (2, .int a2), (3, .int a3), (4, .int a4)], [.int a3, .int a1, .ref p4], w3)) rfl ?_
        replace h := Option.bind_eq_some_iff.mp h
        obtain ⟨w5, ew5, h⟩ := h
        refine tb_e_tI rfl ew5 ?_
        refine tb_Es (k := 1) (st' := (21, [(0, .ref a0), (1, .int a1), (2, .int a2), (3, .int a3), (4, .int a4)], [.ref a0], w5)) rfl ?_
        replace h := Option.bind_eq_some_iff.mp h
        obtain ⟨p6, ep6, h⟩ := h
        refine tb_e_gN rfl ep6 ?_
        refine tb_Es (k := 2) (st' := (24, [(0, .ref a0), (1, .int a1), (2, .int a2), (3, .int a3), (4, .int a4)], [.int a4, .int a1, .ref p6], w5)) rfl ?_
        replace h := Option.bind_eq_some_iff.mp h
        obtain ⟨w7, ew7, h⟩ := h
        refine tb_e_tI rfl ew7 ?_
        refine tb_Es (k := 2) (st' := (27, [(0, .ref a0), (1, .int a1), (2, .int a2), (3, .int a3), (4, .int a4)], [.ref a0, .ref a0], w7)) rfl ?_
        replace h := Option.bind_eq_some_iff.mp h
        obtain ⟨x8, ex8, h⟩ := h
        refine tb_e_gI rfl ex8 ?_
        refine tb_Es (k := 4) (st' := (32, [(0, .ref a0), (1, .int a1), (2, .int a2), (3, .int a3), (4, .int a4)], [.int (x8 ||| (1 <<< (a1 &&& 31))), .ref a0], w7)) rfl ?_
        replace h := Option.bind_eq_some_iff.mp h
        obtain ⟨w9, ew9, h⟩ := h
        refine tb_e_pI rfl ew9 ?_
        refine tb_Es (k := 2) (st' := (35, [(0, .ref a0), (1, .int a1), (2, .int a2), (3, .int a3), (4, .int a4)], [.ref a0, .ref a0], w9)) rfl ?_
        replace h := Option.bind_eq_some_iff.mp h
        obtain ⟨x10, ex10, h⟩ := h
        refine tb_e_gI rfl ex10 ?_
        refine tb_Es (k := 3) (st' := (39, [(0, .ref a0), (1, .int a1), (2, .int a2), (3, .int a3), (4, .int a4)], [.int (a1 + 1), .int x10, .ref a0], w9)) rfl ?_
        replace h := Option.bind_eq_some_iff.mp h
        obtain ⟨x11, ex11, h⟩ := h
        have hcall := ex11
        refine tb_e_cs (v := some (.int x11.1)) rfl rfl rfl (Nat.le_of_ble_eq_true rfl) rfl (Nat.le_of_ble_eq_true rfl) ((dc_ma_max hcall).up (by decide)) ?_
        replace h := Option.bind_eq_some_iff.mp h
        obtain ⟨w12, ew12, h⟩ := h
        refine tb_e_pI rfl ew12 ?_
        obtain rfl := Option.some.inj h
        subst hr
        exact tb_Er rfl rfl
      · rw [if_neg hc] at h
        obtain rfl := Option.some.inj h
        subst hr
        exact tb_Er rfl rfl
    · rw [if_neg hc] at h
      obtain rfl := Option.some.inj h
      subst hr
      exact tb_Er rfl rfl
/-! TannerBunting$Street.raise()V -/
def fb_s_raise (a0 : Nat) (w : tb_Hp) : Option (tb_Hp) := (tb_on 17 a0 w (fb_s_houses a0 w)).bind fun x1 => (tb_pI 17 5 a0 ((1 <<< (x1.1 &&& 31)) - 1) x1.2).bind fun w2 => some w2
set_option maxHeartbeats 4000000 in
set_option maxRecDepth 20000 in
theorem dc_s_raise {a0 : Nat} {w : tb_Hp} {o : tb_Hp} (h : fb_s_raise a0 w = some o) : tb_Ev tb_P 1 43 (0, tb_ent [.ref a0], [], w) (none, o) := by
  unfold fb_s_raise at h
  obtain ⟨r, hr⟩ : ∃ r : Option Value × tb_Hp, r = (none, o) := ⟨_, rfl⟩
  rw [← hr]
  show tb_Ev tb_P 1 43 (0, [(0, .ref a0)], [], w) r
  refine tb_Es (k := 3) (st' := (3, [(0, .ref a0)], [.ref a0, .int 1, .ref a0], w)) rfl ?_
  replace h := Option.bind_eq_some_iff.mp h
  obtain ⟨x1, ex1, h⟩ := h
  obtain ⟨hkx1, hcall⟩ := tb_on_some ex1
  refine tb_e_cv (v := some (.int x1.1)) rfl (Or.inl ⟨_, rfl⟩) rfl rfl (Nat.le_of_ble_eq_true rfl) rfl (Nat.le_of_ble_eq_true rfl) hkx1 ((dc_s_houses hcall).up (by decide)) ?_
  refine tb_Es (k := 3) (st' := (7, [(0, .ref a0)], [.int ((1 <<< (x1.1 &&& 31)) - 1), .ref a0], x1.2)) rfl ?_
  replace h := Option.bind_eq_some_iff.mp h
  obtain ⟨w2, ew2, h⟩ := h
  refine tb_e_pI rfl ew2 ?_
  obtain rfl := Option.some.inj h
  subst hr
  exact tb_Er rfl rfl
/-! TannerBunting$Scene.beginWith(LTannerBunting$Street;)V -/
def fb_sc_beginWith (a0 : Nat) (a1 : Nat) (w : tb_Hp) : Option (tb_Hp) := (tb_gN 15 0 a0 w).bind fun p1 => (tb_on 17 p1 w (fb_s_copyFrom p1 a1 w)).bind fun x2 => (tb_gN 15 1 a0 x2).bind fun p3 => (tb_on 17 p3 x2 (fb_s_copyFrom p3 a1 x2)).bind fun x4 => (tb_gN 15 2 a0 x4).bind fun p5 => (tb_pI 12 0 p5 0 x4).bind fun w6 => some w6
set_option maxHeartbeats 4000000 in
set_option maxRecDepth 20000 in
theorem dc_sc_beginWith {a0 : Nat} {a1 : Nat} {w : tb_Hp} {o : tb_Hp} (h : fb_sc_beginWith a0 a1 w = some o) : tb_Ev tb_P 1 44 (0, tb_ent [.ref a0, .ref a1], [], w) (none, o) := by
  unfold fb_sc_beginWith at h
  obtain ⟨r, hr⟩ : ∃ r : Option Value × tb_Hp, r = (none, o) := ⟨_, rfl⟩
  rw [← hr]
  show tb_Ev tb_P 1 44 (0, [(0, .ref a0), (1, .ref a1)], [], w) r
  refine tb_Es (k := 1) (st' := (1, [(0, .ref a0), (1, .ref a1)], [.ref a0], w)) rfl ?_
  replace h := Option.bind_eq_some_iff.mp h
  obtain ⟨p1, ep1, h⟩ := h
  refine tb_e_gN rfl ep1 ?_
  refine tb_Es (k := 1) (st' := (3, [(0, .ref a0), (1, .ref a1)], [.ref a1, .ref p1], w)) rfl ?_
  replace h := Option.bind_eq_some_iff.mp h
  obtain ⟨x2, ex2, h⟩ := h
  obtain ⟨hkx2, hcall⟩ := tb_on_some ex2
  refine tb_e_cv (v := none) rfl (Or.inl ⟨_, rfl⟩) rfl rfl (Nat.le_of_ble_eq_true rfl) rfl (Nat.le_of_ble_eq_true rfl) hkx2 ((dc_s_copyFrom hcall).up (by decide)) ?_
  refine tb_Es (k := 1) (st' := (5, [(0, .ref a0), (1, .ref a1)], [.ref a0], x2)) rfl ?_
  replace h := Option.bind_eq_some_iff.mp h
  obtain ⟨p3, ep3, h⟩ := h
  refine tb_e_gN rfl ep3 ?_
  refine tb_Es (k := 1) (st' := (7, [(0, .ref a0), (1, .ref a1)], [.ref a1, .ref p3], x2)) rfl ?_
  replace h := Option.bind_eq_some_iff.mp h
  obtain ⟨x4, ex4, h⟩ := h
  obtain ⟨hkx4, hcall⟩ := tb_on_some ex4
  refine tb_e_cv (v := none) rfl (Or.inl ⟨_, rfl⟩) rfl rfl (Nat.le_of_ble_eq_true rfl) rfl (Nat.le_of_ble_eq_true rfl) hkx4 ((dc_s_copyFrom hcall).up (by decide)) ?_
  refine tb_Es (k := 1) (st' := (9, [(0, .ref a0), (1, .ref a1)], [.ref a0], x4)) rfl ?_
  replace h := Option.bind_eq_some_iff.mp h
  obtain ⟨p5, ep5, h⟩ := h
  refine tb_e_gN rfl ep5 ?_
  refine tb_Es (k := 1) (st' := (11, [(0, .ref a0), (1, .ref a1)], [.int 0, .ref p5], x4)) rfl ?_
  replace h := Option.bind_eq_some_iff.mp h
  obtain ⟨w6, ew6, h⟩ := h
  refine tb_e_pI rfl ew6 ?_
  obtain rfl := Option.some.inj h
  subst hr
  exact tb_Er rfl rfl
