/-! TannerBunting$RuleReader.takePart()V -/
def fb_rr_takePart (a0 : Nat) (w : tb_Hp) : Option (tb_Hp) := (tb_gI 14 3 a0 w).bind fun x1 => (if x1 < 60 then (tb_gI 14 3 a0 w).bind fun x2 => (tb_pI 14 3 a0 (x2 + 1) w).bind fun w3 => (tb_gN 14 0 a0 w3).bind fun p4 => (tb_on 19 p4 w3 (fb_t_advance p4 w3)).bind fun x5 => some x5 else (tb_gN 14 0 a0 w).bind fun p6 => (tb_on 19 p6 w (fb_t_fail p6 3 w)).bind fun x7 => some x7)
set_option maxHeartbeats 4000000 in
set_option maxRecDepth 20000 in
theorem dc_rr_takePart {a0 : Nat} {w : tb_Hp} {o : tb_Hp} (h : fb_rr_takePart a0 w = some o) : tb_Ev tb_P 1 52 (0, tb_ent [.ref a0], [], w) (none, o) := by
  unfold fb_rr_takePart at h
  obtain ⟨r, hr⟩ : ∃ r : Option Value × tb_Hp, r = (none, o) := ⟨_, rfl⟩
  rw [← hr]
  show tb_Ev tb_P 1 52 (0, [(0, .ref a0)], [], w) r
  refine tb_Es (k := 1) (st' := (1, [(0, .ref a0)], [.ref a0], w)) rfl ?_
  replace h := Option.bind_eq_some_iff.mp h
  obtain ⟨x1, ex1, h⟩ := h
  refine tb_e_gI rfl ex1 ?_
  refine tb_Es (k := 1) (st' := (3, [(0, .ref a0)], [.int 60, .int x1], w)) rfl ?_
  refine tb_b_clt rfl (fun hc => ?_) (fun hc => ?_)
  · rw [if_pos hc] at h
    refine tb_Es (k := 2) (st' := (11, [(0, .ref a0)], [.ref a0, .ref a0], w)) rfl ?_
    replace h := Option.bind_eq_some_iff.mp h
    obtain ⟨x2, ex2, h⟩ := h
    refine tb_e_gI rfl ex2 ?_
    refine tb_Es (k := 2) (st' := (14, [(0, .ref a0)], [.int (x2 + 1), .ref a0], w)) rfl ?_
    replace h := Option.bind_eq_some_iff.mp h
    obtain ⟨w3, ew3, h⟩ := h
    refine tb_e_pI rfl ew3 ?_
    refine tb_Es (k := 1) (st' := (16, [(0, .ref a0)], [.ref a0], w3)) rfl ?_
    replace h := Option.bind_eq_some_iff.mp h
    obtain ⟨p4, ep4, h⟩ := h
    refine tb_e_gN rfl ep4 ?_
    replace h := Option.bind_eq_some_iff.mp h
    obtain ⟨x5, ex5, h⟩ := h
    obtain ⟨hkx5, hcall⟩ := tb_on_some ex5
    refine tb_e_cv (v := none) rfl (Or.inl ⟨_, rfl⟩) rfl rfl (Nat.le_of_ble_eq_true rfl) rfl (Nat.le_of_ble_eq_true rfl) hkx5 ((dc_t_advance hcall).up (by decide)) ?_
    obtain rfl := Option.some.inj h
    subst hr
    exact tb_Er rfl rfl
  · rw [if_neg hc] at h
    refine tb_Es (k := 1) (st' := (5, [(0, .ref a0)], [.ref a0], w)) rfl ?_
    replace h := Option.bind_eq_some_iff.mp h
    obtain ⟨p6, ep6, h⟩ := h
    refine tb_e_gN rfl ep6 ?_
    refine tb_Es (k := 1) (st' := (7, [(0, .ref a0)], [.int 3, .ref p6], w)) rfl ?_
    replace h := Option.bind_eq_some_iff.mp h
    obtain ⟨x7, ex7, h⟩ := h
    obtain ⟨hkx7, hcall⟩ := tb_on_some ex7
    refine tb_e_cv (v := none) rfl (Or.inl ⟨_, rfl⟩) rfl rfl (Nat.le_of_ble_eq_true rfl) rfl (Nat.le_of_ble_eq_true rfl) hkx7 ((dc_t_fail hcall).up (by decide)) ?_
    obtain rfl := Option.some.inj h
    subst hr
    exact tb_Er rfl rfl
/-! java/util/Arrays.copyOf([II)[I -/
def fb_ar_copyOf (a0 : Nat) (a1 : Int32) (w : tb_Hp) : Option (Nat × tb_Hp) := (tb_al a0 w).bind fun x1 => (if a1 = x1 then none else (tb_na 1 a1 w).bind fun w2 => (tb_al a0 w2).bind fun x3 => (fb_ma_min x3 a1 w2).bind fun x4 => (tb_cy x4.1 0 w.1.length 0 a0 x4.2).bind fun w5 => some (w.1.length, w5))
set_option maxHeartbeats 4000000 in
set_option maxRecDepth 20000 in
theorem dc_ar_copyOf {a0 : Nat} {a1 : Int32} {w : tb_Hp} {o : Nat × tb_Hp} (h : fb_ar_copyOf a0 a1 w = some o) : tb_Ev tb_P 1 57 (0, tb_ent [.ref a0, .int a1], [], w) (some (.ref o.1), o.2) := by
  unfold fb_ar_copyOf at h
  obtain ⟨r, hr⟩ : ∃ r : Option Value × tb_Hp, r = (some (.ref o.1), o.2) := ⟨_, rfl⟩
  rw [← hr]
  show tb_Ev tb_P 1 57 (0, [(0, .ref a0), (1, .int a1)], [], w) r
  refine tb_Es (k := 2) (st' := (2, [(0, .ref a0), (1, .int a1)], [.ref a0, .int a1], w)) rfl ?_
  replace h := Option.bind_eq_some_iff.mp h
  obtain ⟨x1, ex1, h⟩ := h
  refine tb_e_al rfl ex1 ?_
  refine tb_b_cne rfl (fun hc => ?_) (fun hc => ?_)
  · rw [if_pos hc] at h
    cases h
  · rw [if_neg hc] at h
    refine tb_Es (k := 1) (st' := (6, [(0, .ref a0), (1, .int a1)], [.int a1], w)) rfl ?_
    replace h := Option.bind_eq_some_iff.mp h
    obtain ⟨w2, ew2, h⟩ := h
    refine tb_e_na rfl (Or.inl ⟨_, rfl⟩) ew2 ?_
    refine tb_Es (k := 6) (st' := (13, [(2, .ref w.1.length), (0, .ref a0), (1, .int a1)], [.ref a0, .int 0, .ref w.1.length, .int 0, .ref a0], w2)) rfl ?_
    replace h := Option.bind_eq_some_iff.mp h
    obtain ⟨x3, ex3, h⟩ := h
    refine tb_e_al rfl ex3 ?_
    refine tb_Es (k := 1) (st' := (15, [(2, .ref w.1.length), (0, .ref a0), (1, .int a1)], [.int a1, .int x3, .int 0, .ref w.1.length, .int 0, .ref a0], w2)) rfl ?_
    replace h := Option.bind_eq_some_iff.mp h
    obtain ⟨x4, ex4, h⟩ := h
    have hcall := ex4
    refine tb_e_cs (v := some (.int x4.1)) rfl rfl rfl (Nat.le_of_ble_eq_true rfl) rfl (Nat.le_of_ble_eq_true rfl) ((dc_ma_min hcall).up (by decide)) ?_
    replace h := Option.bind_eq_some_iff.mp h
    obtain ⟨w5, ew5, h⟩ := h
    refine tb_e_cy rfl rfl ew5 ?_
    refine tb_Es (k := 1) (st' := (18, [(2, .ref w.1.length), (0, .ref a0), (1, .int a1)], [.ref w.1.length], w5)) rfl ?_
    obtain rfl := Option.some.inj h
    subst hr
    exact tb_Er rfl rfl
/-! TannerBunting$Street.leanOf(I)I -/
def fb_s_leanOf (a0 : Nat) (a1 : Int32) (w : tb_Hp) : Option (Int32 × tb_Hp) := (tb_on 17 a0 w (fb_s_isHouse a0 a1 w)).bind fun x1 => (if x1.1 = 0 then some (0, x1.2) else (tb_gN 17 6 a0 x1.2).bind fun p2 => (tb_lI [1, 9] p2 a1 x1.2).bind fun x3 => some (x3, x1.2))
set_option maxHeartbeats 4000000 in
set_option maxRecDepth 20000 in
theorem dc_s_leanOf {a0 : Nat} {a1 : Int32} {w : tb_Hp} {o : Int32 × tb_Hp} (h : fb_s_leanOf a0 a1 w = some o) : tb_Ev tb_P 1 60 (0, tb_ent [.ref a0, .int a1], [], w) (some (.int o.1), o.2) := by
  unfold fb_s_leanOf at h
  obtain ⟨r, hr⟩ : ∃ r : Option Value × tb_Hp, r = (some (.int o.1), o.2) := ⟨_, rfl⟩
  rw [← hr]
  show tb_Ev tb_P 1 60 (0, [(0, .ref a0), (1, .int a1)], [], w) r
  refine tb_Es (k := 2) (st' := (2, [(0, .ref a0), (1, .int a1)], [.int a1, .ref a0], w)) rfl ?_
  replace h := Option.bind_eq_some_iff.mp h
  obtain ⟨x1, ex1, h⟩ := h
  obtain ⟨hkx1, hcall⟩ := tb_on_some ex1
  refine tb_e_cv (v := some (.int x1.1)) rfl (Or.inl ⟨_, rfl⟩) rfl rfl (Nat.le_of_ble_eq_true rfl) rfl (Nat.le_of_ble_eq_true rfl) hkx1 ((dc_s_isHouse hcall).up (by decide)) ?_
  refine tb_b_ieq rfl (fun hc => ?_) (fun hc => ?_)
  · rw [if_pos hc] at h
    refine tb_Es (k := 1) (st' := (10, [(0, .ref a0), (1, .int a1)], [.int 0], x1.2)) rfl ?_
    obtain rfl := Option.some.inj h
    subst hr
    exact tb_Er rfl rfl
  · rw [if_neg hc] at h
    refine tb_Es (k := 1) (st' := (5, [(0, .ref a0), (1, .int a1)], [.ref a0], x1.2)) rfl ?_
    replace h := Option.bind_eq_some_iff.mp h
    obtain ⟨p2, ep2, h⟩ := h
    refine tb_e_gN rfl ep2 ?_
    refine tb_Es (k := 1) (st' := (7, [(0, .ref a0), (1, .int a1)], [.int a1, .ref p2], x1.2)) rfl ?_
    replace h := Option.bind_eq_some_iff.mp h
    obtain ⟨x3, ex3, h⟩ := h
    refine tb_e_lI rfl (Or.inl ⟨rfl, rfl⟩) ex3 ?_
    refine tb_Es (k := 1) (st' := (10, [(0, .ref a0), (1, .int a1)], [.int x3], x1.2)) rfl ?_
    obtain rfl := Option.some.inj h
    subst hr
    exact tb_Er rfl rfl
/-! TannerBunting$Street.footOf(I)I -/
def fb_s_footOf (a0 : Nat) (a1 : Int32) (w : tb_Hp) : Option (Int32 × tb_Hp) := (tb_on 17 a0 w (fb_s_isHouse a0 a1 w)).bind fun x1 => (if x1.1 = 0 then some (0, x1.2) else (tb_gN 17 7 a0 x1.2).bind fun p2 => (tb_lI [1, 9] p2 a1 x1.2).bind fun x3 => some (x3, x1.2))
set_option maxHeartbeats 4000000 in
set_option maxRecDepth 20000 in
theorem dc_s_footOf {a0 : Nat} {a1 : Int32} {w : tb_Hp} {o : Int32 × tb_Hp} (h : fb_s_footOf a0 a1 w = some o) : tb_Ev tb_P 1 61 (0, tb_ent [.ref a0, .int a1], [], w) (some (.int o.1), o.2) := by
  unfold fb_s_footOf at h
  obtain ⟨r, hr⟩ : ∃ r : Option Value × tb_Hp, r = (some (.int o.1), o.2) := ⟨_, rfl⟩
  rw [← hr]
  show tb_Ev tb_P 1 61 (0, [(0, .ref a0), (1, .int a1)], [], w) r
  refine tb_Es (k := 2) (st' := (2, [(0, .ref a0), (1, .int a1)], [.int a1, .ref a0], w)) rfl ?_
  replace h := Option.bind_eq_some_iff.mp h
  obtain ⟨x1, ex1, h⟩ := h
  obtain ⟨hkx1, hcall⟩ := tb_on_some ex1
  refine tb_e_cv (v := some (.int x1.1)) rfl (Or.inl ⟨_, rfl⟩) rfl rfl (Nat.le_of_ble_eq_true rfl) rfl (Nat.le_of_ble_eq_true rfl) hkx1 ((dc_s_isHouse hcall).up (by decide)) ?_
  refine tb_b_ieq rfl (fun hc => ?_) (fun hc => ?_)
  · rw [if_pos hc] at h
    refine tb_Es (k := 1) (st' := (10, [(0, .ref a0), (1, .int a1)], [.int 0], x1.2)) rfl ?_
    obtain rfl := Option.some.inj h
    subst hr
    exact tb_Er rfl rfl
  · rw [if_neg hc] at h
    refine tb_Es (k := 1) (st' := (5, [(0, .ref a0), (1, .int a1)], [.ref a0], x1.2)) rfl ?_
    replace h := Option.bind_eq_some_iff.mp h
    obtain ⟨p2, ep2, h⟩ := h
    refine tb_e_gN rfl ep2 ?_
    refine tb_Es (k := 1) (st' := (7, [(0, .ref a0), (1, .int a1)], [.int a1, .ref p2], x1.2)) rfl ?_
    replace h := Option.bind_eq_some_iff.mp h
    obtain ⟨x3, ex3, h⟩ := h
    refine tb_e_lI rfl (Or.inl ⟨rfl, rfl⟩) ex3 ?_
    refine tb_Es (k := 1) (st' := (10, [(0, .ref a0), (1, .int a1)], [.int x3], x1.2)) rfl ?_
    obtain rfl := Option.some.inj h
    subst hr
    exact tb_Er rfl rfl
/-! TannerBunting$Street.stands(I)Z -/
def fb_s_stands (a0 : Nat) (a1 : Int32) (w : tb_Hp) : Option (Int32 × tb_Hp) := (tb_on 17 a0 w (fb_s_isHouse a0 a1 w)).bind fun x1 => (if x1.1 = 0 then some (0, x1.2) else (tb_gI 17 5 a0 x1.2).bind fun x2 => (if ((x2 >>> (a1 &&& 31)) &&& 1) = 1 then some (1, x1.2) else some (0, x1.2)))
set_option maxHeartbeats 4000000 in
set_option maxRecDepth 20000 in
theorem dc_s_stands {a0 : Nat} {a1 : Int32} {w : tb_Hp} {o : Int32 × tb_Hp} (h : fb_s_stands a0 a1 w = some o) : tb_Ev tb_P 1 62 (0, tb_ent [.ref a0, .int a1], [], w) (some (.int o.1), o.2) := by
  unfold fb_s_stands at h
  obtain ⟨r, hr⟩ : ∃ r : Option Value × tb_Hp, r = (some (.int o.1), o.2) := ⟨_, rfl⟩
  rw [← hr]
  show tb_Ev tb_P 1 62 (0, [(0, .ref a0), (1, .int a1)], [], w) r
  refine tb_Es (k := 2) (st' := (2, [(0, .ref a0), (1, .int a1)], [.int a1, .ref a0], w)) rfl ?_
  replace h := Option.bind_eq_some_iff.mp h
  obtain ⟨x1, ex1, h⟩ := h
  obtain ⟨hkx1, hcall⟩ := tb_on_some ex1
  refine tb_e_cv (v := some (.int x1.1)) rfl (Or.inl ⟨_, rfl⟩) rfl rfl (Nat.le_of_ble_eq_true rfl) rfl (Nat.le_of_ble_eq_true rfl) hkx1 ((dc_s_isHouse hcall).up (by decide)) ?_
  refine tb_b_ieq rfl (fun hc => ?_) (fun hc => ?_)
  · rw [if_pos hc] at h
    refine tb_Es (k := 1) (st' := (15, [(0, .ref a0), (1, .int a1)], [.int 0], x1.2)) rfl ?_
    obtain rfl := Option.some.inj h
    subst hr
    exact tb_Er rfl rfl
  · rw [if_neg hc] at h
    refine tb_Es (k := 1) (st' := (5, [(0, .ref a0), (1, .int a1)], [.ref a0], x1.2)) rfl ?_
    replace h := Option.bind_eq_some_iff.mp h
    obtain ⟨x2, ex2, h⟩ := h
    refine tb_e_gI rfl ex2 ?_
    refine tb_Es (k := 5) (st' := (11, [(0, .ref a0), (1, .int a1)], [.int 1, .int ((x2 >>> (a1 &&& 31)) &&& 1)], x1.2)) rfl ?_
    refine tb_b_cne rfl (fun hc => ?_) (fun hc => ?_)
    · rw [if_pos hc] at h
      refine tb_Es (k := 2) (st' := (15, [(0, .ref a0), (1, .int a1)], [.int 1], x1.2)) rfl ?_
      obtain rfl := Option.some.inj h
      subst hr
      exact tb_Er rfl rfl
    · rw [if_neg hc] at h
      refine tb_Es (k := 1) (st' := (15, [(0, .ref a0), (1, .int a1)], [.int 0], x1.2)) rfl ?_
      obtain rfl := Option.some.inj h
      subst hr
      exact tb_Er rfl rfl
/-! TannerBunting$Street.endsOf(I)I -/
def fb_s_endsOf (a0 : Nat) (a1 : Int32) (w : tb_Hp) : Option (Int32 × tb_Hp) := (tb_on 17 a0 w (fb_s_isLine a0 a1 w)).bind fun x1 => (if x1.1 = 0 then some (0, x1.2) else (tb_gN 17 8 a0 x1.2).bind fun p2 => (tb_lI [1, 9] p2 a1 x1.2).bind fun x3 => (tb_gN 17 9 a0 x1.2).bind fun p4 => (tb_lI [1, 9] p4 a1 x1.2).bind fun x5 => some ((1 <<< (x3 &&& 31)) ||| (1 <<< (x5 &&& 31)), x1.2))
set_option maxHeartbeats 4000000 in
set_option maxRecDepth 20000 in
theorem dc_s_endsOf {a0 : Nat} {a1 : Int32} {w : tb_Hp} {o : Int32 × tb_Hp} (h : fb_s_endsOf a0 a1 w = some o) : tb_Ev tb_P 1 66 (0, tb_ent [.ref a0, .int a1], [], w) (some (.int o.1), o.2) := by
  unfold fb_s_endsOf at h
  obtain ⟨r, hr⟩ : ∃ r : Option Value × tb_Hp, r = (some (.int o.1), o.2) := ⟨_, rfl⟩
  rw [← hr]
  show tb_Ev tb_P 1 66 (0, [(0, .ref a0), (1, .int a1)], [], w) r
  refine tb_Es (k := 2) (st' := (2, [(0, .ref a0), (1, .int a1)], [.int a1, .ref a0], w)) rfl ?_
  replace h := Option.bind_eq_some_iff.mp h
  obtain ⟨x1, ex1, h⟩ := h
  obtain ⟨hkx1, hcall⟩ := tb_on_some ex1
  refine tb_e_cv (v := some (.int x1.1)) rfl (Or.inl ⟨_, rfl⟩) rfl rfl (Nat.le_of_ble_eq_true rfl) rfl (Nat.le_of_ble_eq_true rfl) hkx1 ((dc_s_isLine hcall).up (by decide)) ?_
  refine tb_b_ieq rfl (fun hc => ?_) (fun hc => ?_)
  · rw [if_pos hc] at h
    refine tb_Es (k := 1) (st' := (19, [(0, .ref a0), (1, .int a1)], [.int 0], x1.2)) rfl ?_
    obtain rfl := Option.some.inj h
    subst hr
    exact tb_Er rfl rfl
  · rw [if_neg hc] at h
    refine tb_Es (k := 2) (st' := (6, [(0, .ref a0), (1, .int a1)], [.ref a0, .int 1], x1.2)) rfl ?_
    replace h := Option.bind_eq_some_iff.mp h
    obtain ⟨p2, ep2, h⟩ := h
    refine tb_e_gN rfl ep2 ?_
    refine tb_Es (k := 1) (st' := (8, [(0, .ref a0), (1, .int a1)], [.int a1, .ref p2, .int 1], x1.2)) rfl ?_
    replace h := Option.bind_eq_some_iff.mp h
    obtain ⟨x3, ex3, h⟩ := h
    refine tb_e_lI rfl (Or.inl ⟨rfl, rfl⟩) ex3 ?_
    refine tb_Es (k := 3) (st' := (12, [(0, .ref a0), (1, .int a1)], [.ref a0, .int 1, .int (1 <<< (x3 &&& 31))], x1.2)) rfl ?_
    replace h := Option.bind_eq_some_iff.mp h
    obtain ⟨p4, ep4, h⟩ := h
    refine tb_e_gN rfl ep4 ?_
    refine tb_Es (k := 1) (st' := (14, [(0, .ref a0), (1, .int a1)], [.int a1, .ref p4, .int 1, .int (1 <<< (x3 &&& 31))], x1.2)) rfl ?_
    replace h := Option.bind_eq_some_iff.mp h
    obtain ⟨x5, ex5, h⟩ := h
    refine tb_e_lI rfl (Or.inl ⟨rfl, rfl⟩) ex5 ?_
    refine tb_Es (k := 3) (st' := (19, [(0, .ref a0), (1, .int a1)], [.int ((1 <<< (x3 &&& 31)) ||| (1 <<< (x5 &&& 31)))], x1.2)) rfl ?_
    obtain rfl := Option.some.inj h
    subst hr
    exact tb_Er rfl rfl
/-! TannerBunting$Street.oddOf(I)I -/
def fb_s_oddOf (a0 : Nat) (a1 : Int32) (w : tb_Hp) : Option (Int32 × tb_Hp) := (tb_on 17 a0 w (fb_s_isLine a0 a1 w)).bind fun x1 => (if x1.1 = 0 then some (-1, x1.2) else (tb_gN 17 8 a0 x1.2).bind fun p2 => (tb_lI [1, 9] p2 a1 x1.2).bind fun x3 => some (x3, x1.2))
set_option maxHeartbeats 4000000 in
set_option maxRecDepth 20000 in
theorem dc_s_oddOf {a0 : Nat} {a1 : Int32} {w : tb_Hp} {o : Int32 × tb_Hp} (h : fb_s_oddOf a0 a1 w = some o) : tb_Ev tb_P 1 69 (0, tb_ent [.ref a0, .int a1], [], w) (some (.int o.1), o.2) := by
  unfold fb_s_oddOf at h
  obtain ⟨r, hr⟩ : ∃ r : Option Value × tb_Hp, r = (some (.int o.1), o.2) := ⟨_, rfl⟩
  rw [← hr]
  show tb_Ev tb_P 1 69 (0, [(0, .ref a0), (1, .int a1)], [], w) r
  refine tb_Es (k := 2) (st' := (2, [(0, .ref a0), (1, .int a1)], [.int a1, .ref a0], w)) rfl ?_
  replace h := Option.bind_eq_some_iff.mp h
  obtain ⟨x1, ex1, h⟩ := h
  obtain ⟨hkx1, hcall⟩ := tb_on_some ex1
  refine tb_e_cv (v := some (.int x1.1)) rfl (Or.inl ⟨_, rfl⟩) rfl rfl (Nat.le_of_ble_eq_true rfl) rfl (Nat.le_of_ble_eq_true rfl) hkx1 ((dc_s_isLine hcall).up (by decide)) ?_
  refine tb_b_ieq rfl (fun hc => ?_) (fun hc => ?_)
  · rw [if_pos hc] at h
    refine tb_Es (k := 1) (st' := (10, [(0, .ref a0), (1, .int a1)], [.int (-1)], x1.2)) rfl ?_
    obtain rfl := Option.some.inj h
    subst hr
    exact tb_Er rfl rfl
  · rw [if_neg hc] at h
    refine tb_Es (k := 1) (st' := (5, [(0, .ref a0), (1, .int a1)], [.ref a0], x1.2)) rfl ?_
    replace h := Option.bind_eq_some_iff.mp h
    obtain ⟨p2, ep2, h⟩ := h
    refine tb_e_gN rfl ep2 ?_
    refine tb_Es (k := 1) (st' := (7, [(0, .ref a0), (1, .int a1)], [.int a1, .ref p2], x1.2)) rfl ?_
    replace h := Option.bind_eq_some_iff.mp h
    obtain ⟨x3, ex3, h⟩ := h
    refine tb_e_lI rfl (Or.inl ⟨rfl, rfl⟩) ex3 ?_
    refine tb_Es (k := 1) (st' := (10, [(0, .ref a0), (1, .int a1)], [.int x3], x1.2)) rfl ?_
    obtain rfl := Option.some.inj h
    subst hr
    exact tb_Er rfl rfl
/-! TannerBunting$Street.evenOf(I)I -/
def fb_s_evenOf (a0 : Nat) (a1 : Int32) (w : tb_Hp) : Option (Int32 × tb_Hp) := (tb_on 17 a0 w (fb_s_isLine a0 a1 w)).bind fun x1 => (if x1.1 = 0 then some (-1, x1.2) else (tb_gN 17 9 a0 x1.2).bind fun p2 => (tb_lI [1, 9] p2 a1 x1.2).bind fun x3 => some (x3, x1.2))
set_option maxHeartbeats 4000000 in
set_option maxRecDepth 20000 in
theorem dc_s_evenOf {a0 : Nat} {a1 : Int32} {w : tb_Hp} {o : Int32 × tb_Hp} (h : fb_s_evenOf a0 a1 w = some o) : tb_Ev tb_P 1 70 (0, tb_ent [.ref a0, .int a1], [], w) (some (.int o.1), o.2) := by
  unfold fb_s_evenOf at h
  obtain ⟨r, hr⟩ : ∃ r : Option Value × tb_Hp, r = (some (.int o.1), o.2) := ⟨_, rfl⟩
  rw [← hr]
  show tb_Ev tb_P 1 70 (0, [(0, .ref a0), (1, .int a1)], [], w) r
  refine tb_Es (k := 2) (st' := (2, [(0, .ref a0), (1, .int a1)], [.int a1, .ref a0], w)) rfl ?_
  replace h := Option.bind_eq_some_iff.mp h
  obtain ⟨x1, ex1, h⟩ := h
  obtain ⟨hkx1, hcall⟩ := tb_on_some ex1
  refine tb_e_cv (v := some (.int x1.1)) rfl (Or.inl ⟨_, rfl⟩) rfl rfl (Nat.le_of_ble_eq_true rfl) rfl (Nat.le_of_ble_eq_true rfl) hkx1 ((dc_s_isLine hcall).up (by decide)) ?_
  refine tb_b_ieq rfl (fun hc => ?_) (fun hc => ?_)
  · rw [if_pos hc] at h
    refine tb_Es (k := 1) (st' := (10, [(0, .ref a0), (1, .int a1)], [.int (-1)], x1.2)) rfl ?_
    obtain rfl := Option.some.inj h
    subst hr
    exact tb_Er rfl rfl
  · rw [if_neg hc] at h
    refine tb_Es (k := 1) (st' := (5, [(0, .ref a0), (1, .int a1)], [.ref a0], x1.2)) rfl ?_
    replace h := Option.bind_eq_some_iff.mp h
    obtain ⟨p2, ep2, h⟩ := h
    refine tb_e_gN rfl ep2 ?_
    refine tb_Es (k := 1) (st' := (7, [(0, .ref a0), (1, .int a1)], [.int a1, .ref p2], x1.2)) rfl ?_
    replace h := Option.bind_eq_some_iff.mp h
    obtain ⟨x3, ex3, h⟩ := h
    refine tb_e_lI rfl (Or.inl ⟨rfl, rfl⟩) ex3 ?_
    refine tb_Es (k := 1) (st' := (10, [(0, .ref a0), (1, .int a1)], [.int x3], x1.2)) rfl ?_
    obtain rfl := Option.some.inj h
    subst hr
    exact tb_Er rfl rfl
/-! TannerBunting$Street.pullOf(I)I -/
def fb_s_pullOf (a0 : Nat) (a1 : Int32) (w : tb_Hp) : Option (Int32 × tb_Hp) := (tb_on 17 a0 w (fb_s_isLine a0 a1 w)).bind fun x1 => (if x1.1 = 0 then some (0, x1.2) else (tb_gN 17 10 a0 x1.2).bind fun p2 => (tb_lI [1, 9] p2 a1 x1.2).bind fun x3 => some (x3, x1.2))
set_option maxHeartbeats 4000000 in
set_option maxRecDepth 20000 in
theorem dc_s_pullOf {a0 : Nat} {a1 : Int32} {w : tb_Hp} {o : Int32 × tb_Hp} (h : fb_s_pullOf a0 a1 w = some o) : tb_Ev tb_P 1 71 (0, tb_ent [.ref a0, .int a1], [], w) (some (.int o.1), o.2) := by
  unfold fb_s_pullOf at h
  obtain ⟨r, hr⟩ : ∃ r : Option Value × tb_Hp, r = (some (.int o.1), o.2) := ⟨_, rfl⟩
  rw [← hr]
  show tb_Ev tb_P 1 71 (0, [(0, .ref a0), (1, .int a1)], [], w) r
  refine tb_Es (k := 2) (st' := (2, [(0, .ref a0), (1, .int a1)], [.int a1, .ref a0], w)) rfl ?_
  replace h := Option.bind_eq_some_iff.mp h
  obtain ⟨x1, ex1, h⟩ := h
  obtain ⟨hkx1, hcall⟩ := tb_on_some ex1
  refine tb_e_cv (v := some (.int x1.1)) rfl (Or.inl ⟨_, rfl⟩) rfl rfl (Nat.le_of_ble_eq_true rfl) rfl (Nat.le_of_ble_eq_true rfl) hkx1 ((dc_s_isLine hcall).up (by decide)) ?_
  refine tb_b_ieq rfl (fun hc => ?_) (fun hc => ?_)
  · rw [if_pos hc] at h
    refine tb_Es (k := 1) (st' := (10, [(0, .ref a0), (1, .int a1)], [.int 0], x1.2)) rfl ?_
    obtain rfl := Option.some.inj h
    subst hr
    exact tb_Er rfl rfl
  · rw [if_neg hc] at h
    refine tb_Es (k := 1) (st' := (5, [(0, .ref a0), (1, .int a1)], [.ref a0], x1.2)) rfl ?_
    replace h := Option.bind_eq_some_iff.mp h
    obtain ⟨p2, ep2, h⟩ := h
    refine tb_e_gN rfl ep2 ?_
    refine tb_Es (k := 1) (st' := (7, [(0, .ref a0), (1, .int a1)], [.int a1, .ref p2], x1.2)) rfl ?_
    replace h := Option.bind_eq_some_iff.mp h
    obtain ⟨x3, ex3, h⟩ := h
    refine tb_e_lI rfl (Or.inl ⟨rfl, rfl⟩) ex3 ?_
    refine tb_Es (k := 1) (st' := (10, [(0, .ref a0), (1, .int a1)], [.int x3], x1.2)) rfl ?_
    obtain rfl := Option.some.inj h
    subst hr
    exact tb_Er rfl rfl
/-! TannerBunting$Past.keep(LTannerBunting$Street;)V -/
def fj_p_keep_j24 (v0 : Nat) (v1 : Nat) (w : tb_Hp) : Option (tb_Hp) := (tb_gN 13 2 v0 w).bind fun p14 => (tb_gI 13 1 v0 w).bind fun x15 => (tb_lQ p14 x15 w).bind fun x16 => (x16).bind fun q17 => (tb_on 17 q17 w (fb_s_copyFrom q17 v1 w)).bind fun x18 => (tb_gI 13 1 v0 x18).bind fun x19 => (tb_pI 13 1 v0 ((x19 + 1) - (x19 + 1) / 20 * 20) x18).bind fun w20 => (tb_gI 13 0 v0 w20).bind fun x21 => (fb_ma_min 20 (x21 + 1) w20).bind fun x22 => (tb_pI 13 0 v0 x22.1 x22.2).bind fun w23 => some w23
set_option maxHeartbeats 4000000 in
set_option maxRecDepth 20000 in
theorem dj_p_keep_j24 (v0 : Nat) (v1 : Nat) (w : tb_Hp) (o : tb_Hp) (h : fj_p_keep_j24 v0 v1 w = some o) (r : Option Value × tb_Hp) (hr : r = (none, o)) : tb_Ev tb_P 1 74 (25, [(0, .ref v0), (1, .ref v1)], [], w) r := by
  unfold fj_p_keep_j24 at h
  refine tb_Es (k := 1) (st' := (26, [(0, .ref v0), (1, .ref v1)], [.ref v0], w)) rfl ?_
  replace h := Option.bind_eq_some_iff.mp h
  obtain ⟨p14, ep14, h⟩ := h
  refine tb_e_gN rfl ep14 ?_
  refine tb_Es (k := 1) (st' := (28, [(0, .ref v0), (1, .ref v1)], [.ref v0, .ref p14], w)) rfl ?_
  replace h := Option.bind_eq_some_iff.mp h
  obtain ⟨x15, ex15, h⟩ := h
  refine tb_e_gI rfl ex15 ?_
  replace h := Option.bind_eq_some_iff.mp h
  obtain ⟨x16, ex16, h⟩ := h
  refine tb_e_lQ rfl ex16 ?_
  refine tb_Es (k := 1) (st' := (31, [(0, .ref v0), (1, .ref v1)], [.ref v1, va_rf x16], w)) rfl ?_
  replace h := Option.bind_eq_some_iff.mp h
  obtain ⟨q17, hq17, h⟩ := h
  subst hq17
  replace h := Option.bind_eq_some_iff.mp h
  obtain ⟨x18, ex18, h⟩ := h
  obtain ⟨hkx18, hcall⟩ := tb_on_some ex18
  refine tb_e_cv (v := none) rfl (Or.inl ⟨_, rfl⟩) rfl rfl (Nat.le_of_ble_eq_true rfl) rfl (Nat.le_of_ble_eq_true rfl) hkx18 ((dc_s_copyFrom hcall).up (by decide)) ?_
  refine tb_Es (k := 2) (st' := (34, [(0, .ref v0), (1, .ref v1)], [.ref v0, .ref v0], x18)) rfl ?_
  replace h := Option.bind_eq_some_iff.mp h
  obtain ⟨x19, ex19, h⟩ := h
  refine tb_e_gI rfl ex19 ?_
  refine tb_Es (k := 3) (st' := (38, [(0, .ref v0), (1, .ref v1)], [.int 20, .int (x19 + 1), .ref v0], x18)) rfl ?_
  refine tb_e_irem rfl (by decide) ?_
  replace h := Option.bind_eq_some_iff.mp h
  obtain ⟨w20, ew20, h⟩ := h
  refine tb_e_pI rfl ew20 ?_
  refine tb_Es (k := 3) (st' := (43, [(0, .ref v0), (1, .ref v1)], [.ref v0, .int 20, .ref v0], w20)) rfl ?_
  replace h := Option.bind_eq_some_iff.mp h
  obtain ⟨x21, ex21, h⟩ := h
  refine tb_e_gI rfl ex21 ?_
  refine tb_Es (k := 2) (st' := (46, [(0, .ref v0), (1, .ref v1)], [.int (x21 + 1), .int 20, .ref v0], w20)) rfl ?_
  replace h := Option.bind_eq_some_iff.mp h
  obtain ⟨x22, ex22, h⟩ := h
  have hcall := ex22
  refine tb_e_cs (v := some (.int x22.1)) rfl rfl rfl (Nat.le_of_ble_eq_true rfl) rfl (Nat.le_of_ble_eq_true rfl) ((dc_ma_min hcall).up (by decide)) ?_
  replace h := Option.bind_eq_some_iff.mp h
  obtain ⟨w23, ew23, h⟩ := h
  refine tb_e_pI rfl ew23 ?_
  obtain rfl := Option.some.inj h
  subst hr
  exact tb_Er rfl rfl
def fb_p_keep (a0 : Nat) (a1 : Nat) (w : tb_Hp) : Option (tb_Hp) := (tb_gI 13 1 a0 w).bind fun x1 => (if x1 < 0 then some w else (tb_gI 13 1 a0 w).bind fun x2 => (tb_gN 13 2 a0 w).bind fun p3 => (tb_al p3 w).bind fun x4 => (if x2 < x4 then (tb_gN 13 2 a0 w).bind fun p5 => (tb_gI 13 1 a0 w).bind fun x6 => (tb_lQ p5 x6 w).bind fun x7 => (match x7 with | none => (tb_gN 13 2 a0 w).bind fun p9 => (tb_gI 13 1 a0 w).bind fun x10 => (tb_on 17 w.1.length (tb_new w 17 12) (fb_s_init w.1.length (tb_new w 17 12))).bind fun x12 => (tb_tR tb_P.2.2.1 p9 x10 w.1.length x12).bind fun w13 => fj_p_keep_j24 a0 a1 w13 | some q8 => fj_p_keep_j24 a0 a1 w) else some w))
set_option maxHeartbeats 4000000 in
set_option maxRecDepth 20000 in
theorem dc_p_keep {a0 : Nat} {a1 : Nat} {w : tb_Hp} {o : tb_Hp} (h : fb_p_keep a0 a1 w = some o) : tb_Ev tb_P 1 74 (0, tb_ent [.ref a0, .ref a1], [], w) (none, o) := by
  unfold fb_p_keep at h
  obtain ⟨r, hr⟩ : ∃ r : Option Value × tb_Hp, r = (none, o) := ⟨_, rfl⟩
  rw [← hr]
  show tb_Ev tb_P 1 74 (0, [(0, .ref a0), (1, .ref a1)], [], w) r
  refine tb_Es (k := 1) (st' := (1, [(0, .ref a0), (1, .ref a1)], [.ref a0], w)) rfl ?_
  replace h := Option.bind_eq_some_iff.mp h
  obtain ⟨x1, ex1, h⟩ := h
  refine tb_e_gI rfl ex1 ?_
  refine tb_b_ilt rfl (fun hc => ?_) (fun hc => ?_)
  · rw [if_pos hc] at h
    obtain rfl := Option.some.inj h
    subst hr
    exact tb_Er rfl rfl
  · rw [if_neg hc] at h
    refine tb_Es (k := 1) (st' := (4, [(0, .ref a0), (1, .ref a1)], [.ref a0], w)) rfl ?_
    replace h := Option.bind_eq_some_iff.mp h
    obtain ⟨x2, ex2, h⟩ := h
    refine tb_e_gI rfl ex2 ?_
    refine tb_Es (k := 1) (st' := (6, [(0, .ref a0), (1, .ref a1)], [.ref a0, .int x2], w)) rfl ?_
    replace h := Option.bind_eq_some_iff.mp h
    obtain ⟨p3, ep3, h⟩ := h
    refine tb_e_gN rfl ep3 ?_
    replace h := Option.bind_eq_some_iff.mp h
    obtain ⟨x4, ex4, h⟩ := h
    refine tb_e_al rfl ex4 ?_
    refine tb_b_clt rfl (fun hc => ?_) (fun hc => ?_)
    · rw [if_pos hc] at h
      refine tb_Es (k := 1) (st' := (11, [(0, .ref a0), (1, .ref a1)], [.ref a0], w)) rfl ?_
      replace h := Option.bind_eq_some_iff.mp h
      obtain ⟨p5, ep5, h⟩ := h
      refine tb_e_gN rfl ep5 ?_
      refine tb_Es (k := 1) (st' := (13, [(0, .ref a0), (1, .ref a1)], [.ref a0, .ref p5], w)) rfl ?_
      replace h := Option.bind_eq_some_iff.mp h
      obtain ⟨x6, ex6, h⟩ := h
      refine tb_e_gI rfl ex6 ?_
      replace h := Option.bind_eq_some_iff.mp h
      obtain ⟨x7, ex7, h⟩ := h
      refine tb_e_lQ rfl ex7 ?_
      refine tb_b_nonnull rfl (fun hc => ?_) (fun q8 hc => ?_)
      · subst hc
        dsimp only at h
        refine tb_Es (k := 1) (st' := (17, [(0, .ref a0), (1, .ref a1)], [.ref a0], w)) rfl ?_
        replace h := Option.bind_eq_some_iff.mp h
        obtain ⟨p9, ep9, h⟩ := h
        refine tb_e_gN rfl ep9 ?_
        refine tb_Es (k := 1) (st' := (19, [(0, .ref a0), (1, .ref a1)], [.ref a0, .ref p9], w)) rfl ?_
        replace h := Option.bind_eq_some_iff.mp h
        obtain ⟨x10, ex10, h⟩ := h
        refine tb_e_gI rfl ex10 ?_
        refine tb_Es (k := 2) (st' := (22, [(0, .ref a0), (1, .ref a1)], [.ref w.1.length, .ref w.1.length, .int x10, .ref p9], (tb_new w 17 12))) rfl ?_
        replace h := Option.bind_eq_some_iff.mp h
        obtain ⟨x12, ex12, h⟩ := h
        obtain ⟨hkx12, hcall⟩ := tb_on_some ex12
        refine tb_e_cv (v := none) rfl (Or.inr ⟨_, rfl⟩) rfl rfl (Nat.le_of_ble_eq_true rfl) rfl (Nat.le_of_ble_eq_true rfl) hkx12 ((dc_s_init hcall).up (by decide)) ?_
        replace h := Option.bind_eq_some_iff.mp h
        obtain ⟨w13, ew13, h⟩ := h
        refine tb_e_tR rfl ew13 ?_
        refine tb_Es (k := 1) (st' := (25, [(0, .ref a0), (1, .ref a1)], [], w13)) rfl ?_
        exact dj_p_keep_j24 a0 a1 w13 _ h r hr
      · subst hc
        dsimp only at h
        refine tb_Es (k := 1) (st' := (25, [(0, .ref a0), (1, .ref a1)], [], w)) rfl ?_
        exact dj_p_keep_j24 a0 a1 w _ h r hr
    · rw [if_neg hc] at h
      obtain rfl := Option.some.inj h
      subst hr
      exact tb_Er rfl rfl
/-! TannerBunting.ruleInForce()[I -/
def fb_x_ruleInForce (a0 : Nat) (w : tb_Hp) : Option (Option Nat × tb_Hp) := (tb_gN 21 3 a0 w).bind fun p1 => (tb_gN 21 5 a0 w).bind fun p2 => (tb_gI 15 3 p2 w).bind fun x3 => (fb_x_codeOf p1 x3 w).bind fun x4 => some (x4.1, x4.2)
set_option maxHeartbeats 4000000 in
set_option maxRecDepth 20000 in
theorem dc_x_ruleInForce {a0 : Nat} {w : tb_Hp} {o : Option Nat × tb_Hp} (h : fb_x_ruleInForce a0 w = some o) : tb_Ev tb_P 1 75 (0, tb_ent [.ref a0], [], w) (some (va_rf o.1), o.2) := by
  unfold fb_x_ruleInForce at h
  obtain ⟨r, hr⟩ : ∃ r : Option Value × tb_Hp, r = (some (va_rf o.1), o.2) := ⟨_, rfl⟩
  rw [← hr]
  show tb_Ev tb_P 1 75 (0, [(0, .ref a0)], [], w) r
  refine tb_Es (k := 1) (st' := (1, [(0, .ref a0)], [.ref a0], w)) rfl ?_
  replace h := Option.bind_eq_some_iff.mp h
  obtain ⟨p1, ep1, h⟩ := h
  refine tb_e_gN rfl ep1 ?_
  refine tb_Es (k := 1) (st' := (3, [(0, .ref a0)], [.ref a0, .ref p1], w)) rfl ?_
  replace h := Option.bind_eq_some_iff.mp h
  obtain ⟨p2, ep2, h⟩ := h
  refine tb_e_gN rfl ep2 ?_
  replace h := Option.bind_eq_some_iff.mp h
  obtain ⟨x3, ex3, h⟩ := h
  refine tb_e_gI rfl ex3 ?_
  replace h := Option.bind_eq_some_iff.mp h
  obtain ⟨x4, ex4, h⟩ := h
  have hcall := ex4
  refine tb_e_cs (v := some (va_rf x4.1)) rfl rfl rfl (Nat.le_of_ble_eq_true rfl) rfl (Nat.le_of_ble_eq_true rfl) ((dc_x_codeOf hcall).up (by decide)) ?_
  obtain rfl := Option.some.inj h
  subst hr
  exact tb_r_q rfl
/-! TannerBunting$Street.fade()V -/
def fl_s_fade_2 : Nat → Nat → Int32 → tb_Hp → Option (tb_Hp)
  | 0, _, _, _ => none
  | n + 1, v0, v1, w => (tb_gI 17 3 v0 w).bind fun x1 => (if v1 < x1 then (tb_on 17 v0 w (fb_s_isUp v0 v1 w)).bind fun x2 => (if x2.1 = 0 then fl_s_fade_2 n v0 (v1 + 1) x2.2 else (tb_gN 17 10 v0 x2.2).bind fun p3 => (tb_lI [1, 9] p3 v1 x2.2).bind fun x4 => (tb_gI 17 1 v0 x2.2).bind fun x5 => (tb_tI p3 v1 (x4 - x5) x2.2).bind fun w6 => (tb_gN 17 10 v0 w6).bind fun p7 => (tb_lI [1, 9] p7 v1 w6).bind fun x8 => (if x8 ≤ 0 then (tb_gI 17 4 v0 w6).bind fun x9 => (tb_pI 17 4 v0 (x9 &&& ((1 <<< (v1 &&& 31)) ^^^ (-1))) w6).bind fun w10 => fl_s_fade_2 n v0 (v1 + 1) w10 else fl_s_fade_2 n v0 (v1 + 1) w6)) else some (w))
set_option maxHeartbeats 4000000 in
set_option maxRecDepth 20000 in
theorem dl_s_fade_2 : ∀ (n : Nat) (v0 : Nat) (v1 : Int32) (w : tb_Hp) (o : tb_Hp), fl_s_fade_2 n v0 v1 w = some o → ∀ (r : Option Value × tb_Hp), tb_Ev tb_P 1 85 (38, [], [], o) r → tb_Ev tb_P 1 85 (3, [(0, .ref v0), (1, .int v1)], [], w) r := by
  intro n
  induction n with
  | zero =>
    intro v0 v1 w o h
    cases h
  | succ n ih =>
    intro v0 v1 w o h r hx
    unfold fl_s_fade_2 at h
    refine tb_Es (k := 2) (st' := (5, [(0, .ref v0), (1, .int v1)], [.ref v0, .int v1], w)) rfl ?_
    replace h := Option.bind_eq_some_iff.mp h
    obtain ⟨x1, ex1, h⟩ := h
    refine tb_e_gI rfl ex1 ?_
    refine tb_b_cge rfl (fun hc => ?_) (fun hc => ?_)
    · rw [if_pos hc] at h
      refine tb_Es (k := 2) (st' := (9, [(0, .ref v0), (1, .int v1)], [.int v1, .ref v0], w)) rfl ?_
      replace h := Option.bind_eq_some_iff.mp h
      obtain ⟨x2, ex2, h⟩ := h
      obtain ⟨hkx2, hcall⟩ := tb_on_some ex2
      refine tb_e_cv (v := some (.int x2.1)) rfl (Or.inl ⟨_, rfl⟩) rfl rfl (Nat.le_of_ble_eq_true rfl) rfl (Nat.le_of_ble_eq_true rfl) hkx2 ((dc_s_isUp hcall).up (by decide)) ?_
      refine tb_b_ieq rfl (fun hc => ?_) (fun hc => ?_)
      · rw [if_pos hc] at h
        refine tb_Es (k := 3) (st' := (3, [(0, .ref v0), (1, .int (v1 + 1))], [], x2.2)) rfl ?_
        exact ih v0 (v1 + 1) x2.2 _ h r hx
      · rw [if_neg hc] at h
        refine tb_Es (k := 1) (st' := (12, [(0, .ref v0), (1, .int v1)], [.ref v0], x2.2)) rfl ?_
        replace h := Option.bind_eq_some_iff.mp h
        obtain ⟨p3, ep3, h⟩ := h
        refine tb_e_gN rfl ep3 ?_
        refine tb_Es (k := 2) (st' := (15, [(0, .ref v0), (1, .int v1)], [.int v1, .ref p3, .int v1, .ref p3], x2.2)) rfl ?_
        replace h := Option.bind_eq_some_iff.mp h
        obtain ⟨x4, ex4, h⟩ := h
        refine tb_e_lI rfl (Or.inl ⟨rfl, rfl⟩) ex4 ?_
        refine tb_Es (k := 1) (st' := (17, [(0, .ref v0), (1, .int v1)], [.ref v0, .int x4, .int v1, .ref p3], x2.2)) rfl ?_
        replace h := Option.bind_eq_some_iff.mp h
        obtain ⟨x5, ex5, h⟩ := h
        refine tb_e_gI rfl ex5 ?_
        refine tb_Es (k := 1) (st' := (19, [(0, .ref v0), (1, .int v1)], [.int (x4 - x5), .int v1, .ref p3], x2.2)) rfl ?_
        replace h := Option.bind_eq_some_iff.mp h
        obtain ⟨w6, ew6, h⟩ := h
        refine tb_e_tI rfl ew6 ?_
        refine tb_Es (k := 1) (st' := (21, [(0, .ref v0), (1, .int v1)], [.ref v0], w6)) rfl ?_
        replace h := Option.bind_eq_some_iff.mp h
        obtain ⟨p7, ep7, h⟩ := h
        refine tb_e_gN rfl ep7 ?_
        refine tb_Es (k := 1) (st' := (23, [(0, .ref v0), (1, .int v1)], [.int v1, .ref p7], w6)) rfl ?_
        replace h := Option.bind_eq_some_iff.mp h
        obtain ⟨x8, ex8, h⟩ := h
        refine tb_e_lI rfl (Or.inl ⟨rfl, rfl⟩) ex8 ?_
        refine tb_b_igt rfl (fun hc => ?_) (fun hc => ?_)
        · rw [if_pos hc] at h
          refine tb_Es (k := 2) (st' := (27, [(0, .ref v0), (1, .int v1)], [.ref v0, .ref v0], w6)) rfl ?_
          replace h := Option.bind_eq_some_iff.mp h
          obtain ⟨x9, ex9, h⟩ := h
          refine tb_e_gI rfl ex9 ?_
          refine tb_Es (k := 6) (st' := (34, [(0, .ref v0), (1, .int v1)], [.int (x9 &&& ((1 <<< (v1 &&& 31)) ^^^ (-1))), .ref v0], w6)) rfl ?_
          replace h := Option.bind_eq_some_iff.mp h
          obtain ⟨w10, ew10, h⟩ := h
          refine tb_e_pI rfl ew10 ?_
          refine tb_Es (k := 3) (st' := (3, [(0, .ref v0), (1, .int (v1 + 1))], [], w10)) rfl ?_
          exact ih v0 (v1 + 1) w10 _ h r hx
        · rw [if_neg hc] at h
          refine tb_Es (k := 3) (st' := (3, [(0, .ref v0), (1, .int (v1 + 1))], [], w6)) rfl ?_
          exact ih v0 (v1 + 1) w6 _ h r hx
    · rw [if_neg hc] at h
      refine tb_Es (k := 1) (st' := (38, [], [], w)) rfl ?_
      obtain rfl := Option.some.inj h
      exact hx
def fb_s_fade (a0 : Nat) (w : tb_Hp) : Option (tb_Hp) := (fl_s_fade_2 1048576 a0 0 w).bind fun o11 => some o11
set_option maxHeartbeats 4000000 in
set_option maxRecDepth 20000 in
theorem dc_s_fade {a0 : Nat} {w : tb_Hp} {o : tb_Hp} (h : fb_s_fade a0 w = some o) : tb_Ev tb_P 1 85 (0, tb_ent [.ref a0], [], w) (none, o) := by
  unfold fb_s_fade at h
  obtain ⟨r, hr⟩ : ∃ r : Option Value × tb_Hp, r = (none, o) := ⟨_, rfl⟩
  rw [← hr]
  show tb_Ev tb_P 1 85 (0, [(0, .ref a0)], [], w) r
  refine tb_Es (k := 3) (st' := (3, [(0, .ref a0), (1, .int 0)], [], w)) rfl ?_
  replace h := Option.bind_eq_some_iff.mp h
  obtain ⟨o11, eo11, h⟩ := h
  refine dl_s_fade_2 _ a0 0 w _ eo11 r ?_
  obtain rfl := Option.some.inj h
  subst hr
  exact tb_Er rfl rfl
/-! TannerBunting$Street.weighAll()V -/
def fl_s_weighAll_10 : Nat → Nat → Int32 → tb_Hp → Option (tb_Hp)
  | 0, _, _, _ => none
  | n + 1, v0, v1, w => (tb_gI 17 3 v0 w).bind fun x4 => (if v1 < x4 then (tb_on 17 v0 w (fb_s_isUp v0 v1 w)).bind fun x5 => (if x5.1 = 0 then fl_s_weighAll_10 n v0 (v1 + 1) x5.2 else (tb_gN 17 8 v0 x5.2).bind fun p6 => (tb_lI [1, 9] p6 v1 x5.2).bind fun x7 => (tb_on 17 v0 x5.2 (fb_s_isHouse v0 x7 x5.2)).bind fun x8 => (if x8.1 = 0 then fl_s_weighAll_10 n v0 (v1 + 1) x8.2 else (tb_gN 17 9 v0 x8.2).bind fun p9 => (tb_lI [1, 9] p9 v1 x8.2).bind fun x10 => (tb_on 17 v0 x8.2 (fb_s_isHouse v0 x10 x8.2)).bind fun x11 => (if x11.1 = 0 then fl_s_weighAll_10 n v0 (v1 + 1) x11.2 else (tb_gN 17 11 v0 x11.2).bind fun p12 => (tb_gN 17 8 v0 x11.2).bind fun p13 => (tb_lI [1, 9] p13 v1 x11.2).bind fun x14 => (tb_lI [1, 9] p12 x14 x11.2).bind fun x15 => (tb_gN 17 10 v0 x11.2).bind fun p16 => (tb_lI [1, 9] p16 v1 x11.2).bind fun x17 => (tb_tI p12 x14 (x15 + x17) x11.2).bind fun w18 => (tb_gN 17 11 v0 w18).bind fun p19 => (tb_gN 17 9 v0 w18).bind fun p20 => (tb_lI [1, 9] p20 v1 w18).bind fun x21 => (tb_lI [1, 9] p19 x21 w18).bind fun x22 => (tb_gN 17 10 v0 w18).bind fun p23 => (tb_lI [1, 9] p23 v1 w18).bind fun x24 => (tb_tI p19 x21 (x22 + x24) w18).bind fun w25 => fl_s_weighAll_10 n v0 (v1 + 1) w25))) else some (w))
set_option maxHeartbeats 4000000 in
set_option maxRecDepth 20000 in
theorem dl_s_weighAll_10 : ∀ (n : Nat) (v0 : Nat) (v1 : Int32) (w : tb_Hp) (o : tb_Hp), fl_s_weighAll_10 n v0 v1 w = some o → ∀ (r : Option Value × tb_Hp), tb_Ev tb_P 1 88 (64, [], [], o) r → tb_Ev tb_P 1 88 (11, [(0, .ref v0), (1, .int v1)], [], w) r := by
  intro n
  induction n with
  | zero =>
    intro v0 v1 w o h
    cases h
  | succ n ih =>
    intro v0 v1 w o h r hx
    unfold fl_s_weighAll_10 at h
    refine tb_Es (k := 2) (st' := (13, [(0, .ref v0), (1, .int v1)], [.ref v0, .int v1], w)) rfl ?_
    replace h := Option.bind_eq_some_iff.mp h
    obtain ⟨x4, ex4, h⟩ := h
    refine tb_e_gI rfl ex4 ?_
    refine tb_b_cge rfl (fun hc => ?_) (fun hc => ?_)
    · rw [if_pos hc] at h
      refine tb_Es (k := 2) (st' := (17, [(0, .ref v0), (1, .int v1)], [.int v1, .ref v0], w)) rfl ?_
      replace h := Option.bind_eq_some_iff.mp h
      obtain ⟨x5, ex5, h⟩ := h
      obtain ⟨hkx5, hcall⟩ := tb_on_some ex5
      refine tb_e_cv (v := some (.int x5.1)) rfl (Or.inl ⟨_, rfl⟩) rfl rfl (Nat.le_of_ble_eq_true rfl) rfl (Nat.le_of_ble_eq_true rfl) hkx5 ((dc_s_isUp hcall).up (by decide)) ?_
      refine tb_b_ieq rfl (fun hc => ?_) (fun hc => ?_)
      · rw [if_pos hc] at h
        refine tb_Es (k := 3) (st' := (11, [(0, .ref v0), (1, .int (v1 + 1))], [], x5.2)) rfl ?_
        exact ih v0 (v1 + 1) x5.2 _ h r hx
      · rw [if_neg hc] at h
        refine tb_Es (k := 2) (st' := (21, [(0, .ref v0), (1, .int v1)], [.ref v0, .ref v0], x5.2)) rfl ?_
        replace h := Option.bind_eq_some_iff.mp h
        obtain ⟨p6, ep6, h⟩ := h
        refine tb_e_gN rfl ep6 ?_
        refine tb_Es (k := 1) (st' := (23, [(0, .ref v0), (1, .int v1)], [.int v1, .ref p6, .ref v0], x5.2)) rfl ?_
        replace h := Option.bind_eq_some_iff.mp h
        obtain ⟨x7, ex7, h⟩ := h
        refine tb_e_lI rfl (Or.inl ⟨rfl, rfl⟩) ex7 ?_
        replace h := Option.bind_eq_some_iff.mp h
        obtain ⟨x8, ex8, h⟩ := h
        obtain ⟨hkx8, hcall⟩ := tb_on_some ex8
        refine tb_e_cv (v := some (.int x8.1)) rfl (Or.inl ⟨_, rfl⟩) rfl rfl (Nat.le_of_ble_eq_true rfl) rfl (Nat.le_of_ble_eq_true rfl) hkx8 ((dc_s_isHouse hcall).up (by decide)) ?_
        refine tb_b_ieq rfl (fun hc => ?_) (fun hc => ?_)
        · rw [if_pos hc] at h
          refine tb_Es (k := 3) (st' := (11, [(0, .ref v0), (1, .int (v1 + 1))], [], x8.2)) rfl ?_
          exact ih v0 (v1 + 1) x8.2 _ h r hx
        · rw [if_neg hc] at h
          refine tb_Es (k := 2) (st' := (28, [(0, .ref v0), (1, .int v1)], [.ref v0, .ref v0], x8.2)) rfl ?_
          replace h := Option.bind_eq_some_iff.mp h
          obtain ⟨p9, ep9, h⟩ := h
          refine tb_e_gN rfl ep9 ?_
          refine tb_Es (k := 1) (st' := (30, [(0, .ref v0), (1, .int v1)], [.int v1, .ref p9, .ref v0], x8.2)) rfl ?_
          replace h := Option.bind_eq_some_iff.mp h
          obtain ⟨x10, ex10, h⟩ := h
          refine tb_e_lI rfl (Or.inl ⟨rfl, rfl⟩) ex10 ?_
          replace h := Option.bind_eq_some_iff.mp h
          obtain ⟨x11, ex11, h⟩ := h
          obtain ⟨hkx11, hcall⟩ := tb_on_some ex11
          refine tb_e_cv (v := some (.int x11.1)) rfl (Or.inl ⟨_, rfl⟩) rfl rfl (Nat.le_of_ble_eq_true rfl) rfl (Nat.le_of_ble_eq_true rfl) hkx11 ((dc_s_isHouse hcall).up (by decide)) ?_
          refine tb_b_ieq rfl (fun hc => ?_) (fun hc => ?_)
          · rw [if_pos hc] at h
            refine tb_Es (k := 3) (st' := (11, [(0, .ref v0), (1, .int (v1 + 1))], [], x11.2)) rfl ?_
            exact ih v0 (v1 + 1) x11.2 _ h r hx
          · rw [if_neg hc] at h
            refine tb_Es (k := 1) (st' := (34, [(0, .ref v0), (1, .int v1)], [.ref v0], x11.2)) rfl ?_
            replace h := Option.bind_eq_some_iff.mp h
            obtain ⟨p12, ep12, h⟩ := h
            refine tb_e_gN rfl ep12 ?_
            refine tb_Es (k := 1) (st' := (36, [(0, .ref v0), (1, .int v1)], [.ref v0, .ref p12], x11.2)) rfl ?_
            replace h := Option.bind_eq_some_iff.mp h
            obtain ⟨p13, ep13, h⟩ := h
            refine tb_e_gN rfl ep13 ?_
            refine tb_Es (k := 1) (st' := (38, [(0, .ref v0), (1, .int v1)], [.int v1, .ref p13, .ref p12], x11.2)) rfl ?_
            replace h := Option.bind_eq_some_iff.mp h
            obtain ⟨x14, ex14, h⟩ := h
            refine tb_e_lI rfl (Or.inl ⟨rfl, rfl⟩) ex14 ?_
            refine tb_Es (k := 1) (st' := (40, [(0, .ref v0), (1, .int v1)], [.int x14, .ref p12, .int x14, .ref p12], x11.2)) rfl ?_
            replace h := Option.bind_eq_some_iff.mp h
            obtain ⟨x15, ex15, h⟩ := h
            refine tb_e_lI rfl (Or.inl ⟨rfl, rfl⟩) ex15 ?_
            refine tb_Es (k := 1) (st' := (42, [(0, .ref v0), (1, .int v1)], [.ref v0, .int x15, .int x14, .ref p12], x11.2)) rfl ?_
            replace h := Option.bind_eq_some_iff.mp h
            obtain ⟨p16, ep16, h⟩ := h
            refine tb_e_gN rfl ep16 ?_
            refine tb_Es (k := 1) (st' := (44, [(0, .ref v0), (1, .int v1)], [.int v1, .ref p16, .int x15, .int x14, .ref p12], x11.2)) rfl ?_
            replace h := Option.bind_eq_some_iff.mp h
            obtain ⟨x17, ex17, h⟩ := h
            refine tb_e_lI rfl (Or.inl ⟨rfl, rfl⟩) ex17 ?_
            refine tb_Es (k := 1) (st' := (46, [(0, .ref v0), (1, .int v1)], [.int (x15 + x17), .int x14, .ref p12], x11.2)) rfl ?_
            replace h := Option.bind_eq_some_iff.mp h
            obtain ⟨w18, ew18, h⟩ := h
            refine tb_e_tI rfl ew18 ?_
            refine tb_Es (k := 1) (st' := (48, [(0, .ref v0), (1, .int v1)], [.ref v0], w18)) rfl ?_
            replace h := Option.bind_eq_some_iff.mp h
            obtain ⟨p19, ep19, h⟩ := h
            refine tb_e_gN rfl ep19 ?_
            refine tb_Es (k := 1) (st' := (50, [(0, .ref v0), (1, .int v1)], [.ref v0, .ref p19], w18)) rfl ?_
            replace h := Option.bind_eq_some_iff.mp h
            obtain ⟨p20, ep20, h⟩ := h
            refine tb_e_gN rfl ep20 ?_
            refine tb_Es (k := 1) (st' := (52, [(0, .ref v0), (1, .int v1)], [.int v1, .ref p20, .ref p19], w18)) rfl ?_
            replace h := Option.bind_eq_some_iff.mp h
            obtain ⟨x21, ex21, h⟩ := h
            refine tb_e_lI rfl (Or.inl ⟨rfl, rfl⟩) ex21 ?_
            refine tb_Es (k := 1) (st' := (54, [(0, .ref v0), (1, .int v1)], [.int x21, .ref p19, .int x21, .ref p19], w18)) rfl ?_
            replace h := Option.bind_eq_some_iff.mp h
            obtain ⟨x22, ex22, h⟩ := h
            refine tb_e_lI rfl (Or.inl ⟨rfl, rfl⟩) ex22 ?_
            refine tb_Es (k := 1) (st' := (56, [(0, .ref v0), (1, .int v1)], [.ref v0, .int x22, .int x21, .ref p19], w18)) rfl ?_
            replace h := Option.bind_eq_some_iff.mp h
            obtain ⟨p23, ep23, h⟩ := h
            refine tb_e_gN rfl ep23 ?_
            refine tb_Es (k := 1) (st' := (58, [(0, .ref v0), (1, .int v1)], [.int v1, .ref p23, .int x22, .int x21, .ref p19], w18)) rfl ?_
            replace h := Option.bind_eq_some_iff.mp h
            obtain ⟨x24, ex24, h⟩ := h
            refine tb_e_lI rfl (Or.inl ⟨rfl, rfl⟩) ex24 ?_
            refine tb_Es (k := 1) (st' := (60, [(0, .ref v0), (1, .int v1)], [.int (x22 + x24), .int x21, .ref p19], w18)) rfl ?_
            replace h := Option.bind_eq_some_iff.mp h
            obtain ⟨w25, ew25, h⟩ := h
            refine tb_e_tI rfl ew25 ?_
            refine tb_Es (k := 3) (st' := (11, [(0, .ref v0), (1, .int (v1 + 1))], [], w25)) rfl ?_
            exact ih v0 (v1 + 1) w25 _ h r hx
    · rw [if_neg hc] at h
      refine tb_Es (k := 1) (st' := (64, [], [], w)) rfl ?_
      obtain rfl := Option.some.inj h
      exact hx
def fb_s_weighAll (a0 : Nat) (w : tb_Hp) : Option (tb_Hp) := (tb_gN 17 7 a0 w).bind fun p1 => (tb_gN 17 11 a0 w).bind fun p2 => (tb_cy 10 0 p2 0 p1 w).bind fun w3 => (fl_s_weighAll_10 1048576 a0 0 w3).bind fun o26 => some o26
set_option maxHeartbeats 4000000 in
set_option maxRecDepth 20000 in
theorem dc_s_weighAll {a0 : Nat} {w : tb_Hp} {o : tb_Hp} (h : fb_s_weighAll a0 w = some o) : tb_Ev tb_P 1 88 (0, tb_ent [.ref a0], [], w) (none, o) := by
  unfold fb_s_weighAll at h
  obtain ⟨r, hr⟩ : ∃ r : Option Value × tb_Hp, r = (none, o) := ⟨_, rfl⟩
  rw [← hr]
  show tb_Ev tb_P 1 88 (0, [(0, .ref a0)], [], w) r
  refine tb_Es (k := 1) (st' := (1, [(0, .ref a0)], [.ref a0], w)) rfl ?_
  replace h := Option.bind_eq_some_iff.mp h
  obtain ⟨p1, ep1, h⟩ := h
  refine tb_e_gN rfl ep1 ?_
  refine tb_Es (k := 2) (st' := (4, [(0, .ref a0)], [.ref a0, .int 0, .ref p1], w)) rfl ?_
  replace h := Option.bind_eq_some_iff.mp h
  obtain ⟨p2, ep2, h⟩ := h
  refine tb_e_gN rfl ep2 ?_
  refine tb_Es (k := 2) (st' := (7, [(0, .ref a0)], [.int 10, .int 0, .ref p2, .int 0, .ref p1], w)) rfl ?_
  replace h := Option.bind_eq_some_iff.mp h
  obtain ⟨w3, ew3, h⟩ := h
  refine tb_e_cy rfl rfl ew3 ?_
  refine tb_Es (k := 3) (st' := (11, [(0, .ref a0), (1, .int 0)], [], w3)) rfl ?_
  replace h := Option.bind_eq_some_iff.mp h
  obtain ⟨o26, eo26, h⟩ := h
  refine dl_s_weighAll_10 _ a0 0 w3 _ eo26 r ?_
  obtain rfl := Option.some.inj h
  subst hr
  exact tb_Er rfl rfl
/-! TannerBunting$Street.setPull(II)V -/
def fb_s_setPull (a0 : Nat) (a1 : Int32) (a2 : Int32) (w : tb_Hp) : Option (tb_Hp) := (tb_on 17 a0 w (fb_s_isLine a0 a1 w)).bind fun x1 => (if x1.1 = 0 then some x1.2 else (tb_gN 17 10 a0 x1.2).bind fun p2 => (tb_tI p2 a1 a2 x1.2).bind fun w3 => some w3)
set_option maxHeartbeats 4000000 in
set_option maxRecDepth 20000 in
theorem dc_s_setPull {a0 : Nat} {a1 : Int32} {a2 : Int32} {w : tb_Hp} {o : tb_Hp} (h : fb_s_setPull a0 a1 a2 w = some o) : tb_Ev tb_P 1 90 (0, tb_ent [.ref a0, .int a1, .int a2], [], w) (none, o) := by
  unfold fb_s_setPull at h
  obtain ⟨r, hr⟩ : ∃ r : Option Value × tb_Hp, r = (none, o) := ⟨_, rfl⟩
  rw [← hr]
  show tb_Ev tb_P 1 90 (0, [(0, .ref a0), (1, .int a1), (2, .int a2)], [], w) r
  refine tb_Es (k := 2) (st' := (2, [(0, .ref a0), (1, .int a1), (2, .int a2)], [.int a1, .ref a0], w)) rfl ?_
  replace h := Option.bind_eq_some_iff.mp h
  obtain ⟨x1, ex1, h⟩ := h
  obtain ⟨hkx1, hcall⟩ := tb_on_some ex1
  refine tb_e_cv (v := some (.int x1.1)) rfl (Or.inl ⟨_, rfl⟩) rfl rfl (Nat.le_of_ble_eq_true rfl) rfl (Nat.le_of_ble_eq_true rfl) hkx1 ((dc_s_isLine hcall).up (by decide)) ?_
  refine tb_b_ieq rfl (fun hc => ?_) (fun hc => ?_)
  · rw [if_pos hc] at h
    obtain rfl := Option.some.inj h
    subst hr
    exact tb_Er rfl rfl
  · rw [if_neg hc] at h
    refine tb_Es (k := 1) (st' := (5, [(0, .ref a0), (1, .int a1), (2, .int a2)], [.ref a0], x1.2)) rfl ?_
    replace h := Option.bind_eq_some_iff.mp h
    obtain ⟨p2, ep2, h⟩ := h
    refine tb_e_gN rfl ep2 ?_
    refine tb_Es (k := 2) (st' := (8, [(0, .ref a0), (1, .int a1), (2, .int a2)], [.int a2, .int a1, .ref p2], x1.2)) rfl ?_
    replace h := Option.bind_eq_some_iff.mp h
    obtain ⟨w3, ew3, h⟩ := h
    refine tb_e_tI rfl ew3 ?_
    obtain rfl := Option.some.inj h
    subst hr
    exact tb_Er rfl rfl
/-! TannerBunting$Past.giveBack(LTannerBunting$Street;)V -/
def fb_p_giveBack (a0 : Nat) (a1 : Nat) (w : tb_Hp) : Option (tb_Hp) := (tb_gI 13 1 a0 w).bind fun x1 => (tb_pI 13 1 a0 (((x1 + 20) - 1) - ((x1 + 20) - 1) / 20 * 20) w).bind fun w2 => (tb_gI 13 0 a0 w2).bind fun x3 => (fb_ma_max 0 (x3 - 1) w2).bind fun x4 => (tb_pI 13 0 a0 x4.1 x4.2).bind fun w5 => (tb_gI 13 1 a0 w5).bind fun x6 => (if x6 < 0 then some w5 else (tb_gI 13 1 a0 w5).bind fun x7 => (tb_gN 13 2 a0 w5).bind fun p8 => (tb_al p8 w5).bind fun x9 => (if x7 < x9 then (tb_gN 13 2 a0 w5).bind fun p10 => (tb_gI 13 1 a0 w5).bind fun x11 => (tb_lQ p10 x11 w5).bind fun x12 => (match x12 with | none => some w5 | some q13 => (tb_gN 13 2 a0 w5).bind fun p14 => (tb_gI 13 1 a0 w5).bind fun x15 => (tb_lQ p14 x15 w5).bind fun x16 => (x16).bind fun q17 => (tb_on 17 a1 w5 (fb_s_copyFrom a1 q17 w5)).bind fun x18 => some x18) else some w5))
set_option maxHeartbeats 4000000 in
set_option maxRecDepth 20000 in
theorem dc_p_giveBack {a0 : Nat} {a1 : Nat} {w : tb_Hp} {o : tb_Hp} (h : fb_p_giveBack a0 a1 w = some o) : tb_Ev tb_P 1 97 (0, tb_ent [.ref a0, .ref a1], [], w) (none, o) := by
  unfold fb_p_giveBack at h
  obtain ⟨r, hr⟩ : ∃ r : Option Value × tb_Hp, r = (none, o) := ⟨_, rfl⟩
  rw [← hr]
  show tb_Ev tb_P 1 97 (0, [(0, .ref a0), (1, .ref a1)], [], w) r
  refine tb_Es (k := 2) (st' := (2, [(0, .ref a0), (1, .ref a1)], [.ref a0, .ref a0], w)) rfl ?_
  replace h := Option.bind_eq_some_iff.mp h
  obtain ⟨x1, ex1, h⟩ := h
  refine tb_e_gI rfl ex1 ?_
  refine tb_Es (k := 5) (st' := (8, [(0, .ref a0), (1, .ref a1)], [.int 20, .int ((x1 + 20) - 1), .ref a0], w)) rfl ?_
  refine tb_e_irem rfl (by decide) ?_
  replace h := Option.bind_eq_some_iff.mp h
  obtain ⟨w2, ew2, h⟩ := h
  refine tb_e_pI rfl ew2 ?_
  refine tb_Es (k := 3) (st' := (13, [(0, .ref a0), (1, .ref a1)], [.ref a0, .int 0, .ref a0], w2)) rfl ?_
  replace h := Option.bind_eq_some_iff.mp h
  obtain ⟨x3, ex3, h⟩ := h
  refine tb_e_gI rfl ex3 ?_
  refine tb_Es (k := 2) (st' := (16, [(0, .ref a0), (1, .ref a1)], [.int (x3 - 1), .int 0, .ref a0], w2)) rfl ?_
  replace h := Option.bind_eq_some_iff.mp h
  obtain ⟨x4, ex4, h⟩ := h
  have hcall := ex4
  refine tb_e_cs (v := some (.int x4.1)) rfl rfl rfl (Nat.le_of_ble_eq_true rfl) rfl (Nat.le_of_ble_eq_true rfl) ((dc_ma_max hcall).up (by decide)) ?_
  replace h := Option.bind_eq_some_iff.mp h
  obtain ⟨w5, ew5, h⟩ := h
  refine tb_e_pI rfl ew5 ?_
  refine tb_Es (k := 1) (st' := (19, [(0, .ref a0), (1, .ref a1)], [.ref a0], w5)) rfl ?_
  replace h := Option.bind_eq_some_iff.mp h
  obtain ⟨x6, ex6, h⟩ := h
  refine tb_e_gI rfl ex6 ?_
  refine tb_b_ilt rfl (fun hc => ?_) (fun hc => ?_)
  · rw [if_pos hc] at h
    obtain rfl := Option.some.inj h
    subst hr
    exact tb_Er rfl rfl
  · rw [if_neg hc] at h
    refine tb_Es (k := 1) (st' := (22, [(0, .ref a0), (1, .ref a1)], [.ref a0], w5)) rfl ?_
    replace h := Option.bind_eq_some_iff.mp h
    obtain ⟨x7, ex7, h⟩ := h
    refine tb_e_gI rfl ex7 ?_
    refine tb_Es (k := 1) (st' := (24, [(0, .ref a0), (1, .ref a1)], [.ref a0, .int x7], w5)) rfl ?_
    replace h := Option.bind_eq_some_iff.mp h
    obtain ⟨p8, ep8, h⟩ := h
    refine tb_e_gN rfl ep8 ?_
    replace h := Option.bind_eq_some_iff.mp h
    obtain ⟨x9, ex9, h⟩ := h
    refine tb_e_al rfl ex9 ?_
    refine tb_b_cge rfl (fun hc => ?_) (fun hc => ?_)
    · rw [if_pos hc] at h
      refine tb_Es (k := 1) (st' := (28, [(0, .ref a0), (1, .ref a1)], [.ref a0], w5)) rfl ?_
      replace h := Option.bind_eq_some_iff.mp h
      obtain ⟨p10, ep10, h⟩ := h
      refine tb_e_gN rfl ep10 ?_
      refine tb_Es (k := 1) (st' := (30, [(0, .ref a0), (1, .ref a1)], [.ref a0, .ref p10], w5)) rfl ?_
      replace h := Option.bind_eq_some_iff.mp h
      obtain ⟨x11, ex11, h⟩ := h
      refine tb_e_gI rfl ex11 ?_
      replace h := Option.bind_eq_some_iff.mp h
      obtain ⟨x12, ex12, h⟩ := h
      refine tb_e_lQ rfl ex12 ?_
      refine tb_b_null rfl (fun hc => ?_) (fun q13 hc => ?_)
      · subst hc
        dsimp only at h
        obtain rfl := Option.some.inj h
        subst hr
        exact tb_Er rfl rfl
      · subst hc
        dsimp only at h
        refine tb_Es (k := 2) (st' := (35, [(0, .ref a0), (1, .ref a1)], [.ref a0, .ref a1], w5)) rfl ?_
        replace h := Option.bind_eq_some_iff.mp h
        obtain ⟨p14, ep14, h⟩ := h
        refine tb_e_gN rfl ep14 ?_
        refine tb_Es (k := 1) (st' := (37, [(0, .ref a0), (1, .ref a1)], [.ref a0, .ref p14, .ref a1], w5)) rfl ?_
        replace h := Option.bind_eq_some_iff.mp h
        obtain ⟨x15, ex15, h⟩ := h
        refine tb_e_gI rfl ex15 ?_
        replace h := Option.bind_eq_some_iff.mp h
        obtain ⟨x16, ex16, h⟩ := h
        refine tb_e_lQ rfl ex16 ?_
        replace h := Option.bind_eq_some_iff.mp h
        obtain ⟨q17, hq17, h⟩ := h
        subst hq17
        replace h := Option.bind_eq_some_iff.mp h
        obtain ⟨x18, ex18, h⟩ := h
        obtain ⟨hkx18, hcall⟩ := tb_on_some ex18
        refine tb_e_cv (v := none) rfl (Or.inl ⟨_, rfl⟩) rfl rfl (Nat.le_of_ble_eq_true rfl) rfl (Nat.le_of_ble_eq_true rfl) hkx18 ((dc_s_copyFrom hcall).up (by decide)) ?_
        obtain rfl := Option.some.inj h
        subst hr
        exact tb_Er rfl rfl
    · rw [if_neg hc] at h
      obtain rfl := Option.some.inj h
      subst hr
      exact tb_Er rfl rfl
/-! TannerBunting$Years.begin(LTannerBunting$Street;)V -/
def fb_yr_begin (a0 : Nat) (a1 : Nat) (w : tb_Hp) : Option (tb_Hp) := (tb_gN 20 0 a0 w).bind fun p1 => (tb_on 17 p1 w (fb_s_copyFrom p1 a1 w)).bind fun x2 => some x2
set_option maxHeartbeats 4000000 in
set_option maxRecDepth 20000 in
theorem dc_yr_begin {a0 : Nat} {a1 : Nat} {w : tb_Hp} {o : tb_Hp} (h : fb_yr_begin a0 a1 w = some o) : tb_Ev tb_P 1 99 (0, tb_ent [.ref a0, .ref a1], [], w) (none, o) := by
  unfold fb_yr_begin at h
  obtain ⟨r, hr⟩ : ∃ r : Option Value × tb_Hp, r = (none, o) := ⟨_, rfl⟩
  rw [← hr]
  show tb_Ev tb_P 1 99 (0, [(0, .ref a0), (1, .ref a1)], [], w) r
  refine tb_Es (k := 1) (st' := (1, [(0, .ref a0), (1, .ref a1)], [.ref a0], w)) rfl ?_
  replace h := Option.bind_eq_some_iff.mp h
  obtain ⟨p1, ep1, h⟩ := h
  refine tb_e_gN rfl ep1 ?_
  refine tb_Es (k := 1) (st' := (3, [(0, .ref a0), (1, .ref a1)], [.ref a1, .ref p1], w)) rfl ?_
  replace h := Option.bind_eq_some_iff.mp h
  obtain ⟨x2, ex2, h⟩ := h
  obtain ⟨hkx2, hcall⟩ := tb_on_some ex2
  refine tb_e_cv (v := none) rfl (Or.inl ⟨_, rfl⟩) rfl rfl (Nat.le_of_ble_eq_true rfl) rfl (Nat.le_of_ble_eq_true rfl) hkx2 ((dc_s_copyFrom hcall).up (by decide)) ?_
  obtain rfl := Option.some.inj h
  subst hr
  exact tb_Er rfl rfl
/-! TannerBunting$Street.allPull()I -/
def fl_s_allPull_4 : Nat → Nat → Int32 → Int32 → tb_Hp → Option (Int32 × tb_Hp)
  | 0, _, _, _, _ => none
  | n + 1, v0, v1, v2, w => (tb_gI 17 3 v0 w).bind fun x1 => (if v2 < x1 then (tb_on 17 v0 w (fb_s_isUp v0 v2 w)).bind fun x2 => (if x2.1 = 0 then fl_s_allPull_4 n v0 v1 (v2 + 1) x2.2 else (tb_gN 17 10 v0 x2.2).bind fun p3 => (tb_lI [1, 9] p3 v2 x2.2).bind fun x4 => fl_s_allPull_4 n v0 (v1 + x4) (v2 + 1) x2.2) else some ((v1, w)))
set_option maxHeartbeats 4000000 in
set_option maxRecDepth 20000 in
theorem dl_s_allPull_4 : ∀ (n : Nat) (v0 : Nat) (v1 : Int32) (v2 : Int32) (w : tb_Hp) (o : Int32 × tb_Hp), fl_s_allPull_4 n v0 v1 v2 w = some o → ∀ (r : Option Value × tb_Hp), tb_Ev tb_P 1 101 (23, [(1, .int o.1)], [], o.2) r → tb_Ev tb_P 1 101 (5, [(0, .ref v0), (1, .int v1), (2, .int v2)], [], w) r := by
  intro n
  induction n with
  | zero =>
    intro v0 v1 v2 w o h
    cases h
  | succ n ih =>
    intro v0 v1 v2 w o h r hx
    unfold fl_s_allPull_4 at h
    refine tb_Es (k := 2) (st' := (7, [(0, .ref v0), (1, .int v1), (2, .int v2)], [.ref v0, .int v2], w)) rfl ?_
    replace h := Option.bind_eq_some_iff.mp h
    obtain ⟨x1, ex1, h⟩ := h
    refine tb_e_gI rfl ex1 ?_
    refine tb_b_cge rfl (fun hc => ?_) (fun hc => ?_)
    · rw [if_pos hc] at h
      refine tb_Es (k := 2) (st' := (11, [(0, .ref v0), (1, .int v1), (2, .int v2)], [.int v2, .ref v0], w)) rfl ?_
      replace h := Option.bind_eq_some_iff.mp h
      obtain ⟨x2, ex2, h⟩ := h
      obtain ⟨hkx2, hcall⟩ := tb_on_some ex2
      refine tb_e_cv (v := some (.int x2.1)) rfl (Or.inl ⟨_, rfl⟩) rfl rfl (Nat.le_of_ble_eq_true rfl) rfl (Nat.le_of_ble_eq_true rfl) hkx2 ((dc_s_isUp hcall).up (by decide)) ?_
      refine tb_b_ieq rfl (fun hc => ?_) (fun hc => ?_)
      · rw [if_pos hc] at h
        refine tb_Es (k := 3) (st' := (5, [(0, .ref v0), (1, .int v1), (2, .int (v2 + 1))], [], x2.2)) rfl ?_
        exact ih v0 v1 (v2 + 1) x2.2 _ h r hx
      · rw [if_neg hc] at h
        refine tb_Es (k := 2) (st' := (15, [(0, .ref v0), (1, .int v1), (2, .int v2)], [.ref v0, .int v1], x2.2)) rfl ?_
        replace h := Option.bind_eq_some_iff.mp h
        obtain ⟨p3, ep3, h⟩ := h
        refine tb_e_gN rfl ep3 ?_
        refine tb_Es (k := 1) (st' := (17, [(0, .ref v0), (1, .int v1), (2, .int v2)], [.int v2, .ref p3, .int v1], x2.2)) rfl ?_
        replace h := Option.bind_eq_some_iff.mp h
        obtain ⟨x4, ex4, h⟩ := h
        refine tb_e_lI rfl (Or.inl ⟨rfl, rfl⟩) ex4 ?_
        refine tb_Es (k := 5) (st' := (5, [(0, .ref v0), (1, .int (v1 + x4)), (2, .int (v2 + 1))], [], x2.2)) rfl ?_
        exact ih v0 (v1 + x4) (v2 + 1) x2.2 _ h r hx
    · rw [if_neg hc] at h
      refine tb_Es (k := 1) (st' := (23, [(1, .int v1)], [], w)) rfl ?_
      obtain rfl := Option.some.inj h
      exact hx
def fb_s_allPull (a0 : Nat) (w : tb_Hp) : Option (Int32 × tb_Hp) := (fl_s_allPull_4 1048576 a0 0 0 w).bind fun o5 => some (o5.1, o5.2)
set_option maxHeartbeats 4000000 in
set_option maxRecDepth 20000 in
theorem dc_s_allPull {a0 : Nat} {w : tb_Hp} {o : Int32 × tb_Hp} (h : fb_s_allPull a0 w = some o) : tb_Ev tb_P 1 101 (0, tb_ent [.ref a0], [], w) (some (.int o.1), o.2) := by
  unfold fb_s_allPull at h
  obtain ⟨r, hr⟩ : ∃ r : Option Value × tb_Hp, r = (some (.int o.1), o.2) := ⟨_, rfl⟩
  rw [← hr]
  show tb_Ev tb_P 1 101 (0, [(0, .ref a0)], [], w) r
  refine tb_Es (k := 5) (st' := (5, [(0, .ref a0), (1, .int 0), (2, .int 0)], [], w)) rfl ?_
  replace h := Option.bind_eq_some_iff.mp h
  obtain ⟨o5, eo5, h⟩ := h
  refine dl_s_allPull_4 _ a0 0 0 w _ eo5 r ?_
  refine tb_Es (k := 1) (st' := (24, [(1, .int o5.1)], [.int o5.1], o5.2)) rfl ?_
  obtain rfl := Option.some.inj h
  subst hr
  exact tb_Er rfl rfl
/-! TannerBunting$Hands.isBetter(LTannerBunting$Street;II)Z -/
def fb_h_isBetter (a0 : Nat) (a1 : Int32) (a2 : Int32) (w : tb_Hp) : Option (Int32 × tb_Hp) := (tb_gI 17 4 a0 w).bind fun x1 => (if (a1 &&& (x1 ^^^ (-1))) = 0 then (if a2 = (-1) then some (1, w) else (fb_in_bitCount a1 w).bind fun x2 => (fb_in_bitCount a2 x2.2).bind fun x3 => (if x2.1 < x3.1 then some (1, x3.2) else some (0, x3.2))) else some (0, w))
set_option maxHeartbeats 4000000 in
set_option maxRecDepth 20000 in
theorem dc_h_isBetter {a0 : Nat} {a1 : Int32} {a2 : Int32} {w : tb_Hp} {o : Int32 × tb_Hp} (h : fb_h_isBetter a0 a1 a2 w = some o) : tb_Ev tb_P 1 113 (0, tb_ent [.ref a0, .int a1, .int a2], [], w) (some (.int o.1), o.2) := by
  unfold fb_h_isBetter at h
  obtain ⟨r, hr⟩ : ∃ r : Option Value × tb_Hp, r = (some (.int o.1), o.2) := ⟨_, rfl⟩
  rw [← hr]
  show tb_Ev tb_P 1 113 (0, [(0, .ref a0), (1, .int a1), (2, .int a2)], [], w) r
  refine tb_Es (k := 2) (st' := (2, [(0, .ref a0), (1, .int a1), (2, .int a2)], [.ref a0, .int a1], w)) rfl ?_
  replace h := Option.bind_eq_some_iff.mp h
  obtain ⟨x1, ex1, h⟩ := h
  refine tb_e_gI rfl ex1 ?_
  refine tb_Es (k := 3) (st' := (6, [(0, .ref a0), (1, .int a1), (2, .int a2)], [.int (a1 &&& (x1 ^^^ (-1)))], w)) rfl ?_
  refine tb_b_ine rfl (fun hc => ?_) (fun hc => ?_)
  · rw [if_pos hc] at h
    refine tb_Es (k := 2) (st' := (9, [(0, .ref a0), (1, .int a1), (2, .int a2)], [.int (-1), .int a2], w)) rfl ?_
    refine tb_b_ceq rfl (fun hc => ?_) (fun hc => ?_)
    · rw [if_pos hc] at h
      refine tb_Es (k := 2) (st' := (18, [(0, .ref a0), (1, .int a1), (2, .int a2)], [.int 1], w)) rfl ?_
      obtain rfl := Option.some.inj h
      subst hr
      exact tb_Er rfl rfl
    · rw [if_neg hc] at h
      refine tb_Es (k := 1) (st' := (11, [(0, .ref a0), (1, .int a1), (2, .int a2)], [.int a1], w)) rfl ?_
      replace h := Option.bind_eq_some_iff.mp h
      obtain ⟨x2, ex2, h⟩ := h
      have hcall := ex2
      refine tb_e_cs (v := some (.int x2.1)) rfl rfl rfl (Nat.le_of_ble_eq_true rfl) rfl (Nat.le_of_ble_eq_true rfl) ((dc_in_bitCount hcall).up (by decide)) ?_
      refine tb_Es (k := 1) (st' := (13, [(0, .ref a0), (1, .int a1), (2, .int a2)], [.int a2, .int x2.1], x2.2)) rfl ?_
      replace h := Option.bind_eq_some_iff.mp h
      obtain ⟨x3, ex3, h⟩ := h
      have hcall := ex3
      refine tb_e_cs (v := some (.int x3.1)) rfl rfl rfl (Nat.le_of_ble_eq_true rfl) rfl (Nat.le_of_ble_eq_true rfl) ((dc_in_bitCount hcall).up (by decide)) ?_
      refine tb_b_cge rfl (fun hc => ?_) (fun hc => ?_)
      · rw [if_pos hc] at h
        refine tb_Es (k := 2) (st' := (18, [(0, .ref a0), (1, .int a1), (2, .int a2)], [.int 1], x3.2)) rfl ?_
        obtain rfl := Option.some.inj h
        subst hr
        exact tb_Er rfl rfl
      · rw [if_neg hc] at h
        refine tb_Es (k := 1) (st' := (18, [(0, .ref a0), (1, .int a1), (2, .int a2)], [.int 0], x3.2)) rfl ?_
        obtain rfl := Option.some.inj h
        subst hr
        exact tb_Er rfl rfl
  · rw [if_neg hc] at h
    refine tb_Es (k := 1) (st' := (18, [(0, .ref a0), (1, .int a1), (2, .int a2)], [.int 0], w)) rfl ?_
    obtain rfl := Option.some.inj h
    subst hr
    exact tb_Er rfl rfl
/-! TannerBunting.ofSet(II)I -/
def fb_x_ofSet (a0 : Int32) (a1 : Int32) (w : tb_Hp) : Option (Int32 × tb_Hp) := (if a0 = (-1) then some (-2, w) else (if a1 = 0 then (fb_in_bitCount a0 w).bind fun x1 => some (x1.1, x1.2) else some (a0, w)))
set_option maxHeartbeats 4000000 in
set_option maxRecDepth 20000 in
theorem dc_x_ofSet {a0 : Int32} {a1 : Int32} {w : tb_Hp} {o : Int32 × tb_Hp} (h : fb_x_ofSet a0 a1 w = some o) : tb_Ev tb_P 1 114 (0, tb_ent [.int a0, .int a1], [], w) (some (.int o.1), o.2) := by
  unfold fb_x_ofSet at h
  obtain ⟨r, hr⟩ : ∃ r : Option Value × tb_Hp, r = (some (.int o.1), o.2) := ⟨_, rfl⟩
  rw [← hr]
  show tb_Ev tb_P 1 114 (0, [(0, .int a0), (1, .int a1)], [], w) r
  refine tb_Es (k := 2) (st' := (2, [(0, .int a0), (1, .int a1)], [.int (-1), .int a0], w)) rfl ?_
  refine tb_b_cne rfl (fun hc => ?_) (fun hc => ?_)
  · rw [if_pos hc] at h
    refine tb_Es (k := 1) (st' := (4, [(0, .int a0), (1, .int a1)], [.int (-2)], w)) rfl ?_
    obtain rfl := Option.some.inj h
    subst hr
    exact tb_Er rfl rfl
  · rw [if_neg hc] at h
    refine tb_Es (k := 1) (st' := (6, [(0, .int a0), (1, .int a1)], [.int a1], w)) rfl ?_
    refine tb_b_ine rfl (fun hc => ?_) (fun hc => ?_)
    · rw [if_pos hc] at h
      refine tb_Es (k := 1) (st' := (8, [(0, .int a0), (1, .int a1)], [.int a0], w)) rfl ?_
      replace h := Option.bind_eq_some_iff.mp h
      obtain ⟨x1, ex1, h⟩ := h
      have hcall := ex1
      refine tb_e_cs (v := some (.int x1.1)) rfl rfl rfl (Nat.le_of_ble_eq_true rfl) rfl (Nat.le_of_ble_eq_true rfl) ((dc_in_bitCount hcall).up (by decide)) ?_
      refine tb_Es (k := 1) (st' := (11, [(0, .int a0), (1, .int a1)], [.int x1.1], x1.2)) rfl ?_
      obtain rfl := Option.some.inj h
      subst hr
      exact tb_Er rfl rfl
    · rw [if_neg hc] at h
      refine tb_Es (k := 1) (st' := (11, [(0, .int a0), (1, .int a1)], [.int a0], w)) rfl ?_
      obtain rfl := Option.some.inj h
      subst hr
      exact tb_Er rfl rfl
