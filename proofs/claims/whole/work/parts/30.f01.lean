/-! TannerBunting$Past.clear()V -/
def fb_p_clear (a0 : Nat) (w : tb_Hp) : Option (tb_Hp) := (tb_pI 13 0 a0 0 w).bind fun w1 => (tb_pI 13 1 a0 0 w1).bind fun w2 => some w2
set_option maxHeartbeats 4000000 in
set_option maxRecDepth 20000 in
theorem dc_p_clear {a0 : Nat} {w : tb_Hp} {o : tb_Hp} (h : fb_p_clear a0 w = some o) : tb_Ev tb_P 0 46 (0, tb_ent [.ref a0], [], w) (none, o) := by
  unfold fb_p_clear at h
  obtain ⟨r, hr⟩ : ∃ r : Option Value × tb_Hp, r = (none, o) := ⟨_, rfl⟩
  rw [← hr]
  show tb_Ev tb_P 0 46 (0, [(0, .ref a0)], [], w) r
  refine tb_Es (k := 2) (st' := (2, [(0, .ref a0)], [.int 0, .ref a0], w)) rfl ?_
  replace h := Option.bind_eq_some_iff.mp h
  obtain ⟨w1, ew1, h⟩ := h
  refine tb_e_pI rfl ew1 ?_
  refine tb_Es (k := 2) (st' := (5, [(0, .ref a0)], [.int 0, .ref a0], w1)) rfl ?_
  replace h := Option.bind_eq_some_iff.mp h
  obtain ⟨w2, ew2, h⟩ := h
  refine tb_e_pI rfl ew2 ?_
  obtain rfl := Option.some.inj h
  subst hr
  exact tb_Er rfl rfl
/-! TannerBunting$RuleReader.emit(I)V -/
def fb_rr_emit (a0 : Nat) (a1 : Int32) (w : tb_Hp) : Option (tb_Hp) := (tb_gN 14 0 a0 w).bind fun p1 => (tb_gI 19 3 p1 w).bind fun x2 => (if x2 = 0 then (tb_gI 14 2 a0 w).bind fun x3 => (if x3 < 0 then some w else (tb_gI 14 2 a0 w).bind fun x4 => (tb_gN 14 1 a0 w).bind fun p5 => (tb_al p5 w).bind fun x6 => (if x4 < x6 then (tb_gN 14 1 a0 w).bind fun p7 => (tb_gI 14 2 a0 w).bind fun x8 => (tb_tI p7 x8 a1 w).bind fun w9 => (tb_gI 14 2 a0 w9).bind fun x10 => (tb_pI 14 2 a0 (x10 + 1) w9).bind fun w11 => some w11 else some w)) else some w)
set_option maxHeartbeats 4000000 in
set_option maxRecDepth 20000 in
theorem dc_rr_emit {a0 : Nat} {a1 : Int32} {w : tb_Hp} {o : tb_Hp} (h : fb_rr_emit a0 a1 w = some o) : tb_Ev tb_P 0 51 (0, tb_ent [.ref a0, .int a1], [], w) (none, o) := by
  unfold fb_rr_emit at h
  obtain ⟨r, hr⟩ : ∃ r : Option Value × tb_Hp, r = (none, o) := ⟨_, rfl⟩
  rw [← hr]
  show tb_Ev tb_P 0 51 (0, [(0, .ref a0), (1, .int a1)], [], w) r
  refine tb_Es (k := 1) (st' := (1, [(0, .ref a0), (1, .int a1)], [.ref a0], w)) rfl ?_
  replace h := Option.bind_eq_some_iff.mp h
  obtain ⟨p1, ep1, h⟩ := h
  refine tb_e_gN rfl ep1 ?_
  replace h := Option.bind_eq_some_iff.mp h
  obtain ⟨x2, ex2, h⟩ := h
  refine tb_e_gI rfl ex2 ?_
  refine tb_b_ine rfl (fun hc => ?_) (fun hc => ?_)
  · rw [if_pos hc] at h
    refine tb_Es (k := 1) (st' := (5, [(0, .ref a0), (1, .int a1)], [.ref a0], w)) rfl ?_
    replace h := Option.bind_eq_some_iff.mp h
    obtain ⟨x3, ex3, h⟩ := h
    refine tb_e_gI rfl ex3 ?_
    refine tb_b_ilt rfl (fun hc => ?_) (fun hc => ?_)
    · rw [if_pos hc] at h
      obtain rfl := Option.some.inj h
      subst hr
      exact tb_Er rfl rfl
    · rw [if_neg hc] at h
      refine tb_Es (k := 1) (st' := (8, [(0, .ref a0), (1, .int a1)], [.ref a0], w)) rfl ?_
      replace h := Option.bind_eq_some_iff.mp h
      obtain ⟨x4, ex4, h⟩ := h
      refine tb_e_gI rfl ex4 ?_
      refine tb_Es (k := 1) (st' := (10, [(0, .ref a0), (1, .int a1)], [.ref a0, .int x4], w)) rfl ?_
      replace h := Option.bind_eq_some_iff.mp h
      obtain ⟨p5, ep5, h⟩ := h
      refine tb_e_gN rfl ep5 ?_
      replace h := Option.bind_eq_some_iff.mp h
      obtain ⟨x6, ex6, h⟩ := h
      refine tb_e_al rfl ex6 ?_
      refine tb_b_cge rfl (fun hc => ?_) (fun hc => ?_)
      · rw [if_pos hc] at h
        refine tb_Es (k := 1) (st' := (14, [(0, .ref a0), (1, .int a1)], [.ref a0], w)) rfl ?_
        replace h := Option.bind_eq_some_iff.mp h
        obtain ⟨p7, ep7, h⟩ := h
        refine tb_e_gN rfl ep7 ?_
        refine tb_Es (k := 1) (st' := (16, [(0, .ref a0), (1, .int a1)], [.ref a0, .ref p7], w)) rfl ?_
        replace h := Option.bind_eq_some_iff.mp h
        obtain ⟨x8, ex8, h⟩ := h
        refine tb_e_gI rfl ex8 ?_
        refine tb_Es (k := 1) (st' := (18, [(0, .ref a0), (1, .int a1)], [.int a1, .int x8, .ref p7], w)) rfl ?_
        replace h := Option.bind_eq_some_iff.mp h
        obtain ⟨w9, ew9, h⟩ := h
        refine tb_e_tI rfl ew9 ?_
        refine tb_Es (k := 2) (st' := (21, [(0, .ref a0), (1, .int a1)], [.ref a0, .ref a0], w9)) rfl ?_
        replace h := Option.bind_eq_some_iff.mp h
        obtain ⟨x10, ex10, h⟩ := h
        refine tb_e_gI rfl ex10 ?_
        refine tb_Es (k := 2) (st' := (24, [(0, .ref a0), (1, .int a1)], [.int (x10 + 1), .ref a0], w9)) rfl ?_
        replace h := Option.bind_eq_some_iff.mp h
        obtain ⟨w11, ew11, h⟩ := h
        refine tb_e_pI rfl ew11 ?_
        obtain rfl := Option.some.inj h
        subst hr
        exact tb_Er rfl rfl
      · rw [if_neg hc] at h
        obtain rfl := Option.some.inj h
        subst hr
        exact tb_Er rfl rfl
  · rw [if_neg hc] at h
    obtain rfl := Option.some.inj h
    subst hr
    exact tb_Er rfl rfl
/-! java/lang/Math.min(II)I -/
def fb_ma_min (a0 : Int32) (a1 : Int32) (w : tb_Hp) : Option (Int32 × tb_Hp) := (if a0 ≤ a1 then some (a0, w) else some (a1, w))
set_option maxHeartbeats 4000000 in
set_option maxRecDepth 20000 in
theorem dc_ma_min {a0 : Int32} {a1 : Int32} {w : tb_Hp} {o : Int32 × tb_Hp} (h : fb_ma_min a0 a1 w = some o) : tb_Ev tb_P 0 56 (0, tb_ent [.int a0, .int a1], [], w) (some (.int o.1), o.2) := by
  unfold fb_ma_min at h
  obtain ⟨r, hr⟩ : ∃ r : Option Value × tb_Hp, r = (some (.int o.1), o.2) := ⟨_, rfl⟩
  rw [← hr]
  show tb_Ev tb_P 0 56 (0, [(0, .int a0), (1, .int a1)], [], w) r
  refine tb_Es (k := 2) (st' := (2, [(0, .int a0), (1, .int a1)], [.int a1, .int a0], w)) rfl ?_
  refine tb_b_cgt rfl (fun hc => ?_) (fun hc => ?_)
  · rw [if_pos hc] at h
    refine tb_Es (k := 2) (st' := (6, [(0, .int a0), (1, .int a1)], [.int a0], w)) rfl ?_
    obtain rfl := Option.some.inj h
    subst hr
    exact tb_Er rfl rfl
  · rw [if_neg hc] at h
    refine tb_Es (k := 1) (st' := (6, [(0, .int a0), (1, .int a1)], [.int a1], w)) rfl ?_
    obtain rfl := Option.some.inj h
    subst hr
    exact tb_Er rfl rfl
/-! TannerBunting.force(I)I -/
def fb_x_force (a0 : Nat) (a1 : Int32) (w : tb_Hp) : Option (Int32 × tb_Hp) := (if a1 < (-1) then some (-2, w) else (tb_gI 21 4 a0 w).bind fun x1 => (if a1 < x1 then (tb_gN 21 5 a0 w).bind fun p2 => (tb_gI 15 3 p2 w).bind fun x3 => (tb_gN 21 5 a0 w).bind fun p4 => (tb_pI 15 3 p4 a1 w).bind fun w5 => some (x3, w5) else some (-2, w)))
set_option maxHeartbeats 4000000 in
set_option maxRecDepth 20000 in
theorem dc_x_force {a0 : Nat} {a1 : Int32} {w : tb_Hp} {o : Int32 × tb_Hp} (h : fb_x_force a0 a1 w = some o) : tb_Ev tb_P 0 58 (0, tb_ent [.ref a0, .int a1], [], w) (some (.int o.1), o.2) := by
  unfold fb_x_force at h
  obtain ⟨r, hr⟩ : ∃ r : Option Value × tb_Hp, r = (some (.int o.1), o.2) := ⟨_, rfl⟩
  rw [← hr]
  show tb_Ev tb_P 0 58 (0, [(0, .ref a0), (1, .int a1)], [], w) r
  refine tb_Es (k := 2) (st' := (2, [(0, .ref a0), (1, .int a1)], [.int (-1), .int a1], w)) rfl ?_
  refine tb_b_clt rfl (fun hc => ?_) (fun hc => ?_)
  · rw [if_pos hc] at h
    refine tb_Es (k := 1) (st' := (8, [(0, .ref a0), (1, .int a1)], [.int (-2)], w)) rfl ?_
    obtain rfl := Option.some.inj h
    subst hr
    exact tb_Er rfl rfl
  · rw [if_neg hc] at h
    refine tb_Es (k := 2) (st' := (5, [(0, .ref a0), (1, .int a1)], [.ref a0, .int a1], w)) rfl ?_
    replace h := Option.bind_eq_some_iff.mp h
    obtain ⟨x1, ex1, h⟩ := h
    refine tb_e_gI rfl ex1 ?_
    refine tb_b_clt rfl (fun hc => ?_) (fun hc => ?_)
    · rw [if_pos hc] at h
      refine tb_Es (k := 1) (st' := (10, [(0, .ref a0), (1, .int a1)], [.ref a0], w)) rfl ?_
      replace h := Option.bind_eq_some_iff.mp h
      obtain ⟨p2, ep2, h⟩ := h
      refine tb_e_gN rfl ep2 ?_
      replace h := Option.bind_eq_some_iff.mp h
      obtain ⟨x3, ex3, h⟩ := h
      refine tb_e_gI rfl ex3 ?_
      refine tb_Es (k := 2) (st' := (14, [(2, .int x3), (0, .ref a0), (1, .int a1)], [.ref a0], w)) rfl ?_
      replace h := Option.bind_eq_some_iff.mp h
      obtain ⟨p4, ep4, h⟩ := h
      refine tb_e_gN rfl ep4 ?_
      refine tb_Es (k := 1) (st' := (16, [(2, .int x3), (0, .ref a0), (1, .int a1)], [.int a1, .ref p4], w)) rfl ?_
      replace h := Option.bind_eq_some_iff.mp h
      obtain ⟨w5, ew5, h⟩ := h
      refine tb_e_pI rfl ew5 ?_
      refine tb_Es (k := 1) (st' := (18, [(2, .int x3), (0, .ref a0), (1, .int a1)], [.int x3], w5)) rfl ?_
      obtain rfl := Option.some.inj h
      subst hr
      exact tb_Er rfl rfl
    · rw [if_neg hc] at h
      refine tb_Es (k := 1) (st' := (8, [(0, .ref a0), (1, .int a1)], [.int (-2)], w)) rfl ?_
      obtain rfl := Option.some.inj h
      subst hr
      exact tb_Er rfl rfl
/-! TannerBunting$Street.isUp(I)Z -/
def fb_s_isUp (a0 : Nat) (a1 : Int32) (w : tb_Hp) : Option (Int32 × tb_Hp) := (if a1 < 0 then some (0, w) else (tb_gI 17 3 a0 w).bind fun x1 => (if a1 < x1 then (if a1 < 8 then (tb_gI 17 4 a0 w).bind fun x2 => (if ((x2 >>> (a1 &&& 31)) &&& 1) = 1 then some (1, w) else some (0, w)) else some (0, w)) else some (0, w)))
set_option maxHeartbeats 4000000 in
set_option maxRecDepth 20000 in
theorem dc_s_isUp {a0 : Nat} {a1 : Int32} {w : tb_Hp} {o : Int32 × tb_Hp} (h : fb_s_isUp a0 a1 w = some o) : tb_Ev tb_P 0 65 (0, tb_ent [.ref a0, .int a1], [], w) (some (.int o.1), o.2) := by
  unfold fb_s_isUp at h
  obtain ⟨r, hr⟩ : ∃ r : Option Value × tb_Hp, r = (some (.int o.1), o.2) := ⟨_, rfl⟩
  rw [← hr]
  show tb_Ev tb_P 0 65 (0, [(0, .ref a0), (1, .int a1)], [], w) r
  refine tb_Es (k := 1) (st' := (1, [(0, .ref a0), (1, .int a1)], [.int a1], w)) rfl ?_
  refine tb_b_ilt rfl (fun hc => ?_) (fun hc => ?_)
  · rw [if_pos hc] at h
    refine tb_Es (k := 1) (st' := (20, [(0, .ref a0), (1, .int a1)], [.int 0], w)) rfl ?_
    obtain rfl := Option.some.inj h
    subst hr
    exact tb_Er rfl rfl
  · rw [if_neg hc] at h
    refine tb_Es (k := 2) (st' := (4, [(0, .ref a0), (1, .int a1)], [.ref a0, .int a1], w)) rfl ?_
    replace h := Option.bind_eq_some_iff.mp h
    obtain ⟨x1, ex1, h⟩ := h
    refine tb_e_gI rfl ex1 ?_
    refine tb_b_cge rfl (fun hc => ?_) (fun hc => ?_)
    · rw [if_pos hc] at h
      refine tb_Es (k := 2) (st' := (8, [(0, .ref a0), (1, .int a1)], [.int 8, .int a1], w)) rfl ?_
      refine tb_b_cge rfl (fun hc => ?_) (fun hc => ?_)
      · rw [if_pos hc] at h
        refine tb_Es (k := 1) (st' := (10, [(0, .ref a0), (1, .int a1)], [.ref a0], w)) rfl ?_
        replace h := Option.bind_eq_some_iff.mp h
        obtain ⟨x2, ex2, h⟩ := h
        refine tb_e_gI rfl ex2 ?_
        refine tb_Es (k := 5) (st' := (16, [(0, .ref a0), (1, .int a1)], [.int 1, .int ((x2 >>> (a1 &&& 31)) &&& 1)], w)) rfl ?_
        refine tb_b_cne rfl (fun hc => ?_) (fun hc => ?_)
        · rw [if_pos hc] at h
          refine tb_Es (k := 2) (st' := (20, [(0, .ref a0), (1, .int a1)], [.int 1], w)) rfl ?_
          obtain rfl := Option.some.inj h
          subst hr
          exact tb_Er rfl rfl
        · rw [if_neg hc] at h
          refine tb_Es (k := 1) (st' := (20, [(0, .ref a0), (1, .int a1)], [.int 0], w)) rfl ?_
          obtain rfl := Option.some.inj h
          subst hr
          exact tb_Er rfl rfl
      · rw [if_neg hc] at h
        refine tb_Es (k := 1) (st' := (20, [(0, .ref a0), (1, .int a1)], [.int 0], w)) rfl ?_
        obtain rfl := Option.some.inj h
        subst hr
        exact tb_Er rfl rfl
    · rw [if_neg hc] at h
      refine tb_Es (k := 1) (st' := (20, [(0, .ref a0), (1, .int a1)], [.int 0], w)) rfl ?_
      obtain rfl := Option.some.inj h
      subst hr
      exact tb_Er rfl rfl
/-! TannerBunting$Street.isLine(I)Z -/
def fb_s_isLine (a0 : Nat) (a1 : Int32) (w : tb_Hp) : Option (Int32 × tb_Hp) := (if a1 < 0 then some (0, w) else (tb_gI 17 3 a0 w).bind fun x1 => (if a1 < x1 then (if a1 < 8 then some (1, w) else some (0, w)) else some (0, w)))
set_option maxHeartbeats 4000000 in
set_option maxRecDepth 20000 in
theorem dc_s_isLine {a0 : Nat} {a1 : Int32} {w : tb_Hp} {o : Int32 × tb_Hp} (h : fb_s_isLine a0 a1 w = some o) : tb_Ev tb_P 0 67 (0, tb_ent [.ref a0, .int a1], [], w) (some (.int o.1), o.2) := by
  unfold fb_s_isLine at h
  obtain ⟨r, hr⟩ : ∃ r : Option Value × tb_Hp, r = (some (.int o.1), o.2) := ⟨_, rfl⟩
  rw [← hr]
  show tb_Ev tb_P 0 67 (0, [(0, .ref a0), (1, .int a1)], [], w) r
  refine tb_Es (k := 1) (st' := (1, [(0, .ref a0), (1, .int a1)], [.int a1], w)) rfl ?_
  refine tb_b_ilt rfl (fun hc => ?_) (fun hc => ?_)
  · rw [if_pos hc] at h
    refine tb_Es (k := 1) (st' := (12, [(0, .ref a0), (1, .int a1)], [.int 0], w)) rfl ?_
    obtain rfl := Option.some.inj h
    subst hr
    exact tb_Er rfl rfl
  · rw [if_neg hc] at h
    refine tb_Es (k := 2) (st' := (4, [(0, .ref a0), (1, .int a1)], [.ref a0, .int a1], w)) rfl ?_
    replace h := Option.bind_eq_some_iff.mp h
    obtain ⟨x1, ex1, h⟩ := h
    refine tb_e_gI rfl ex1 ?_
    refine tb_b_cge rfl (fun hc => ?_) (fun hc => ?_)
    · rw [if_pos hc] at h
      refine tb_Es (k := 2) (st' := (8, [(0, .ref a0), (1, .int a1)], [.int 8, .int a1], w)) rfl ?_
      refine tb_b_cge rfl (fun hc => ?_) (fun hc => ?_)
      · rw [if_pos hc] at h
        refine tb_Es (k := 2) (st' := (12, [(0, .ref a0), (1, .int a1)], [.int 1], w)) rfl ?_
        obtain rfl := Option.some.inj h
        subst hr
        exact tb_Er rfl rfl
      · rw [if_neg hc] at h
        refine tb_Es (k := 1) (st' := (12, [(0, .ref a0), (1, .int a1)], [.int 0], w)) rfl ?_
        obtain rfl := Option.some.inj h
        subst hr
        exact tb_Er rfl rfl
    · rw [if_neg hc] at h
      refine tb_Es (k := 1) (st' := (12, [(0, .ref a0), (1, .int a1)], [.int 0], w)) rfl ?_
      obtain rfl := Option.some.inj h
      subst hr
      exact tb_Er rfl rfl
/-! TannerBunting$Scene.isEmpty()Z -/
def fb_sc_isEmpty (a0 : Nat) (w : tb_Hp) : Option (Int32 × tb_Hp) := (tb_gN 15 0 a0 w).bind fun p1 => (tb_gI 17 0 p1 w).bind fun x2 => (if x2 = 0 then some (1, w) else some (0, w))
set_option maxHeartbeats 4000000 in
set_option maxRecDepth 20000 in
theorem dc_sc_isEmpty {a0 : Nat} {w : tb_Hp} {o : Int32 × tb_Hp} (h : fb_sc_isEmpty a0 w = some o) : tb_Ev tb_P 0 73 (0, tb_ent [.ref a0], [], w) (some (.int o.1), o.2) := by
  unfold fb_sc_isEmpty at h
  obtain ⟨r, hr⟩ : ∃ r : Option Value × tb_Hp, r = (some (.int o.1), o.2) := ⟨_, rfl⟩
  rw [← hr]
  show tb_Ev tb_P 0 73 (0, [(0, .ref a0)], [], w) r
  refine tb_Es (k := 1) (st' := (1, [(0, .ref a0)], [.ref a0], w)) rfl ?_
  replace h := Option.bind_eq_some_iff.mp h
  obtain ⟨p1, ep1, h⟩ := h
  refine tb_e_gN rfl ep1 ?_
  replace h := Option.bind_eq_some_iff.mp h
  obtain ⟨x2, ex2, h⟩ := h
  refine tb_e_gI rfl ex2 ?_
  refine tb_b_ine rfl (fun hc => ?_) (fun hc => ?_)
  · rw [if_pos hc] at h
    refine tb_Es (k := 2) (st' := (7, [(0, .ref a0)], [.int 1], w)) rfl ?_
    obtain rfl := Option.some.inj h
    subst hr
    exact tb_Er rfl rfl
  · rw [if_neg hc] at h
    refine tb_Es (k := 1) (st' := (7, [(0, .ref a0)], [.int 0], w)) rfl ?_
    obtain rfl := Option.some.inj h
    subst hr
    exact tb_Er rfl rfl
/-! TannerBunting.codeOf([[II)[I -/
def fb_x_codeOf (a0 : Nat) (a1 : Int32) (w : tb_Hp) : Option (Option Nat × tb_Hp) := (if a1 < 0 then some (none, w) else (tb_al a0 w).bind fun x1 => (if a1 < x1 then (tb_lQ a0 a1 w).bind fun x2 => some (x2, w) else some (none, w)))
set_option maxHeartbeats 4000000 in
set_option maxRecDepth 20000 in
theorem dc_x_codeOf {a0 : Nat} {a1 : Int32} {w : tb_Hp} {o : Option Nat × tb_Hp} (h : fb_x_codeOf a0 a1 w = some o) : tb_Ev tb_P 0 76 (0, tb_ent [.ref a0, .int a1], [], w) (some (va_rf o.1), o.2) := by
  unfold fb_x_codeOf at h
  obtain ⟨r, hr⟩ : ∃ r : Option Value × tb_Hp, r = (some (va_rf o.1), o.2) := ⟨_, rfl⟩
  rw [← hr]
  show tb_Ev tb_P 0 76 (0, [(0, .ref a0), (1, .int a1)], [], w) r
  refine tb_Es (k := 1) (st' := (1, [(0, .ref a0), (1, .int a1)], [.int a1], w)) rfl ?_
  refine tb_b_ilt rfl (fun hc => ?_) (fun hc => ?_)
  · rw [if_pos hc] at h
    refine tb_Es (k := 1) (st' := (11, [(0, .ref a0), (1, .int a1)], [.null], w)) rfl ?_
    obtain rfl := Option.some.inj h
    subst hr
    exact tb_Er rfl rfl
  · rw [if_neg hc] at h
    refine tb_Es (k := 2) (st' := (4, [(0, .ref a0), (1, .int a1)], [.ref a0, .int a1], w)) rfl ?_
    replace h := Option.bind_eq_some_iff.mp h
    obtain ⟨x1, ex1, h⟩ := h
    refine tb_e_al rfl ex1 ?_
    refine tb_b_cge rfl (fun hc => ?_) (fun hc => ?_)
    · rw [if_pos hc] at h
      refine tb_Es (k := 2) (st' := (8, [(0, .ref a0), (1, .int a1)], [.int a1, .ref a0], w)) rfl ?_
      replace h := Option.bind_eq_some_iff.mp h
      obtain ⟨x2, ex2, h⟩ := h
      refine tb_e_lQ rfl ex2 ?_
      refine tb_Es (k := 1) (st' := (11, [(0, .ref a0), (1, .int a1)], [va_rf x2], w)) rfl ?_
      obtain rfl := Option.some.inj h
      subst hr
      exact tb_r_q rfl
    · rw [if_neg hc] at h
      refine tb_Es (k := 1) (st' := (11, [(0, .ref a0), (1, .int a1)], [.null], w)) rfl ?_
      obtain rfl := Option.some.inj h
      subst hr
      exact tb_Er rfl rfl
/-! TannerBunting$Judge.push(J)V -/
def fb_jg_push (a0 : Nat) (a1 : Int64) (w : tb_Hp) : Option (tb_Hp) := (tb_gI 11 1 a0 w).bind fun x1 => (if x1 < 0 then some w else (tb_gI 11 1 a0 w).bind fun x2 => (tb_gN 11 0 a0 w).bind fun p3 => (tb_al p3 w).bind fun x4 => (if x2 < x4 then (tb_gN 11 0 a0 w).bind fun p5 => (tb_gI 11 1 a0 w).bind fun x6 => (tb_tJ p5 x6 a1 w).bind fun w7 => (tb_gI 11 1 a0 w7).bind fun x8 => (tb_pI 11 1 a0 (x8 + 1) w7).bind fun w9 => some w9 else some w))
set_option maxHeartbeats 4000000 in
set_option maxRecDepth 20000 in
theorem dc_jg_push {a0 : Nat} {a1 : Int64} {w : tb_Hp} {o : tb_Hp} (h : fb_jg_push a0 a1 w = some o) : tb_Ev tb_P 0 79 (0, tb_ent [.ref a0, .long a1], [], w) (none, o) := by
  unfold fb_jg_push at h
  obtain ⟨r, hr⟩ : ∃ r : Option Value × tb_Hp, r = (none, o) := ⟨_, rfl⟩
  rw [← hr]
  show tb_Ev tb_P 0 79 (0, [(0, .ref a0), (1, .long a1)], [], w) r
  refine tb_Es (k := 1) (st' := (1, [(0, .ref a0), (1, .long a1)], [.ref a0], w)) rfl ?_
  replace h := Option.bind_eq_some_iff.mp h
  obtain ⟨x1, ex1, h⟩ := h
  refine tb_e_gI rfl ex1 ?_
  refine tb_b_ilt rfl (fun hc => ?_) (fun hc => ?_)
  · rw [if_pos hc] at h
    obtain rfl := Option.some.inj h
    subst hr
    exact tb_Er rfl rfl
  · rw [if_neg hc] at h
    refine tb_Es (k := 1) (st' := (4, [(0, .ref a0), (1, .long a1)], [.ref a0], w)) rfl ?_
    replace h := Option.bind_eq_some_iff.mp h
    obtain ⟨x2, ex2, h⟩ := h
    refine tb_e_gI rfl ex2 ?_
    refine tb_Es (k := 1) (st' := (6, [(0, .ref a0), (1, .long a1)], [.ref a0, .int x2], w)) rfl ?_
    replace h := Option.bind_eq_some_iff.mp h
    obtain ⟨p3, ep3, h⟩ := h
    refine tb_e_gN rfl ep3 ?_
    replace h := Option.bind_eq_some_iff.mp h
    obtain ⟨x4, ex4, h⟩ := h
    refine tb_e_al rfl ex4 ?_
    refine tb_b_cge rfl (fun hc => ?_) (fun hc => ?_)
    · rw [if_pos hc] at h
      refine tb_Es (k := 1) (st' := (10, [(0, .ref a0), (1, .long a1)], [.ref a0], w)) rfl ?_
      replace h := Option.bind_eq_some_iff.mp h
      obtain ⟨p5, ep5, h⟩ := h
      refine tb_e_gN rfl ep5 ?_
      refine tb_Es (k := 1) (st' := (12, [(0, .ref a0), (1, .long a1)], [.ref a0, .ref p5], w)) rfl ?_
      replace h := Option.bind_eq_some_iff.mp h
      obtain ⟨x6, ex6, h⟩ := h
      refine tb_e_gI rfl ex6 ?_
      refine tb_Es (k := 1) (st' := (14, [(0, .ref a0), (1, .long a1)], [.long a1, .int x6, .ref p5], w)) rfl ?_
      replace h := Option.bind_eq_some_iff.mp h
      obtain ⟨w7, ew7, h⟩ := h
      refine tb_e_tJ rfl ew7 ?_
      refine tb_Es (k := 2) (st' := (17, [(0, .ref a0), (1, .long a1)], [.ref a0, .ref a0], w7)) rfl ?_
      replace h := Option.bind_eq_some_iff.mp h
      obtain ⟨x8, ex8, h⟩ := h
      refine tb_e_gI rfl ex8 ?_
      refine tb_Es (k := 2) (st' := (20, [(0, .ref a0), (1, .long a1)], [.int (x8 + 1), .ref a0], w7)) rfl ?_
      replace h := Option.bind_eq_some_iff.mp h
      obtain ⟨w9, ew9, h⟩ := h
      refine tb_e_pI rfl ew9 ?_
      obtain rfl := Option.some.inj h
      subst hr
      exact tb_Er rfl rfl
    · rw [if_neg hc] at h
      obtain rfl := Option.some.inj h
      subst hr
      exact tb_Er rfl rfl
/-! java/lang/Integer.bitCount(I)I -/
def fb_in_bitCount (a0 : Int32) (w : tb_Hp) : Option (Int32 × tb_Hp) := some ((((((((a0 - (((Int32.toUInt32 a0 >>> (Int32.toUInt32 1 &&& Int32.toUInt32 31)).toInt32) &&& 1431655765)) &&& 858993459) + (((Int32.toUInt32 (a0 - (((Int32.toUInt32 a0 >>> (Int32.toUInt32 1 &&& Int32.toUInt32 31)).toInt32) &&& 1431655765)) >>> (Int32.toUInt32 2 &&& Int32.toUInt32 31)).toInt32) &&& 858993459)) + ((Int32.toUInt32 (((a0 - (((Int32.toUInt32 a0 >>> (Int32.toUInt32 1 &&& Int32.toUInt32 31)).toInt32) &&& 1431655765)) &&& 858993459) + (((Int32.toUInt32 (a0 - (((Int32.toUInt32 a0 >>> (Int32.toUInt32 1 &&& Int32.toUInt32 31)).toInt32) &&& 1431655765)) >>> (Int32.toUInt32 2 &&& Int32.toUInt32 31)).toInt32) &&& 858993459)) >>> (Int32.toUInt32 4 &&& Int32.toUInt32 31)).toInt32)) &&& 252645135) + ((Int32.toUInt32 (((((a0 - (((Int32.toUInt32 a0 >>> (Int32.toUInt32 1 &&& Int32.toUInt32 31)).toInt32) &&& 1431655765)) &&& 858993459) + (((Int32.toUInt32 (a0 - (((Int32.toUInt32 a0 >>> (Int32.toUInt32 1 &&& Int32.toUInt32 31)).toInt32) &&& 1431655765)) >>> (Int32.toUInt32 2 &&& Int32.toUInt32 31)).toInt32) &&& 858993459)) + ((Int32.toUInt32 (((a0 - (((Int32.toUInt32 a0 >>> (Int32.toUInt32 1 &&& Int32.toUInt32 31)).toInt32) &&& 1431655765)) &&& 858993459) + (((Int32.toUInt32 (a0 - (((Int32.toUInt32 a0 >>> (Int32.toUInt32 1 &&& Int32.toUInt32 31)).toInt32) &&& 1431655765)) >>> (Int32.toUInt32 2 &&& Int32.toUInt32 31)).toInt32) &&& 858993459)) >>> (Int32.toUInt32 4 &&& Int32.toUInt32 31)).toInt32)) &&& 252645135) >>> (Int32.toUInt32 8 &&& Int32.toUInt32 31)).toInt32)) + ((Int32.toUInt32 ((((((a0 - (((Int32.toUInt32 a0 >>> (Int32.toUInt32 1 &&& Int32.toUInt32 31)).toInt32) &&& 1431655765)) &&& 858993459) + (((Int32.toUInt32 (a0 - (((Int32.toUInt32 a0 >>> (Int32.toUInt32 1 &&& Int32.toUInt32 31)).toInt32) &&& 1431655765)) >>> (Int32.toUInt32 2 &&& Int32.toUInt32 31)).toInt32) &&& 858993459)) + ((Int32.toUInt32 (((a0 - (((Int32.toUInt32 a0 >>> (Int32.toUInt32 1 &&& Int32.toUInt32 31)).toInt32) &&& 1431655765)) &&& 858993459) + (((Int32.toUInt32 (a0 - (((Int32.toUInt32 a0 >>> (Int32.toUInt32 1 &&& Int32.toUInt32 31)).toInt32) &&& 1431655765)) >>> (Int32.toUInt32 2 &&& Int32.toUInt32 31)).toInt32) &&& 858993459)) >>> (Int32.toUInt32 4 &&& Int32.toUInt32 31)).toInt32)) &&& 252645135) + ((Int32.toUInt32 (((((a0 - (((Int32.toUInt32 a0 >>> (Int32.toUInt32 1 &&& Int32.toUInt32 31)).toInt32) &&& 1431655765)) &&& 858993459) + (((Int32.toUInt32 (a0 - (((Int32.toUInt32 a0 >>> (Int32.toUInt32 1 &&& Int32.toUInt32 31)).toInt32) &&& 1431655765)) >>> (Int32.toUInt32 2 &&& Int32.toUInt32 31)).toInt32) &&& 858993459)) + ((Int32.toUInt32 (((a0 - (((Int32.toUInt32 a0 >>> (Int32.toUInt32 1 &&& Int32.toUInt32 31)).toInt32) &&& 1431655765)) &&& 858993459) + (((Int32.toUInt32 (a0 - (((Int32.toUInt32 a0 >>> (Int32.toUInt32 1 &&& Int32.toUInt32 31)).toInt32) &&& 1431655765)) >>> (Int32.toUInt32 2 &&& Int32.toUInt32 31)).toInt32) &&& 858993459)) >>> (Int32.toUInt32 4 &&& Int32.toUInt32 31)).toInt32)) &&& 252645135) >>> (Int32.toUInt32 8 &&& Int32.toUInt32 31)).toInt32)) >>> (Int32.toUInt32 16 &&& Int32.toUInt32 31)).toInt32)) &&& 63, w)
set_option maxHeartbeats 4000000 in
set_option maxRecDepth 20000 in
theorem dc_in_bitCount {a0 : Int32} {w : tb_Hp} {o : Int32 × tb_Hp} (h : fb_in_bitCount a0 w = some o) : tb_Ev tb_P 0 81 (0, tb_ent [.int a0], [], w) (some (.int o.1), o.2) := by
  unfold fb_in_bitCount at h
  obtain ⟨r, hr⟩ : ∃ r : Option Value × tb_Hp, r = (some (.int o.1), o.2) := ⟨_, rfl⟩
  rw [← hr]
  show tb_Ev tb_P 0 81 (0, [(0, .int a0)], [], w) r
  refine tb_Es (k := 41) (st' := (41, [(0, .int (((((((a0 - (((Int32.toUInt32 a0 >>> (Int32.toUInt32 1 &&& Int32.toUInt32 31)).toInt32) &&& 1431655765)) &&& 858993459) + (((Int32.toUInt32 (a0 - (((Int32.toUInt32 a0 >>> (Int32.toUInt32 1 &&& Int32.toUInt32 31)).toInt32) &&& 1431655765)) >>> (Int32.toUInt32 2 &&& Int32.toUInt32 31)).toInt32) &&& 858993459)) + ((Int32.toUInt32 (((a0 - (((Int32.toUInt32 a0 >>> (Int32.toUInt32 1 &&& Int32.toUInt32 31)).toInt32) &&& 1431655765)) &&& 858993459) + (((Int32.toUInt32 (a0 - (((Int32.toUInt32 a0 >>> (Int32.toUInt32 1 &&& Int32.toUInt32 31)).toInt32) &&& 1431655765)) >>> (Int32.toUInt32 2 &&& Int32.toUInt32 31)).toInt32) &&& 858993459)) >>> (Int32.toUInt32 4 &&& Int32.toUInt32 31)).toInt32)) &&& 252645135) + ((Int32.toUInt32 (((((a0 - (((Int32.toUInt32 a0 >>> (Int32.toUInt32 1 &&& Int32.toUInt32 31)).toInt32) &&& 1431655765)) &&& 858993459) + (((Int32.toUInt32 (a0 - (((Int32.toUInt32 a0 >>> (Int32.toUInt32 1 &&& Int32.toUInt32 31)).toInt32) &&& 1431655765)) >>> (Int32.toUInt32 2 &&& Int32.toUInt32 31)).toInt32) &&& 858993459)) + ((Int32.toUInt32 (((a0 - (((Int32.toUInt32 a0 >>> (Int32.toUInt32 1 &&& Int32.toUInt32 31)).toInt32) &&& 1431655765)) &&& 858993459) + (((Int32.toUInt32 (a0 - (((Int32.toUInt32 a0 >>> (Int32.toUInt32 1 &&& Int32.toUInt32 31)).toInt32) &&& 1431655765)) >>> (Int32.toUInt32 2 &&& Int32.toUInt32 31)).toInt32) &&& 858993459)) >>> (Int32.toUInt32 4 &&& Int32.toUInt32 31)).toInt32)) &&& 252645135) >>> (Int32.toUInt32 8 &&& Int32.toUInt32 31)).toInt32)) + ((Int32.toUInt32 ((((((a0 - (((Int32.toUInt32 a0 >>> (Int32.toUInt32 1 &&& Int32.toUInt32 31)).toInt32) &&& 1431655765)) &&& 858993459) + (((Int32.toUInt32 (a0 - (((Int32.toUInt32 a0 >>> (Int32.toUInt32 1 &&& Int32.toUInt32 31)).toInt32) &&& 1431655765)) >>> (Int32.toUInt32 2 &&& Int32.toUInt32 31)).toInt32) &&& 858993459)) + ((Int32.toUInt32 (((a0 - (((Int32.toUInt32 a0 >>> (Int32.toUInt32 1 &&& Int32.toUInt32 31)).toInt32) &&& 1431655765)) &&& 858993459) + (((Int32.toUInt32 (a0 - (((Int32.toUInt32 a0 >>> (Int32.toUInt32 1 &&& Int32.toUInt32 31)).toInt32) &&& 1431655765)) >>> (Int32.toUInt32 2 &&& Int32.toUInt32 31)).toInt32) &&& 858993459)) >>> (Int32.toUInt32 4 &&& Int32.toUInt32 31)).toInt32)) &&& 252645135) + ((Int32.toUInt32 (((((a0 - (((Int32.toUInt32 a0 >>> (Int32.toUInt32 1 &&& Int32.toUInt32 31)).toInt32) &&& 1431655765)) &&& 858993459) + (((Int32.toUInt32 (a0 - (((Int32.toUInt32 a0 >>> (Int32.toUInt32 1 &&& Int32.toUInt32 31)).toInt32) &&& 1431655765)) >>> (Int32.toUInt32 2 &&& Int32.toUInt32 31)).toInt32) &&& 858993459)) + ((Int32.toUInt32 (((a0 - (((Int32.toUInt32 a0 >>> (Int32.toUInt32 1 &&& Int32.toUInt32 31)).toInt32) &&& 1431655765)) &&& 858993459) + (((Int32.toUInt32 (a0 - (((Int32.toUInt32 a0 >>> (Int32.toUInt32 1 &&& Int32.toUInt32 31)).toInt32) &&& 1431655765)) >>> (Int32.toUInt32 2 &&& Int32.toUInt32 31)).toInt32) &&& 858993459)) >>> (Int32.toUInt32 4 &&& Int32.toUInt32 31)).toInt32)) &&& 252645135) >>> (Int32.toUInt32 8 &&& Int32.toUInt32 31)).toInt32)) >>> (Int32.toUInt32 16 &&& Int32.toUInt32 31)).toInt32)))], [.int ((((((((a0 - (((Int32.toUInt32 a0 >>> (Int32.toUInt32 1 &&& Int32.toUInt32 31)).toInt32) &&& 1431655765)) &&& 858993459) + (((Int32.toUInt32 (a0 - (((Int32.toUInt32 a0 >>> (Int32.toUInt32 1 &&& Int32.toUInt32 31)).toInt32) &&& 1431655765)) >>> (Int32.toUInt32 2 &&& Int32.toUInt32 31)).toInt32) &&& 858993459)) + ((Int32.toUInt32 (((a0 - (((Int32.toUInt32 a0 >>> (Int32.toUInt32 1 &&& Int32.toUInt32 31)).toInt32) &&& 1431655765)) &&& 858993459) + (((Int32.toUInt32 (a0 - (((Int32.toUInt32 a0 >>> (Int32.toUInt32 1 &&& Int32.toUInt32 31)).toInt32) &&& 1431655765)) >>> (Int32.toUInt32 2 &&& Int32.toUInt32 31)).toInt32) &&& 858993459)) >>> (Int32.toUInt32 4 &&& Int32.toUInt32 31)).toInt32)) &&& 252645135) + ((Int32.toUInt32 (((((a0 - (((Int32.toUInt32 a0 >>> (Int32.toUInt32 1 &&& Int32.toUInt32 31)).toInt32) &&& 1431655765)) &&& 858993459) + (((Int32.toUInt32 (a0 - (((Int32.toUInt32 a0 >>> (Int32.toUInt32 1 &&& Int32.toUInt32 31)).toInt32) &&& 1431655765)) >>> (Int32.toUInt32 2 &&& Int32.toUInt32 31)).toInt32) &&& 858993459)) + ((Int32.toUInt32 (((a0 - (((Int32.toUInt32 a0 >>> (Int32.toUInt32 1 &&& Int32.toUInt32 31)).toInt32) &&& 1431655765)) &&& 858993459) + (((Int32.toUInt32 (a0 - (((Int32.toUInt32 a0 >>> (Int32.toUInt32 1 &&& Int32.toUInt32 31)).toInt32) &&& 1431655765)) >>> (Int32.toUInt32 2 &&& Int32.toUInt32 31)).toInt32) &&& 858993459)) >>> (Int32.toUInt32 4 &&& Int32.toUInt32 31)).toInt32)) &&& 252645135) >>> (Int32.toUInt32 8 &&& Int32.toUInt32 31)).toInt32)) + ((Int32.toUInt32 ((((((a0 - (((Int32.toUInt32 a0 >>> (Int32.toUInt32 1 &&& Int32.toUInt32 31)).toInt32) &&& 1431655765)) &&& 858993459) + (((Int32.toUInt32 (a0 - (((Int32.toUInt32 a0 >>> (Int32.toUInt32 1 &&& Int32.toUInt32 31)).toInt32) &&& 1431655765)) >>> (Int32.toUInt32 2 &&& Int32.toUInt32 31)).toInt32) &&& 858993459)) + ((Int32.toUInt32 (((a0 - (((Int32.toUInt32 a0 >>> (Int32.toUInt32 1 &&& Int32.toUInt32 31)).toInt32) &&& 1431655765)) &&& 858993459) + (((Int32.toUInt32 (a0 - (((Int32.toUInt32 a0 >>> (Int32.toUInt32 1 &&& Int32.toUInt32 31)).toInt32) &&& 1431655765)) >>> (Int32.toUInt32 2 &&& Int32.toUInt32 31)).toInt32) &&& 858993459)) >>> (Int32.toUInt32 4 &&& Int32.toUInt32 31)).toInt32)) &&& 252645135) + ((Int32.toUInt32 (((((a0 - (((Int32.toUInt32 a0 >>> (Int32.toUInt32 1 &&& Int32.toUInt32 31)).toInt32) &&& 1431655765)) &&& 858993459) + (((Int32.toUInt32 (a0 - (((Int32.toUInt32 a0 >>> (Int32.toUInt32 1 &&& Int32.toUInt32 31)).toInt32) &&& 1431655765)) >>> (Int32.toUInt32 2 &&& Int32.toUInt32 31)).toInt32) &&& 858993459)) + ((Int32.toUInt32 (((a0 - (((Int32.toUInt32 a0 >>> (Int32.toUInt32 1 &&& Int32.toUInt32 31)).toInt32) &&& 1431655765)) &&& 858993459) + (((Int32.toUInt32 (a0 - (((Int32.toUInt32 a0 >>> (Int32.toUInt32 1 &&& Int32.toUInt32 31)).toInt32) &&& 1431655765)) >>> (Int32.toUInt32 2 &&& Int32.toUInt32 31)).toInt32) &&& 858993459)) >>> (Int32.toUInt32 4 &&& Int32.toUInt32 31)).toInt32)) &&& 252645135) >>> (Int32.toUInt32 8 &&& Int32.toUInt32 31)).toInt32)) >>> (Int32.toUInt32 16 &&& Int32.toUInt32 31)).toInt32)) &&& 63)], w)) rfl ?_
  obtain rfl := Option.some.inj h
  subst hr
  exact tb_Er rfl rfl
/-! TannerBunting$Judge.pop()J -/
def fb_jg_pop (a0 : Nat) (w : tb_Hp) : Option (Int64 × tb_Hp) := (tb_gI 11 1 a0 w).bind fun x1 => (if 0 < x1 then (tb_gI 11 1 a0 w).bind fun x2 => (tb_gN 11 0 a0 w).bind fun p3 => (tb_al p3 w).bind fun x4 => (if x4 < x2 then some (0, w) else (tb_gI 11 1 a0 w).bind fun x5 => (tb_pI 11 1 a0 (x5 - 1) w).bind fun w6 => (tb_gN 11 0 a0 w6).bind fun p7 => (tb_gI 11 1 a0 w6).bind fun x8 => (tb_lJ p7 x8 w6).bind fun x9 => some (x9, w6)) else some (0, w))
set_option maxHeartbeats 4000000 in
set_option maxRecDepth 20000 in
theorem dc_jg_pop {a0 : Nat} {w : tb_Hp} {o : Int64 × tb_Hp} (h : fb_jg_pop a0 w = some o) : tb_Ev tb_P 0 82 (0, tb_ent [.ref a0], [], w) (some (.long o.1), o.2) := by
  unfold fb_jg_pop at h
  obtain ⟨r, hr⟩ : ∃ r : Option Value × tb_Hp, r = (some (.long o.1), o.2) := ⟨_, rfl⟩
  rw [← hr]
  show tb_Ev tb_P 0 82 (0, [(0, .ref a0)], [], w) r
  refine tb_Es (k := 1) (st' := (1, [(0, .ref a0)], [.ref a0], w)) rfl ?_
  replace h := Option.bind_eq_some_iff.mp h
  obtain ⟨x1, ex1, h⟩ := h
  refine tb_e_gI rfl ex1 ?_
  refine tb_b_ile rfl (fun hc => ?_) (fun hc => ?_)
  · rw [if_pos hc] at h
    refine tb_Es (k := 1) (st' := (4, [(0, .ref a0)], [.ref a0], w)) rfl ?_
    replace h := Option.bind_eq_some_iff.mp h
    obtain ⟨x2, ex2, h⟩ := h
    refine tb_e_gI rfl ex2 ?_
    refine tb_Es (k := 1) (st' := (6, [(0, .ref a0)], [.ref a0, .int x2], w)) rfl ?_
    replace h := Option.bind_eq_some_iff.mp h
    obtain ⟨p3, ep3, h⟩ := h
    refine tb_e_gN rfl ep3 ?_
    replace h := Option.bind_eq_some_iff.mp h
    obtain ⟨x4, ex4, h⟩ := h
    refine tb_e_al rfl ex4 ?_
    refine tb_b_cle rfl (fun hc => ?_) (fun hc => ?_)
    · rw [if_pos hc] at h
      refine tb_Es (k := 1) (st' := (10, [(0, .ref a0)], [.long 0], w)) rfl ?_
      obtain rfl := Option.some.inj h
      subst hr
      exact tb_Er rfl rfl
    · rw [if_neg hc] at h
      refine tb_Es (k := 2) (st' := (13, [(0, .ref a0)], [.ref a0, .ref a0], w)) rfl ?_
      replace h := Option.bind_eq_some_iff.mp h
      obtain ⟨x5, ex5, h⟩ := h
      refine tb_e_gI rfl ex5 ?_
      refine tb_Es (k := 2) (st' := (16, [(0, .ref a0)], [.int (x5 - 1), .ref a0], w)) rfl ?_
      replace h := Option.bind_eq_some_iff.mp h
      obtain ⟨w6, ew6, h⟩ := h
      refine tb_e_pI rfl ew6 ?_
      refine tb_Es (k := 1) (st' := (18, [(0, .ref a0)], [.ref a0], w6)) rfl ?_
      replace h := Option.bind_eq_some_iff.mp h
      obtain ⟨p7, ep7, h⟩ := h
      refine tb_e_gN rfl ep7 ?_
      refine tb_Es (k := 1) (st' := (20, [(0, .ref a0)], [.ref a0, .ref p7], w6)) rfl ?_
      replace h := Option.bind_eq_some_iff.mp h
      obtain ⟨x8, ex8, h⟩ := h
      refine tb_e_gI rfl ex8 ?_
      replace h := Option.bind_eq_some_iff.mp h
      obtain ⟨x9, ex9, h⟩ := h
      refine tb_e_lJ rfl ex9 ?_
      obtain rfl := Option.some.inj h
      subst hr
      exact tb_Er rfl rfl
  · rw [if_neg hc] at h
    refine tb_Es (k := 1) (st' := (10, [(0, .ref a0)], [.long 0], w)) rfl ?_
    obtain rfl := Option.some.inj h
    subst hr
    exact tb_Er rfl rfl
/-! TannerBunting$Judge.reckon(IJJ)J -/
def fb_jg_reckon (a0 : Int32) (a1 : Int64) (a2 : Int64) (w : tb_Hp) : Option (Int64 × tb_Hp) := (if a0 = 7 then some (a1 + a2, w) else (if a0 = 8 then some (a1 - a2, w) else (if a0 = 9 then some (a1 * a2, w) else (if a0 = 10 then (if (lg_cmp a2 0) = 0 then some (0, w) else if a2 = 0 then none else some (a1 / a2, w)) else (if a0 = 11 then (if (lg_cmp a2 0) = 0 then some (0, w) else if a2 = 0 then none else some (a1 - a1 / a2 * a2, w)) else some (0, w))))))
set_option maxHeartbeats 4000000 in
set_option maxRecDepth 20000 in
theorem dc_jg_reckon {a0 : Int32} {a1 : Int64} {a2 : Int64} {w : tb_Hp} {o : Int64 × tb_Hp} (h : fb_jg_reckon a0 a1 a2 w = some o) : tb_Ev tb_P 0 83 (0, tb_ent [.int a0, .long a1, .long a2], [], w) (some (.long o.1), o.2) := by
  unfold fb_jg_reckon at h
  obtain ⟨r, hr⟩ : ∃ r : Option Value × tb_Hp, r = (some (.long o.1), o.2) := ⟨_, rfl⟩
  rw [← hr]
  show tb_Ev tb_P 0 83 (0, [(0, .int a0), (1, .long a1), (3, .long a2)], [], w) r
  refine tb_Es (k := 1) (st' := (1, [(0, .int a0), (1, .long a1), (3, .long a2)], [.int a0], w)) rfl ?_
  refine tb_w_tab rfl (by decide) ?_
  refine tb_w_one (k := 7) (by decide) (fun hc => ?_) (fun hc => ?_)
  · rw [if_pos hc] at h
    refine tb_Es (k := 3) (st' := (5, [(0, .int a0), (1, .long a1), (3, .long a2)], [.long (a1 + a2)], w)) rfl ?_
    obtain rfl := Option.some.inj h
    subst hr
    exact tb_Er rfl rfl
  rw [if_neg hc] at h
  refine tb_w_one (k := 8) (by decide) (fun hc => ?_) (fun hc => ?_)
  · rw [if_pos hc] at h
    refine tb_Es (k := 3) (st' := (9, [(0, .int a0), (1, .long a1), (3, .long a2)], [.long (a1 - a2)], w)) rfl ?_
    obtain rfl := Option.some.inj h
    subst hr
    exact tb_Er rfl rfl
  rw [if_neg hc] at h
  refine tb_w_one (k := 9) (by decide) (fun hc => ?_) (fun hc => ?_)
  · rw [if_pos hc] at h
    refine tb_Es (k := 3) (st' := (13, [(0, .int a0), (1, .long a1), (3, .long a2)], [.long (a1 * a2)], w)) rfl ?_
    obtain rfl := Option.some.inj h
    subst hr
    exact tb_Er rfl rfl
  rw [if_neg hc] at h
  refine tb_w_one (k := 10) (by decide) (fun hc => ?_) (fun hc => ?_)
  · rw [if_pos hc] at h
    refine tb_Es (k := 3) (st' := (17, [(0, .int a0), (1, .long a1), (3, .long a2)], [.int (lg_cmp a2 0)], w)) rfl ?_
    refine tb_b_ine rfl (fun hc => ?_) (fun hc => ?_)
    · rw [if_pos hc] at h
      refine tb_Es (k := 2) (st' := (23, [(0, .int a0), (1, .long a1), (3, .long a2)], [.long 0], w)) rfl ?_
      obtain rfl := Option.some.inj h
      subst hr
      exact tb_Er rfl rfl
    · rw [if_neg hc] at h
      refine tb_Es (k := 2) (st' := (22, [(0, .int a0), (1, .long a1), (3, .long a2)], [.long a2, .long a1], w)) rfl ?_
      by_cases hz : a2 = 0
      · rw [if_pos hz] at h
        cases h
      rw [if_neg hz] at h
      refine tb_e_ldiv rfl hz ?_
      obtain rfl := Option.some.inj h
      subst hr
      exact tb_Er rfl rfl
  rw [if_neg hc] at h
  refine tb_w_one (k := 11) (by decide) (fun hc => ?_) (fun hc => ?_)
  · rw [if_pos hc] at h
    refine tb_Es (k := 3) (st' := (27, [(0, .int a0), (1, .long a1), (3, .long a2)], [.int (lg_cmp a2 0)], w)) rfl ?_
    refine tb_b_ine rfl (fun hc => ?_) (fun hc => ?_)
    · rw [if_pos hc] at h
      refine tb_Es (k := 2) (st' := (33, [(0, .int a0), (1, .long a1), (3, .long a2)], [.long 0], w)) rfl ?_
      obtain rfl := Option.some.inj h
      subst hr
      exact tb_Er rfl rfl
    · rw [if_neg hc] at h
      refine tb_Es (k := 2) (st' := (32, [(0, .int a0), (1, .long a1), (3, .long a2)], [.long a2, .long a1], w)) rfl ?_
      by_cases hz : a2 = 0
      · rw [if_pos hz] at h
        cases h
      rw [if_neg hz] at h
      refine tb_e_lrem rfl hz ?_
      obtain rfl := Option.some.inj h
      subst hr
      exact tb_Er rfl rfl
  rw [if_neg hc] at h
  refine tb_w_end ?_
  refine tb_Es (k := 1) (st' := (35, [(0, .int a0), (1, .long a1), (3, .long a2)], [.long 0], w)) rfl ?_
  obtain rfl := Option.some.inj h
  subst hr
  exact tb_Er rfl rfl
/-! TannerBunting$Judge.truth(IJJ)J -/
def fj_jg_truth_j9 (s0 : Int32) (w : tb_Hp) : Option (Int64 × tb_Hp) := (if s0 = 0 then some (0, w) else some (1, w))
set_option maxHeartbeats 4000000 in
set_option maxRecDepth 20000 in
theorem dj_jg_truth_j9 (s0 : Int32) (w : tb_Hp) (o : Int64 × tb_Hp) (h : fj_jg_truth_j9 s0 w = some o) (r : Option Value × tb_Hp) (hr : r = (some (.long o.1), o.2)) : tb_Ev tb_P 0 84 (10, [], [.int s0], w) r := by
  unfold fj_jg_truth_j9 at h
  refine tb_Es (k := 3) (st' := (83, [(5, .int s0)], [.int s0], w)) rfl ?_
  refine tb_b_ieq rfl (fun hc => ?_) (fun hc => ?_)
  · rw [if_pos hc] at h
    refine tb_Es (k := 1) (st' := (87, [(5, .int s0)], [.long 0], w)) rfl ?_
    obtain rfl := Option.some.inj h
    subst hr
    exact tb_Er rfl rfl
  · rw [if_neg hc] at h
    refine tb_Es (k := 2) (st' := (87, [(5, .int s0)], [.long 1], w)) rfl ?_
    obtain rfl := Option.some.inj h
    subst hr
    exact tb_Er rfl rfl
def fj_jg_truth_j18 (s0 : Int32) (w : tb_Hp) : Option (Int64 × tb_Hp) := (if s0 = 0 then some (0, w) else some (1, w))
set_option maxHeartbeats 4000000 in
set_option maxRecDepth 20000 in
theorem dj_jg_truth_j18 (s0 : Int32) (w : tb_Hp) (o : Int64 × tb_Hp) (h : fj_jg_truth_j18 s0 w = some o) (r : Option Value × tb_Hp) (hr : r = (some (.long o.1), o.2)) : tb_Ev tb_P 0 84 (20, [], [.int s0], w) r := by
  unfold fj_jg_truth_j18 at h
  refine tb_Es (k := 3) (st' := (83, [(5, .int s0)], [.int s0], w)) rfl ?_
  refine tb_b_ieq rfl (fun hc => ?_) (fun hc => ?_)
  · rw [if_pos hc] at h
    refine tb_Es (k := 1) (st' := (87, [(5, .int s0)], [.long 0], w)) rfl ?_
    obtain rfl := Option.some.inj h
    subst hr
    exact tb_Er rfl rfl
  · rw [if_neg hc] at h
    refine tb_Es (k := 2) (st' := (87, [(5, .int s0)], [.long 1], w)) rfl ?_
    obtain rfl := Option.some.inj h
    subst hr
    exact tb_Er rfl rfl
def fj_jg_truth_j27 (s0 : Int32) (w : tb_Hp) : Option (Int64 × tb_Hp) := (if s0 = 0 then some (0, w) else some (1, w))
set_option maxHeartbeats 4000000 in
set_option maxRecDepth 20000 in
theorem dj_jg_truth_j27 (s0 : Int32) (w : tb_Hp) (o : Int64 × tb_Hp) (h : fj_jg_truth_j27 s0 w = some o) (r : Option Value × tb_Hp) (hr : r = (some (.long o.1), o.2)) : tb_Ev tb_P 0 84 (30, [], [.int s0], w) r := by
  unfold fj_jg_truth_j27 at h
  refine tb_Es (k := 3) (st' := (83, [(5, .int s0)], [.int s0], w)) rfl ?_
  refine tb_b_ieq rfl (fun hc => ?_) (fun hc => ?_)
  · rw [if_pos hc] at h
    refine tb_Es (k := 1) (st' := (87, [(5, .int s0)], [.long 0], w)) rfl ?_
    obtain rfl := Option.some.inj h
    subst hr
    exact tb_Er rfl rfl
  · rw [if_neg hc] at h
    refine tb_Es (k := 2) (st' := (87, [(5, .int s0)], [.long 1], w)) rfl ?_
    obtain rfl := Option.some.inj h
    subst hr
    exact tb_Er rfl rfl
def fj_jg_truth_j36 (s0 : Int32) (w : tb_Hp) : Option (Int64 × tb_Hp) := (if s0 = 0 then some (0, w) else some (1, w))
set_option maxHeartbeats 4000000 in
set_option maxRecDepth 20000 in
theorem dj_jg_truth_j36 (s0 : Int32) (w : tb_Hp) (o : Int64 × tb_Hp) (h : fj_jg_truth_j36 s0 w = some o) (r : Option Value × tb_Hp) (hr : r = (some (.long o.1), o.2)) : tb_Ev tb_P 0 84 (40, [], [.int s0], w) r := by
  unfold fj_jg_truth_j36 at h
  refine tb_Es (k := 3) (st' := (83, [(5, .int s0)], [.int s0], w)) rfl ?_
  refine tb_b_ieq rfl (fun hc => ?_) (fun hc => ?_)
  · rw [if_pos hc] at h
    refine tb_Es (k := 1) (st' := (87, [(5, .int s0)], [.long 0], w)) rfl ?_
    obtain rfl := Option.some.inj h
    subst hr
    exact tb_Er rfl rfl
  · rw [if_neg hc] at h
    refine tb_Es (k := 2) (st' := (87, [(5, .int s0)], [.long 1], w)) rfl ?_
    obtain rfl := Option.some.inj h
    subst hr
    exact tb_Er rfl rfl
def fj_jg_truth_j45 (s0 : Int32) (w : tb_Hp) : Option (Int64 × tb_Hp) := (if s0 = 0 then some (0, w) else some (1, w))
set_option maxHeartbeats 4000000 in
set_option maxRecDepth 20000 in
theorem dj_jg_truth_j45 (s0 : Int32) (w : tb_Hp) (o : Int64 × tb_Hp) (h : fj_jg_truth_j45 s0 w = some o) (r : Option Value × tb_Hp) (hr : r = (some (.long o.1), o.2)) : tb_Ev tb_P 0 84 (50, [], [.int s0], w) r := by
  unfold fj_jg_truth_j45 at h
  refine tb_Es (k := 3) (st' := (83, [(5, .int s0)], [.int s0], w)) rfl ?_
  refine tb_b_ieq rfl (fun hc => ?_) (fun hc => ?_)
  · rw [if_pos hc] at h
    refine tb_Es (k := 1) (st' := (87, [(5, .int s0)], [.long 0], w)) rfl ?_
    obtain rfl := Option.some.inj h
    subst hr
    exact tb_Er rfl rfl
  · rw [if_neg hc] at h
    refine tb_Es (k := 2) (st' := (87, [(5, .int s0)], [.long 1], w)) rfl ?_
    obtain rfl := Option.some.inj h
    subst hr
    exact tb_Er rfl rfl
def fj_jg_truth_j71 (s0 : Int32) (w : tb_Hp) : Option (Int64 × tb_Hp) := (if s0 = 0 then some (0, w) else some (1, w))
set_option maxHeartbeats 4000000 in
set_option maxRecDepth 20000 in
theorem dj_jg_truth_j71 (s0 : Int32) (w : tb_Hp) (o : Int64 × tb_Hp) (h : fj_jg_truth_j71 s0 w = some o) (r : Option Value × tb_Hp) (hr : r = (some (.long o.1), o.2)) : tb_Ev tb_P 0 84 (78, [], [.int s0], w) r := by
  unfold fj_jg_truth_j71 at h
  refine tb_Es (k := 3) (st' := (83, [(5, .int s0)], [.int s0], w)) rfl ?_
  refine tb_b_ieq rfl (fun hc => ?_) (fun hc => ?_)
  · rw [if_pos hc] at h
    refine tb_Es (k := 1) (st' := (87, [(5, .int s0)], [.long 0], w)) rfl ?_
    obtain rfl := Option.some.inj h
    subst hr
    exact tb_Er rfl rfl
  · rw [if_neg hc] at h
    refine tb_Es (k := 2) (st' := (87, [(5, .int s0)], [.long 1], w)) rfl ?_
    obtain rfl := Option.some.inj h
    subst hr
    exact tb_Er rfl rfl
def fj_jg_truth_j58 (s0 : Int32) (w : tb_Hp) : Option (Int64 × tb_Hp) := (if s0 = 0 then some (0, w) else some (1, w))
set_option maxHeartbeats 4000000 in
set_option maxRecDepth 20000 in
theorem dj_jg_truth_j58 (s0 : Int32) (w : tb_Hp) (o : Int64 × tb_Hp) (h : fj_jg_truth_j58 s0 w = some o) (r : Option Value × tb_Hp) (hr : r = (some (.long o.1), o.2)) : tb_Ev tb_P 0 84 (64, [], [.int s0], w) r := by
  unfold fj_jg_truth_j58 at h
  refine tb_Es (k := 3) (st' := (83, [(5, .int s0)], [.int s0], w)) rfl ?_
  refine tb_b_ieq rfl (fun hc => ?_) (fun hc => ?_)
  · rw [if_pos hc] at h
    refine tb_Es (k := 1) (st' := (87, [(5, .int s0)], [.long 0], w)) rfl ?_
    obtain rfl := Option.some.inj h
    subst hr
    exact tb_Er rfl rfl
  · rw [if_neg hc] at h
    refine tb_Es (k := 2) (st' := (87, [(5, .int s0)], [.long 1], w)) rfl ?_
    obtain rfl := Option.some.inj h
    subst hr
    exact tb_Er rfl rfl
def fb_jg_truth (a0 : Int32) (a1 : Int64) (a2 : Int64) (w : tb_Hp) : Option (Int64 × tb_Hp) := (if a0 = 12 then (if (lg_cmp a1 a2) < 0 then fj_jg_truth_j9 1 w else fj_jg_truth_j9 0 w) else (if a0 = 13 then (if (lg_cmp a1 a2) ≤ 0 then fj_jg_truth_j18 1 w else fj_jg_truth_j18 0 w) else (if a0 = 14 then (if (lg_cmp a1 a2) = 0 then fj_jg_truth_j27 1 w else fj_jg_truth_j27 0 w) else (if a0 = 15 then (if (lg_cmp a1 a2) < 0 then fj_jg_truth_j36 0 w else fj_jg_truth_j36 1 w) else (if a0 = 16 then (if 0 < (lg_cmp a1 a2) then fj_jg_truth_j45 1 w else fj_jg_truth_j45 0 w) else (if a0 = 36 then (if (lg_cmp a1 0) = 0 then (if (lg_cmp a2 0) = 0 then fj_jg_truth_j71 0 w else fj_jg_truth_j71 1 w) else fj_jg_truth_j71 1 w) else (if a0 = 37 then (if (lg_cmp a1 0) = 0 then fj_jg_truth_j58 0 w else (if (lg_cmp a2 0) = 0 then fj_jg_truth_j58 0 w else fj_jg_truth_j58 1 w)) else some (0, w))))))))
set_option maxHeartbeats 4000000 in
set_option maxRecDepth 20000 in
theorem dc_jg_truth {a0 : Int32} {a1 : Int64} {a2 : Int64} {w : tb_Hp} {o : Int64 × tb_Hp} (h : fb_jg_truth a0 a1 a2 w = some o) : tb_Ev tb_P 0 84 (0, tb_ent [.int a0, .long a1, .long a2], [], w) (some (.long o.1), o.2) := by
  unfold fb_jg_truth at h
  obtain ⟨r, hr⟩ : ∃ r : Option Value × tb_Hp, r = (some (.long o.1), o.2) := ⟨_, rfl⟩
  rw [← hr]
  show tb_Ev tb_P 0 84 (0, [(0, .int a0), (1, .long a1), (3, .long a2)], [], w) r
  refine tb_Es (k := 1) (st' := (1, [(0, .int a0), (1, .long a1), (3, .long a2)], [.int a0], w)) rfl ?_
  refine tb_w_lks rfl ?_
  refine tb_w_one (k := 12) (by decide) (fun hc => ?_) (fun hc => ?_)
  · rw [if_pos hc] at h
    refine tb_Es (k := 3) (st' := (5, [(0, .int a0), (1, .long a1), (3, .long a2)], [.int (lg_cmp a1 a2)], w)) rfl ?_
    refine tb_b_ige rfl (fun hc => ?_) (fun hc => ?_)
    · rw [if_pos hc] at h
      refine tb_Es (k := 3) (st' := (10, [], [.int 1], w)) rfl ?_
      exact dj_jg_truth_j9 1 w _ h r hr
    · rw [if_neg hc] at h
      refine tb_Es (k := 2) (st' := (10, [], [.int 0], w)) rfl ?_
      exact dj_jg_truth_j9 0 w _ h r hr
  rw [if_neg hc] at h
  refine tb_w_one (k := 13) (by decide) (fun hc => ?_) (fun hc => ?_)
  · rw [if_pos hc] at h
    refine tb_Es (k := 3) (st' := (15, [(0, .int a0), (1, .long a1), (3, .long a2)], [.int (lg_cmp a1 a2)], w)) rfl ?_
    refine tb_b_igt rfl (fun hc => ?_) (fun hc => ?_)
    · rw [if_pos hc] at h
      refine tb_Es (k := 3) (st' := (20, [], [.int 1], w)) rfl ?_
      exact dj_jg_truth_j18 1 w _ h r hr
    · rw [if_neg hc] at h
      refine tb_Es (k := 2) (st' := (20, [], [.int 0], w)) rfl ?_
      exact dj_jg_truth_j18 0 w _ h r hr
  rw [if_neg hc] at h
  refine tb_w_one (k := 14) (by decide) (fun hc => ?_) (fun hc => ?_)
  · rw [if_pos hc] at h
    refine tb_Es (k := 3) (st' := (25, [(0, .int a0), (1, .long a1), (3, .long a2)], [.int (lg_cmp a1 a2)], w)) rfl ?_
    refine tb_b_ine rfl (fun hc => ?_) (fun hc => ?_)
    · rw [if_pos hc] at h
      refine tb_Es (k := 3) (st' := (30, [], [.int 1], w)) rfl ?_
      exact dj_jg_truth_j27 1 w _ h r hr
    · rw [if_neg hc] at h
      refine tb_Es (k := 2) (st' := (30, [], [.int 0], w)) rfl ?_
      exact dj_jg_truth_j27 0 w _ h r hr
  rw [if_neg hc] at h
  refine tb_w_one (k := 15) (by decide) (fun hc => ?_) (fun hc => ?_)
  · rw [if_pos hc] at h
    refine tb_Es (k := 3) (st' := (35, [(0, .int a0), (1, .long a1), (3, .long a2)], [.int (lg_cmp a1 a2)], w)) rfl ?_
    refine tb_b_ilt rfl (fun hc => ?_) (fun hc => ?_)
    · rw [if_pos hc] at h
      refine tb_Es (k := 2) (st' := (40, [], [.int 0], w)) rfl ?_
      exact dj_jg_truth_j36 0 w _ h r hr
    · rw [if_neg hc] at h
      refine tb_Es (k := 3) (st' := (40, [], [.int 1], w)) rfl ?_
      exact dj_jg_truth_j36 1 w _ h r hr
  rw [if_neg hc] at h
  refine tb_w_one (k := 16) (by decide) (fun hc => ?_) (fun hc => ?_)
  · rw [if_pos hc] at h
    refine tb_Es (k := 3) (st' := (45, [(0, .int a0), (1, .long a1), (3, .long a2)], [.int (lg_cmp a1 a2)], w)) rfl ?_
    refine tb_b_ile rfl (fun hc => ?_) (fun hc => ?_)
    · rw [if_pos hc] at h
      refine tb_Es (k := 3) (st' := (50, [], [.int 1], w)) rfl ?_
      exact dj_jg_truth_j45 1 w _ h r hr
    · rw [if_neg hc] at h
      refine tb_Es (k := 2) (st' := (50, [], [.int 0], w)) rfl ?_
      exact dj_jg_truth_j45 0 w _ h r hr
  rw [if_neg hc] at h
  refine tb_w_one (k := 36) (by decide) (fun hc => ?_) (fun hc => ?_)
  · rw [if_pos hc] at h
    refine tb_Es (k := 3) (st' := (69, [(0, .int a0), (1, .long a1), (3, .long a2)], [.int (lg_cmp a1 0)], w)) rfl ?_
    refine tb_b_ine rfl (fun hc => ?_) (fun hc => ?_)
    · rw [if_pos hc] at h
      refine tb_Es (k := 3) (st' := (73, [(0, .int a0), (1, .long a1), (3, .long a2)], [.int (lg_cmp a2 0)], w)) rfl ?_
      refine tb_b_ieq rfl (fun hc => ?_) (fun hc => ?_)
      · rw [if_pos hc] at h
        refine tb_Es (k := 2) (st' := (78, [], [.int 0], w)) rfl ?_
        exact dj_jg_truth_j71 0 w _ h r hr
      · rw [if_neg hc] at h
        refine tb_Es (k := 3) (st' := (78, [], [.int 1], w)) rfl ?_
        exact dj_jg_truth_j71 1 w _ h r hr
    · rw [if_neg hc] at h
      refine tb_Es (k := 3) (st' := (78, [], [.int 1], w)) rfl ?_
      exact dj_jg_truth_j71 1 w _ h r hr
  rw [if_neg hc] at h
  refine tb_w_one (k := 37) (by decide) (fun hc => ?_) (fun hc => ?_)
  · rw [if_pos hc] at h
    refine tb_Es (k := 3) (st' := (55, [(0, .int a0), (1, .long a1), (3, .long a2)], [.int (lg_cmp a1 0)], w)) rfl ?_
    refine tb_b_ieq rfl (fun hc => ?_) (fun hc => ?_)
    · rw [if_pos hc] at h
      refine tb_Es (k := 2) (st' := (64, [], [.int 0], w)) rfl ?_
      exact dj_jg_truth_j58 0 w _ h r hr
    · rw [if_neg hc] at h
      refine tb_Es (k := 3) (st' := (59, [(0, .int a0), (1, .long a1), (3, .long a2)], [.int (lg_cmp a2 0)], w)) rfl ?_
      refine tb_b_ieq rfl (fun hc => ?_) (fun hc => ?_)
      · rw [if_pos hc] at h
        refine tb_Es (k := 2) (st' := (64, [], [.int 0], w)) rfl ?_
        exact dj_jg_truth_j58 0 w _ h r hr
      · rw [if_neg hc] at h
        refine tb_Es (k := 3) (st' := (64, [], [.int 1], w)) rfl ?_
        exact dj_jg_truth_j58 1 w _ h r hr
  rw [if_neg hc] at h
  refine tb_w_end ?_
  refine tb_Es (k := 5) (st' := (87, [(5, .int 0), (0, .int a0), (1, .long a1), (3, .long a2)], [.long 0], w)) rfl ?_
  obtain rfl := Option.some.inj h
  subst hr
  exact tb_Er rfl rfl
/-! TannerBunting$Street.leastNotUp()I -/
def fj_s_leastNotUp_j12 (k : Nat → Int32 → tb_Hp → Option (Int32 × tb_Hp)) (v1 : Int32) (w : tb_Hp) : Option (Int32 × tb_Hp) := some ((v1, w))
set_option maxHeartbeats 4000000 in
set_option maxRecDepth 20000 in
theorem dj_s_leastNotUp_j12 (k : Nat → Int32 → tb_Hp → Option (Int32 × tb_Hp)) (v1 : Int32) (w : tb_Hp) (o : Int32 × tb_Hp) (h : fj_s_leastNotUp_j12 k v1 w = some o) (r : Option Value × tb_Hp) (hx : r = (some (.int o.1), o.2)) (hk : ∀ (v0 : Nat) (v1 : Int32) (w : tb_Hp), k v0 v1 w = some o → tb_Ev tb_P 0 93 (3, [(0, .ref v0), (1, .int v1)], [], w) r) : tb_Ev tb_P 0 93 (14, [(1, .int v1)], [], w) r := by
  unfold fj_s_leastNotUp_j12 at h
  refine tb_Es (k := 1) (st' := (15, [(1, .int v1)], [.int v1], w)) rfl ?_
  obtain rfl := Option.some.inj h
  replace hx : r = _ := hx
  subst hx
  exact tb_Er rfl rfl
def fj_s_leastNotUp_j16 (k : Nat → Int32 → tb_Hp → Option (Int32 × tb_Hp)) (w : tb_Hp) : Option (Int32 × tb_Hp) := some ((-1, w))
set_option maxHeartbeats 4000000 in
set_option maxRecDepth 20000 in
theorem dj_s_leastNotUp_j16 (k : Nat → Int32 → tb_Hp → Option (Int32 × tb_Hp)) (w : tb_Hp) (o : Int32 × tb_Hp) (h : fj_s_leastNotUp_j16 k  w = some o) (r : Option Value × tb_Hp) (hx : r = (some (.int o.1), o.2)) (hk : ∀ (v0 : Nat) (v1 : Int32) (w : tb_Hp), k v0 v1 w = some o → tb_Ev tb_P 0 93 (3, [(0, .ref v0), (1, .int v1)], [], w) r) : tb_Ev tb_P 0 93 (19, [], [], w) r := by
  unfold fj_s_leastNotUp_j16 at h
  refine tb_Es (k := 1) (st' := (20, [], [.int (-1)], w)) rfl ?_
  obtain rfl := Option.some.inj h
  replace hx : r = _ := hx
  subst hx
  exact tb_Er rfl rfl
def fl_s_leastNotUp_2 : Nat → Nat → Int32 → tb_Hp → Option (Int32 × tb_Hp)
  | 0, _, _, _ => none
  | n + 1, v0, v1, w => (if v1 < 8 then (tb_gI 17 4 v0 w).bind fun x1 => (if ((x1 >>> (v1 &&& 31)) &&& 1) = 0 then fj_s_leastNotUp_j12 (fl_s_leastNotUp_2 n) v1 w else fl_s_leastNotUp_2 n v0 (v1 + 1) w) else fj_s_leastNotUp_j16 (fl_s_leastNotUp_2 n)  w)
set_option maxHeartbeats 4000000 in
set_option maxRecDepth 20000 in
theorem dl_s_leastNotUp_2 : ∀ (n : Nat) (v0 : Nat) (v1 : Int32) (w : tb_Hp) (o : Int32 × tb_Hp), fl_s_leastNotUp_2 n v0 v1 w = some o → ∀ (r : Option Value × tb_Hp), r = (some (.int o.1), o.2) → tb_Ev tb_P 0 93 (3, [(0, .ref v0), (1, .int v1)], [], w) r := by
  intro n
  induction n with
  | zero =>
    intro v0 v1 w o h
    cases h
  | succ n ih =>
    intro v0 v1 w o h r hx
    unfold fl_s_leastNotUp_2 at h
    refine tb_Es (k := 2) (st' := (5, [(0, .ref v0), (1, .int v1)], [.int 8, .int v1], w)) rfl ?_
    refine tb_b_cge rfl (fun hc => ?_) (fun hc => ?_)
    · rw [if_pos hc] at h
      refine tb_Es (k := 1) (st' := (7, [(0, .ref v0), (1, .int v1)], [.ref v0], w)) rfl ?_
      replace h := Option.bind_eq_some_iff.mp h
      obtain ⟨x1, ex1, h⟩ := h
      refine tb_e_gI rfl ex1 ?_
      refine tb_Es (k := 4) (st' := (12, [(0, .ref v0), (1, .int v1)], [.int ((x1 >>> (v1 &&& 31)) &&& 1)], w)) rfl ?_
      refine tb_b_ine rfl (fun hc => ?_) (fun hc => ?_)
      · rw [if_pos hc] at h
        refine tb_Es (k := 1) (st' := (14, [(1, .int v1)], [], w)) rfl ?_
        exact dj_s_leastNotUp_j12 (fl_s_leastNotUp_2 n) v1 w _ h r hx (fun v0_ v1_ w_ h_ => ih v0_ v1_ w_ _ h_ r hx)
      · rw [if_neg hc] at h
        refine tb_Es (k := 3) (st' := (3, [(0, .ref v0), (1, .int (v1 + 1))], [], w)) rfl ?_
        exact ih v0 (v1 + 1) w _ h r hx
    · rw [if_neg hc] at h
      refine tb_Es (k := 1) (st' := (19, [], [], w)) rfl ?_
      exact dj_s_leastNotUp_j16 (fl_s_leastNotUp_2 n)  w _ h r hx (fun v0_ v1_ w_ h_ => ih v0_ v1_ w_ _ h_ r hx)
def fb_s_leastNotUp (a0 : Nat) (w : tb_Hp) : Option (Int32 × tb_Hp) := (fl_s_leastNotUp_2 1048576 a0 0 w).bind fun o2 => some o2
set_option maxHeartbeats 4000000 in
set_option maxRecDepth 20000 in
theorem dc_s_leastNotUp {a0 : Nat} {w : tb_Hp} {o : Int32 × tb_Hp} (h : fb_s_leastNotUp a0 w = some o) : tb_Ev tb_P 0 93 (0, tb_ent [.ref a0], [], w) (some (.int o.1), o.2) := by
  unfold fb_s_leastNotUp at h
  obtain ⟨r, hr⟩ : ∃ r : Option Value × tb_Hp, r = (some (.int o.1), o.2) := ⟨_, rfl⟩
  rw [← hr]
  show tb_Ev tb_P 0 93 (0, [(0, .ref a0)], [], w) r
  refine tb_Es (k := 3) (st' := (3, [(0, .ref a0), (1, .int 0)], [], w)) rfl ?_
  replace h := Option.bind_eq_some_iff.mp h
  obtain ⟨o2, eo2, h⟩ := h
  refine dl_s_leastNotUp_2 _ a0 0 w _ eo2 r ?_
  obtain rfl := Option.some.inj h
  exact hr
/-! TannerBunting.leastOf(I)I -/
def fj_x_leastOf_j12 (k : Int32 → Int32 → tb_Hp → Option (Int32 × tb_Hp)) (v1 : Int32) (w : tb_Hp) : Option (Int32 × tb_Hp) := some ((v1, w))
set_option maxHeartbeats 4000000 in
set_option maxRecDepth 20000 in
theorem dj_x_leastOf_j12 (k : Int32 → Int32 → tb_Hp → Option (Int32 × tb_Hp)) (v1 : Int32) (w : tb_Hp) (o : Int32 × tb_Hp) (h : fj_x_leastOf_j12 k v1 w = some o) (r : Option Value × tb_Hp) (hx : r = (some (.int o.1), o.2)) (hk : ∀ (v0 : Int32) (v1 : Int32) (w : tb_Hp), k v0 v1 w = some o → tb_Ev tb_P 0 104 (3, [(0, .int v0), (1, .int v1)], [], w) r) : tb_Ev tb_P 0 104 (14, [(1, .int v1)], [], w) r := by
  unfold fj_x_leastOf_j12 at h
  refine tb_Es (k := 1) (st' := (15, [(1, .int v1)], [.int v1], w)) rfl ?_
  obtain rfl := Option.some.inj h
  replace hx : r = _ := hx
  subst hx
  exact tb_Er rfl rfl
def fj_x_leastOf_j16 (k : Int32 → Int32 → tb_Hp → Option (Int32 × tb_Hp)) (w : tb_Hp) : Option (Int32 × tb_Hp) := some ((-1, w))
set_option maxHeartbeats 4000000 in
set_option maxRecDepth 20000 in
theorem dj_x_leastOf_j16 (k : Int32 → Int32 → tb_Hp → Option (Int32 × tb_Hp)) (w : tb_Hp) (o : Int32 × tb_Hp) (h : fj_x_leastOf_j16 k  w = some o) (r : Option Value × tb_Hp) (hx : r = (some (.int o.1), o.2)) (hk : ∀ (v0 : Int32) (v1 : Int32) (w : tb_Hp), k v0 v1 w = some o → tb_Ev tb_P 0 104 (3, [(0, .int v0), (1, .int v1)], [], w) r) : tb_Ev tb_P 0 104 (19, [], [], w) r := by
  unfold fj_x_leastOf_j16 at h
  refine tb_Es (k := 1) (st' := (20, [], [.int (-1)], w)) rfl ?_
  obtain rfl := Option.some.inj h
  replace hx : r = _ := hx
  subst hx
  exact tb_Er rfl rfl
def fl_x_leastOf_2 : Nat → Int32 → Int32 → tb_Hp → Option (Int32 × tb_Hp)
  | 0, _, _, _ => none
  | n + 1, v0, v1, w => (if v1 < 10 then (if ((v0 >>> (v1 &&& 31)) &&& 1) = 1 then fj_x_leastOf_j12 (fl_x_leastOf_2 n) v1 w else fl_x_leastOf_2 n v0 (v1 + 1) w) else fj_x_leastOf_j16 (fl_x_leastOf_2 n)  w)
set_option maxHeartbeats 4000000 in
set_option maxRecDepth 20000 in
theorem dl_x_leastOf_2 : ∀ (n : Nat) (v0 : Int32) (v1 : Int32) (w : tb_Hp) (o : Int32 × tb_Hp), fl_x_leastOf_2 n v0 v1 w = some o → ∀ (r : Option Value × tb_Hp), r = (some (.int o.1), o.2) → tb_Ev tb_P 0 104 (3, [(0, .int v0), (1, .int v1)], [], w) r := by
  intro n
  induction n with
  | zero =>
    intro v0 v1 w o h
    cases h
  | succ n ih =>
    intro v0 v1 w o h r hx
    unfold fl_x_leastOf_2 at h
    refine tb_Es (k := 2) (st' := (5, [(0, .int v0), (1, .int v1)], [.int 10, .int v1], w)) rfl ?_
    refine tb_b_cge rfl (fun hc => ?_) (fun hc => ?_)
    · rw [if_pos hc] at h
      refine tb_Es (k := 6) (st' := (12, [(0, .int v0), (1, .int v1)], [.int 1, .int ((v0 >>> (v1 &&& 31)) &&& 1)], w)) rfl ?_
      refine tb_b_cne rfl (fun hc => ?_) (fun hc => ?_)
      · rw [if_pos hc] at h
        refine tb_Es (k := 1) (st' := (14, [(1, .int v1)], [], w)) rfl ?_
        exact dj_x_leastOf_j12 (fl_x_leastOf_2 n) v1 w _ h r hx (fun v0_ v1_ w_ h_ => ih v0_ v1_ w_ _ h_ r hx)
      · rw [if_neg hc] at h
        refine tb_Es (k := 3) (st' := (3, [(0, .int v0), (1, .int (v1 + 1))], [], w)) rfl ?_
        exact ih v0 (v1 + 1) w _ h r hx
    · rw [if_neg hc] at h
      refine tb_Es (k := 1) (st' := (19, [], [], w)) rfl ?_
      exact dj_x_leastOf_j16 (fl_x_leastOf_2 n)  w _ h r hx (fun v0_ v1_ w_ h_ => ih v0_ v1_ w_ _ h_ r hx)
def fb_x_leastOf (a0 : Int32) (w : tb_Hp) : Option (Int32 × tb_Hp) := (fl_x_leastOf_2 1048576 a0 0 w).bind fun o1 => some o1
set_option maxHeartbeats 4000000 in
set_option maxRecDepth 20000 in
theorem dc_x_leastOf {a0 : Int32} {w : tb_Hp} {o : Int32 × tb_Hp} (h : fb_x_leastOf a0 w = some o) : tb_Ev tb_P 0 104 (0, tb_ent [.int a0], [], w) (some (.int o.1), o.2) := by
  unfold fb_x_leastOf at h
  obtain ⟨r, hr⟩ : ∃ r : Option Value × tb_Hp, r = (some (.int o.1), o.2) := ⟨_, rfl⟩
  rw [← hr]
  show tb_Ev tb_P 0 104 (0, [(0, .int a0)], [], w) r
  refine tb_Es (k := 3) (st' := (3, [(0, .int a0), (1, .int 0)], [], w)) rfl ?_
  replace h := Option.bind_eq_some_iff.mp h
  obtain ⟨o1, eo1, h⟩ := h
  refine dl_x_leastOf_2 _ a0 0 w _ eo1 r ?_
  obtain rfl := Option.some.inj h
  exact hr
/-! TannerBunting$Hands.pairsFrom(II)I -/
def fb_h_pairsFrom (a0 : Nat) (a1 : Int32) (a2 : Int32) (w : tb_Hp) : Option (Int32 × tb_Hp) := (if ((a1 * 32) + a2) < 0 then some (0, w) else (tb_gN 10 1 a0 w).bind fun p1 => (tb_al p1 w).bind fun x2 => (if ((a1 * 32) + a2) < x2 then (tb_gN 10 1 a0 w).bind fun p3 => (tb_lI [1, 9] p3 ((a1 * 32) + a2) w).bind fun x4 => some (x4, w) else some (0, w)))
set_option maxHeartbeats 4000000 in
set_option maxRecDepth 20000 in
theorem dc_h_pairsFrom {a0 : Nat} {a1 : Int32} {a2 : Int32} {w : tb_Hp} {o : Int32 × tb_Hp} (h : fb_h_pairsFrom a0 a1 a2 w = some o) : tb_Ev tb_P 0 130 (0, tb_ent [.ref a0, .int a1, .int a2], [], w) (some (.int o.1), o.2) := by
  unfold fb_h_pairsFrom at h
  obtain ⟨r, hr⟩ : ∃ r : Option Value × tb_Hp, r = (some (.int o.1), o.2) := ⟨_, rfl⟩
  rw [← hr]
  show tb_Ev tb_P 0 130 (0, [(0, .ref a0), (1, .int a1), (2, .int a2)], [], w) r
  refine tb_Es (k := 7) (st' := (7, [(3, .int ((a1 * 32) + a2)), (0, .ref a0), (1, .int a1), (2, .int a2)], [.int ((a1 * 32) + a2)], w)) rfl ?_
  refine tb_b_ilt rfl (fun hc => ?_) (fun hc => ?_)
  · rw [if_pos hc] at h
    refine tb_Es (k := 1) (st' := (19, [(3, .int ((a1 * 32) + a2)), (0, .ref a0), (1, .int a1), (2, .int a2)], [.int 0], w)) rfl ?_
    obtain rfl := Option.some.inj h
    subst hr
    exact tb_Er rfl rfl
  · rw [if_neg hc] at h
    refine tb_Es (k := 2) (st' := (10, [(3, .int ((a1 * 32) + a2)), (0, .ref a0), (1, .int a1), (2, .int a2)], [.ref a0, .int ((a1 * 32) + a2)], w)) rfl ?_
    replace h := Option.bind_eq_some_iff.mp h
    obtain ⟨p1, ep1, h⟩ := h
    refine tb_e_gN rfl ep1 ?_
    replace h := Option.bind_eq_some_iff.mp h
    obtain ⟨x2, ex2, h⟩ := h
    refine tb_e_al rfl ex2 ?_
    refine tb_b_cge rfl (fun hc => ?_) (fun hc => ?_)
    · rw [if_pos hc] at h
      refine tb_Es (k := 1) (st' := (14, [(3, .int ((a1 * 32) + a2)), (0, .ref a0), (1, .int a1), (2, .int a2)], [.ref a0], w)) rfl ?_
      replace h := Option.bind_eq_some_iff.mp h
      obtain ⟨p3, ep3, h⟩ := h
      refine tb_e_gN rfl ep3 ?_
      refine tb_Es (k := 1) (st' := (16, [(3, .int ((a1 * 32) + a2)), (0, .ref a0), (1, .int a1), (2, .int a2)], [.int ((a1 * 32) + a2), .ref p3], w)) rfl ?_
      replace h := Option.bind_eq_some_iff.mp h
      obtain ⟨x4, ex4, h⟩ := h
      refine tb_e_lI rfl (Or.inl ⟨rfl, rfl⟩) ex4 ?_
      refine tb_Es (k := 1) (st' := (19, [(3, .int ((a1 * 32) + a2)), (0, .ref a0), (1, .int a1), (2, .int a2)], [.int x4], w)) rfl ?_
      obtain rfl := Option.some.inj h
      subst hr
      exact tb_Er rfl rfl
    · rw [if_neg hc] at h
      refine tb_Es (k := 1) (st' := (19, [(3, .int ((a1 * 32) + a2)), (0, .ref a0), (1, .int a1), (2, .int a2)], [.int 0], w)) rfl ?_
      obtain rfl := Option.some.inj h
      subst hr
      exact tb_Er rfl rfl
