/-! TannerBunting$Hands.setPairs(III)V -/
def fb_h_setPairs (a0 : Nat) (a1 : Int32) (a2 : Int32) (a3 : Int32) (w : tb_Hp) : Option (tb_Hp) := (if ((a1 * 32) + a2) < 0 then some w else (tb_gN 10 1 a0 w).bind fun p1 => (tb_al p1 w).bind fun x2 => (if ((a1 * 32) + a2) < x2 then (tb_gN 10 1 a0 w).bind fun p3 => (tb_tI p3 ((a1 * 32) + a2) a3 w).bind fun w4 => some w4 else some w))
set_option maxHeartbeats 4000000 in
set_option maxRecDepth 20000 in
theorem dc_h_setPairs {a0 : Nat} {a1 : Int32} {a2 : Int32} {a3 : Int32} {w : tb_Hp} {o : tb_Hp} (h : fb_h_setPairs a0 a1 a2 a3 w = some o) : tb_Ev tb_P 0 131 (0, tb_ent [.ref a0, .int a1, .int a2, .int a3], [], w) (none, o) := by
  unfold fb_h_setPairs at h
  obtain ⟨r, hr⟩ : ∃ r : Option Value × tb_Hp, r = (none, o) := ⟨_, rfl⟩
  rw [← hr]
  show tb_Ev tb_P 0 131 (0, [(0, .ref a0), (1, .int a1), (2, .int a2), (3, .int a3)], [], w) r
  refine tb_Es (k := 7) (st' := (7, [(4, .int ((a1 * 32) + a2)), (0, .ref a0), (1, .int a1), (2, .int a2), (3, .int a3)], [.int ((a1 * 32) + a2)], w)) rfl ?_
  refine tb_b_ilt rfl (fun hc => ?_) (fun hc => ?_)
  · rw [if_pos hc] at h
    obtain rfl := Option.some.inj h
    subst hr
    exact tb_Er rfl rfl
  · rw [if_neg hc] at h
    refine tb_Es (k := 2) (st' := (10, [(4, .int ((a1 * 32) + a2)), (0, .ref a0), (1, .int a1), (2, .int a2), (3, .int a3)], [.ref a0, .int ((a1 * 32) + a2)], w)) rfl ?_
    replace h := Option.bind_eq_some_iff.mp h
    obtain ⟨p1, ep1, h⟩ := h
    refine tb_e_gN rfl ep1 ?_
    replace h := Option.bind_eq_some_iff.mp h
    obtain ⟨x2, ex2, h⟩ := h
    refine tb_e_al rfl ex2 ?_
    refine tb_b_cge rfl (fun hc => ?_) (fun hc => ?_)
    · rw [if_pos hc] at h
      refine tb_Es (k := 1) (st' := (14, [(4, .int ((a1 * 32) + a2)), (0, .ref a0), (1, .int a1), (2, .int a2), (3, .int a3)], [.ref a0], w)) rfl ?_
      replace h := Option.bind_eq_some_iff.mp h
      obtain ⟨p3, ep3, h⟩ := h
      refine tb_e_gN rfl ep3 ?_
      refine tb_Es (k := 2) (st' := (17, [(4, .int ((a1 * 32) + a2)), (0, .ref a0), (1, .int a1), (2, .int a2), (3, .int a3)], [.int a3, .int ((a1 * 32) + a2), .ref p3], w)) rfl ?_
      replace h := Option.bind_eq_some_iff.mp h
      obtain ⟨w4, ew4, h⟩ := h
      refine tb_e_tI rfl ew4 ?_
      obtain rfl := Option.some.inj h
      subst hr
      exact tb_Er rfl rfl
    · rw [if_neg hc] at h
      obtain rfl := Option.some.inj h
      subst hr
      exact tb_Er rfl rfl
/-! TannerBunting$Hands.partnerOf(I)I -/
def fb_h_partnerOf (a0 : Nat) (a1 : Int32) (w : tb_Hp) : Option (Int32 × tb_Hp) := (if a1 < 0 then some (-1, w) else (tb_gN 10 2 a0 w).bind fun p1 => (tb_al p1 w).bind fun x2 => (if a1 < x2 then (tb_gN 10 2 a0 w).bind fun p3 => (tb_lI [1, 9] p3 a1 w).bind fun x4 => some (x4, w) else some (-1, w)))
set_option maxHeartbeats 4000000 in
set_option maxRecDepth 20000 in
theorem dc_h_partnerOf {a0 : Nat} {a1 : Int32} {w : tb_Hp} {o : Int32 × tb_Hp} (h : fb_h_partnerOf a0 a1 w = some o) : tb_Ev tb_P 0 133 (0, tb_ent [.ref a0, .int a1], [], w) (some (.int o.1), o.2) := by
  unfold fb_h_partnerOf at h
  obtain ⟨r, hr⟩ : ∃ r : Option Value × tb_Hp, r = (some (.int o.1), o.2) := ⟨_, rfl⟩
  rw [← hr]
  show tb_Ev tb_P 0 133 (0, [(0, .ref a0), (1, .int a1)], [], w) r
  refine tb_Es (k := 1) (st' := (1, [(0, .ref a0), (1, .int a1)], [.int a1], w)) rfl ?_
  refine tb_b_ilt rfl (fun hc => ?_) (fun hc => ?_)
  · rw [if_pos hc] at h
    refine tb_Es (k := 1) (st' := (13, [(0, .ref a0), (1, .int a1)], [.int (-1)], w)) rfl ?_
    obtain rfl := Option.some.inj h
    subst hr
    exact tb_Er rfl rfl
  · rw [if_neg hc] at h
    refine tb_Es (k := 2) (st' := (4, [(0, .ref a0), (1, .int a1)], [.ref a0, .int a1], w)) rfl ?_
    replace h := Option.bind_eq_some_iff.mp h
    obtain ⟨p1, ep1, h⟩ := h
    refine tb_e_gN rfl ep1 ?_
    replace h := Option.bind_eq_some_iff.mp h
    obtain ⟨x2, ex2, h⟩ := h
    refine tb_e_al rfl ex2 ?_
    refine tb_b_cge rfl (fun hc => ?_) (fun hc => ?_)
    · rw [if_pos hc] at h
      refine tb_Es (k := 1) (st' := (8, [(0, .ref a0), (1, .int a1)], [.ref a0], w)) rfl ?_
      replace h := Option.bind_eq_some_iff.mp h
      obtain ⟨p3, ep3, h⟩ := h
      refine tb_e_gN rfl ep3 ?_
      refine tb_Es (k := 1) (st' := (10, [(0, .ref a0), (1, .int a1)], [.int a1, .ref p3], w)) rfl ?_
      replace h := Option.bind_eq_some_iff.mp h
      obtain ⟨x4, ex4, h⟩ := h
      refine tb_e_lI rfl (Or.inl ⟨rfl, rfl⟩) ex4 ?_
      refine tb_Es (k := 1) (st' := (13, [(0, .ref a0), (1, .int a1)], [.int x4], w)) rfl ?_
      obtain rfl := Option.some.inj h
      subst hr
      exact tb_Er rfl rfl
    · rw [if_neg hc] at h
      refine tb_Es (k := 1) (st' := (13, [(0, .ref a0), (1, .int a1)], [.int (-1)], w)) rfl ?_
      obtain rfl := Option.some.inj h
      subst hr
      exact tb_Er rfl rfl
/-! TannerBunting$Years.takeIfMore(III)V -/
def fb_yr_takeIfMore (a0 : Nat) (a1 : Int32) (a2 : Int32) (a3 : Int32) (w : tb_Hp) : Option (tb_Hp) := (tb_gI 20 2 a0 w).bind fun x1 => (if x1 < a1 then (tb_pI 20 2 a0 a1 w).bind fun w2 => (tb_pI 20 3 a0 a2 w2).bind fun w3 => (tb_pI 20 4 a0 a3 w3).bind fun w4 => some w4 else some w)
set_option maxHeartbeats 4000000 in
set_option maxRecDepth 20000 in
theorem dc_yr_takeIfMore {a0 : Nat} {a1 : Int32} {a2 : Int32} {a3 : Int32} {w : tb_Hp} {o : tb_Hp} (h : fb_yr_takeIfMore a0 a1 a2 a3 w = some o) : tb_Ev tb_P 0 136 (0, tb_ent [.ref a0, .int a1, .int a2, .int a3], [], w) (none, o) := by
  unfold fb_yr_takeIfMore at h
  obtain ⟨r, hr⟩ : ∃ r : Option Value × tb_Hp, r = (none, o) := ⟨_, rfl⟩
  rw [← hr]
  show tb_Ev tb_P 0 136 (0, [(0, .ref a0), (1, .int a1), (2, .int a2), (3, .int a3)], [], w) r
  refine tb_Es (k := 2) (st' := (2, [(0, .ref a0), (1, .int a1), (2, .int a2), (3, .int a3)], [.ref a0, .int a1], w)) rfl ?_
  replace h := Option.bind_eq_some_iff.mp h
  obtain ⟨x1, ex1, h⟩ := h
  refine tb_e_gI rfl ex1 ?_
  refine tb_b_cle rfl (fun hc => ?_) (fun hc => ?_)
  · rw [if_pos hc] at h
    refine tb_Es (k := 2) (st' := (6, [(0, .ref a0), (1, .int a1), (2, .int a2), (3, .int a3)], [.int a1, .ref a0], w)) rfl ?_
    replace h := Option.bind_eq_some_iff.mp h
    obtain ⟨w2, ew2, h⟩ := h
    refine tb_e_pI rfl ew2 ?_
    refine tb_Es (k := 2) (st' := (9, [(0, .ref a0), (1, .int a1), (2, .int a2), (3, .int a3)], [.int a2, .ref a0], w2)) rfl ?_
    replace h := Option.bind_eq_some_iff.mp h
    obtain ⟨w3, ew3, h⟩ := h
    refine tb_e_pI rfl ew3 ?_
    refine tb_Es (k := 2) (st' := (12, [(0, .ref a0), (1, .int a1), (2, .int a2), (3, .int a3)], [.int a3, .ref a0], w3)) rfl ?_
    replace h := Option.bind_eq_some_iff.mp h
    obtain ⟨w4, ew4, h⟩ := h
    refine tb_e_pI rfl ew4 ?_
    obtain rfl := Option.some.inj h
    subst hr
    exact tb_Er rfl rfl
  · rw [if_neg hc] at h
    obtain rfl := Option.some.inj h
    subst hr
    exact tb_Er rfl rfl
/-! TannerBunting$Story.forget()V -/
def fb_so_forget (a0 : Nat) (w : tb_Hp) : Option (tb_Hp) := (tb_pI 16 0 a0 0 w).bind fun w1 => (tb_pI 16 1 a0 (-2) w1).bind fun w2 => some w2
set_option maxHeartbeats 4000000 in
set_option maxRecDepth 20000 in
theorem dc_so_forget {a0 : Nat} {w : tb_Hp} {o : tb_Hp} (h : fb_so_forget a0 w = some o) : tb_Ev tb_P 0 139 (0, tb_ent [.ref a0], [], w) (none, o) := by
  unfold fb_so_forget at h
  obtain ⟨r, hr⟩ : ∃ r : Option Value × tb_Hp, r = (none, o) := ⟨_, rfl⟩
  rw [← hr]
  show tb_Ev tb_P 0 139 (0, [(0, .ref a0)], [], w) r
  refine tb_Es (k := 2) (st' := (2, [(0, .ref a0)], [.int 0, .ref a0], w)) rfl ?_
  replace h := Option.bind_eq_some_iff.mp h
  obtain ⟨w1, ew1, h⟩ := h
  refine tb_e_pI rfl ew1 ?_
  refine tb_Es (k := 2) (st' := (5, [(0, .ref a0)], [.int (-2), .ref a0], w1)) rfl ?_
  replace h := Option.bind_eq_some_iff.mp h
  obtain ⟨w2, ew2, h⟩ := h
  refine tb_e_pI rfl ew2 ?_
  obtain rfl := Option.some.inj h
  subst hr
  exact tb_Er rfl rfl
/-! TannerBunting$Story.take(I)V -/
def fb_so_take (a0 : Nat) (a1 : Int32) (w : tb_Hp) : Option (tb_Hp) := (tb_gI 16 0 a0 w).bind fun x1 => (if x1 = 0 then (tb_pI 16 1 a0 a1 w).bind fun w2 => (tb_gI 16 0 a0 w2).bind fun x3 => (tb_pI 16 0 a0 (x3 + 1) w2).bind fun w4 => some w4 else (tb_gI 16 0 a0 w).bind fun x5 => (tb_pI 16 0 a0 (x5 + 1) w).bind fun w6 => some w6)
set_option maxHeartbeats 4000000 in
set_option maxRecDepth 20000 in
theorem dc_so_take {a0 : Nat} {a1 : Int32} {w : tb_Hp} {o : tb_Hp} (h : fb_so_take a0 a1 w = some o) : tb_Ev tb_P 0 143 (0, tb_ent [.ref a0, .int a1], [], w) (none, o) := by
  unfold fb_so_take at h
  obtain ⟨r, hr⟩ : ∃ r : Option Value × tb_Hp, r = (none, o) := ⟨_, rfl⟩
  rw [← hr]
  show tb_Ev tb_P 0 143 (0, [(0, .ref a0), (1, .int a1)], [], w) r
  refine tb_Es (k := 1) (st' := (1, [(0, .ref a0), (1, .int a1)], [.ref a0], w)) rfl ?_
  replace h := Option.bind_eq_some_iff.mp h
  obtain ⟨x1, ex1, h⟩ := h
  refine tb_e_gI rfl ex1 ?_
  refine tb_b_ine rfl (fun hc => ?_) (fun hc => ?_)
  · rw [if_pos hc] at h
    refine tb_Es (k := 2) (st' := (5, [(0, .ref a0), (1, .int a1)], [.int a1, .ref a0], w)) rfl ?_
    replace h := Option.bind_eq_some_iff.mp h
    obtain ⟨w2, ew2, h⟩ := h
    refine tb_e_pI rfl ew2 ?_
    refine tb_Es (k := 2) (st' := (8, [(0, .ref a0), (1, .int a1)], [.ref a0, .ref a0], w2)) rfl ?_
    replace h := Option.bind_eq_some_iff.mp h
    obtain ⟨x3, ex3, h⟩ := h
    refine tb_e_gI rfl ex3 ?_
    refine tb_Es (k := 2) (st' := (11, [(0, .ref a0), (1, .int a1)], [.int (x3 + 1), .ref a0], w2)) rfl ?_
    replace h := Option.bind_eq_some_iff.mp h
    obtain ⟨w4, ew4, h⟩ := h
    refine tb_e_pI rfl ew4 ?_
    obtain rfl := Option.some.inj h
    subst hr
    exact tb_Er rfl rfl
  · rw [if_neg hc] at h
    refine tb_Es (k := 2) (st' := (8, [(0, .ref a0), (1, .int a1)], [.ref a0, .ref a0], w)) rfl ?_
    replace h := Option.bind_eq_some_iff.mp h
    obtain ⟨x5, ex5, h⟩ := h
    refine tb_e_gI rfl ex5 ?_
    refine tb_Es (k := 2) (st' := (11, [(0, .ref a0), (1, .int a1)], [.int (x5 + 1), .ref a0], w)) rfl ?_
    replace h := Option.bind_eq_some_iff.mp h
    obtain ⟨w6, ew6, h⟩ := h
    refine tb_e_pI rfl ew6 ?_
    obtain rfl := Option.some.inj h
    subst hr
    exact tb_Er rfl rfl
/-! TannerBunting$Years.setGain(III)V -/
def fb_yr_setGain (a0 : Nat) (a1 : Int32) (a2 : Int32) (a3 : Int32) (w : tb_Hp) : Option (tb_Hp) := (if ((2 * a1) + a2) < 0 then some w else (tb_gN 20 6 a0 w).bind fun p1 => (tb_al p1 w).bind fun x2 => (if ((2 * a1) + a2) < x2 then (tb_gN 20 6 a0 w).bind fun p3 => (tb_tI p3 ((2 * a1) + a2) a3 w).bind fun w4 => some w4 else some w))
set_option maxHeartbeats 4000000 in
set_option maxRecDepth 20000 in
theorem dc_yr_setGain {a0 : Nat} {a1 : Int32} {a2 : Int32} {a3 : Int32} {w : tb_Hp} {o : tb_Hp} (h : fb_yr_setGain a0 a1 a2 a3 w = some o) : tb_Ev tb_P 0 147 (0, tb_ent [.ref a0, .int a1, .int a2, .int a3], [], w) (none, o) := by
  unfold fb_yr_setGain at h
  obtain ⟨r, hr⟩ : ∃ r : Option Value × tb_Hp, r = (none, o) := ⟨_, rfl⟩
  rw [← hr]
  show tb_Ev tb_P 0 147 (0, [(0, .ref a0), (1, .int a1), (2, .int a2), (3, .int a3)], [], w) r
  refine tb_Es (k := 7) (st' := (7, [(4, .int ((2 * a1) + a2)), (0, .ref a0), (1, .int a1), (2, .int a2), (3, .int a3)], [.int ((2 * a1) + a2)], w)) rfl ?_
  refine tb_b_ilt rfl (fun hc => ?_) (fun hc => ?_)
  · rw [if_pos hc] at h
    obtain rfl := Option.some.inj h
    subst hr
    exact tb_Er rfl rfl
  · rw [if_neg hc] at h
    refine tb_Es (k := 2) (st' := (10, [(4, .int ((2 * a1) + a2)), (0, .ref a0), (1, .int a1), (2, .int a2), (3, .int a3)], [.ref a0, .int ((2 * a1) + a2)], w)) rfl ?_
    replace h := Option.bind_eq_some_iff.mp h
    obtain ⟨p1, ep1, h⟩ := h
    refine tb_e_gN rfl ep1 ?_
    replace h := Option.bind_eq_some_iff.mp h
    obtain ⟨x2, ex2, h⟩ := h
    refine tb_e_al rfl ex2 ?_
    refine tb_b_cge rfl (fun hc => ?_) (fun hc => ?_)
    · rw [if_pos hc] at h
      refine tb_Es (k := 1) (st' := (14, [(4, .int ((2 * a1) + a2)), (0, .ref a0), (1, .int a1), (2, .int a2), (3, .int a3)], [.ref a0], w)) rfl ?_
      replace h := Option.bind_eq_some_iff.mp h
      obtain ⟨p3, ep3, h⟩ := h
      refine tb_e_gN rfl ep3 ?_
      refine tb_Es (k := 2) (st' := (17, [(4, .int ((2 * a1) + a2)), (0, .ref a0), (1, .int a1), (2, .int a2), (3, .int a3)], [.int a3, .int ((2 * a1) + a2), .ref p3], w)) rfl ?_
      replace h := Option.bind_eq_some_iff.mp h
      obtain ⟨w4, ew4, h⟩ := h
      refine tb_e_tI rfl ew4 ?_
      obtain rfl := Option.some.inj h
      subst hr
      exact tb_Er rfl rfl
    · rw [if_neg hc] at h
      obtain rfl := Option.some.inj h
      subst hr
      exact tb_Er rfl rfl
/-! TannerBunting$Years.gainOf(II)I -/
def fb_yr_gainOf (a0 : Nat) (a1 : Int32) (a2 : Int32) (w : tb_Hp) : Option (Int32 × tb_Hp) := (if ((2 * a1) + a2) < 0 then some (0, w) else (tb_gN 20 6 a0 w).bind fun p1 => (tb_al p1 w).bind fun x2 => (if ((2 * a1) + a2) < x2 then (tb_gN 20 6 a0 w).bind fun p3 => (tb_lI [1, 9] p3 ((2 * a1) + a2) w).bind fun x4 => some (x4, w) else some (0, w)))
set_option maxHeartbeats 4000000 in
set_option maxRecDepth 20000 in
theorem dc_yr_gainOf {a0 : Nat} {a1 : Int32} {a2 : Int32} {w : tb_Hp} {o : Int32 × tb_Hp} (h : fb_yr_gainOf a0 a1 a2 w = some o) : tb_Ev tb_P 0 148 (0, tb_ent [.ref a0, .int a1, .int a2], [], w) (some (.int o.1), o.2) := by
  unfold fb_yr_gainOf at h
  obtain ⟨r, hr⟩ : ∃ r : Option Value × tb_Hp, r = (some (.int o.1), o.2) := ⟨_, rfl⟩
  rw [← hr]
  show tb_Ev tb_P 0 148 (0, [(0, .ref a0), (1, .int a1), (2, .int a2)], [], w) r
  refine tb_Es (k := 7) (st' := (7, [(3, .int ((2 * a1) + a2)), (0, .ref a0), (1, .int a1), (2, .int a2)], [.int ((2 * a1) + a2)], w)) rfl ?_
  refine tb_b_ilt rfl (fun hc => ?_) (fun hc => ?_)
  · rw [if_pos hc] at h
    refine tb_Es (k := 1) (st' := (19, [(3, .int ((2 * a1) + a2)), (0, .ref a0), (1, .int a1), (2, .int a2)], [.int 0], w)) rfl ?_
    obtain rfl := Option.some.inj h
    subst hr
    exact tb_Er rfl rfl
  · rw [if_neg hc] at h
    refine tb_Es (k := 2) (st' := (10, [(3, .int ((2 * a1) + a2)), (0, .ref a0), (1, .int a1), (2, .int a2)], [.ref a0, .int ((2 * a1) + a2)], w)) rfl ?_
    replace h := Option.bind_eq_some_iff.mp h
    obtain ⟨p1, ep1, h⟩ := h
    refine tb_e_gN rfl ep1 ?_
    replace h := Option.bind_eq_some_iff.mp h
    obtain ⟨x2, ex2, h⟩ := h
    refine tb_e_al rfl ex2 ?_
    refine tb_b_cge rfl (fun hc => ?_) (fun hc => ?_)
    · rw [if_pos hc] at h
      refine tb_Es (k := 1) (st' := (14, [(3, .int ((2 * a1) + a2)), (0, .ref a0), (1, .int a1), (2, .int a2)], [.ref a0], w)) rfl ?_
      replace h := Option.bind_eq_some_iff.mp h
      obtain ⟨p3, ep3, h⟩ := h
      refine tb_e_gN rfl ep3 ?_
      refine tb_Es (k := 1) (st' := (16, [(3, .int ((2 * a1) + a2)), (0, .ref a0), (1, .int a1), (2, .int a2)], [.int ((2 * a1) + a2), .ref p3], w)) rfl ?_
      replace h := Option.bind_eq_some_iff.mp h
      obtain ⟨x4, ex4, h⟩ := h
      refine tb_e_lI rfl (Or.inl ⟨rfl, rfl⟩) ex4 ?_
      refine tb_Es (k := 1) (st' := (19, [(3, .int ((2 * a1) + a2)), (0, .ref a0), (1, .int a1), (2, .int a2)], [.int x4], w)) rfl ?_
      obtain rfl := Option.some.inj h
      subst hr
      exact tb_Er rfl rfl
    · rw [if_neg hc] at h
      refine tb_Es (k := 1) (st' := (19, [(3, .int ((2 * a1) + a2)), (0, .ref a0), (1, .int a1), (2, .int a2)], [.int 0], w)) rfl ?_
      obtain rfl := Option.some.inj h
      subst hr
      exact tb_Er rfl rfl
/-! TannerBunting$Notes.add(III)V -/
def fb_n_add (a0 : Nat) (a1 : Int32) (a2 : Int32) (a3 : Int32) (w : tb_Hp) : Option (tb_Hp) := (tb_gI 12 0 a0 w).bind fun x1 => (if x1 < 0 then some w else (tb_gI 12 0 a0 w).bind fun x2 => (if x2 < 10 then (tb_gN 12 1 a0 w).bind fun p3 => (tb_gI 12 0 a0 w).bind fun x4 => (tb_tI p3 x4 a1 w).bind fun w5 => (tb_gN 12 2 a0 w5).bind fun p6 => (tb_gI 12 0 a0 w5).bind fun x7 => (tb_tI p6 x7 a2 w5).bind fun w8 => (tb_gN 12 3 a0 w8).bind fun p9 => (tb_gI 12 0 a0 w8).bind fun x10 => (tb_tI p9 x10 a3 w8).bind fun w11 => (tb_gI 12 0 a0 w11).bind fun x12 => (tb_pI 12 0 a0 (x12 + 1) w11).bind fun w13 => some w13 else some w))
set_option maxHeartbeats 4000000 in
set_option maxRecDepth 20000 in
theorem dc_n_add {a0 : Nat} {a1 : Int32} {a2 : Int32} {a3 : Int32} {w : tb_Hp} {o : tb_Hp} (h : fb_n_add a0 a1 a2 a3 w = some o) : tb_Ev tb_P 0 153 (0, tb_ent [.ref a0, .int a1, .int a2, .int a3], [], w) (none, o) := by
  unfold fb_n_add at h
  obtain ⟨r, hr⟩ : ∃ r : Option Value × tb_Hp, r = (none, o) := ⟨_, rfl⟩
  rw [← hr]
  show tb_Ev tb_P 0 153 (0, [(0, .ref a0), (1, .int a1), (2, .int a2), (3, .int a3)], [], w) r
  refine tb_Es (k := 1) (st' := (1, [(0, .ref a0), (1, .int a1), (2, .int a2), (3, .int a3)], [.ref a0], w)) rfl ?_
  replace h := Option.bind_eq_some_iff.mp h
  obtain ⟨x1, ex1, h⟩ := h
  refine tb_e_gI rfl ex1 ?_
  refine tb_b_ilt rfl (fun hc => ?_) (fun hc => ?_)
  · rw [if_pos hc] at h
    obtain rfl := Option.some.inj h
    subst hr
    exact tb_Er rfl rfl
  · rw [if_neg hc] at h
    refine tb_Es (k := 1) (st' := (4, [(0, .ref a0), (1, .int a1), (2, .int a2), (3, .int a3)], [.ref a0], w)) rfl ?_
    replace h := Option.bind_eq_some_iff.mp h
    obtain ⟨x2, ex2, h⟩ := h
    refine tb_e_gI rfl ex2 ?_
    refine tb_Es (k := 1) (st' := (6, [(0, .ref a0), (1, .int a1), (2, .int a2), (3, .int a3)], [.int 10, .int x2], w)) rfl ?_
    refine tb_b_cge rfl (fun hc => ?_) (fun hc => ?_)
    · rw [if_pos hc] at h
      refine tb_Es (k := 1) (st' := (8, [(0, .ref a0), (1, .int a1), (2, .int a2), (3, .int a3)], [.ref a0], w)) rfl ?_
      replace h := Option.bind_eq_some_iff.mp h
      obtain ⟨p3, ep3, h⟩ := h
      refine tb_e_gN rfl ep3 ?_
      refine tb_Es (k := 1) (st' := (10, [(0, .ref a0), (1, .int a1), (2, .int a2), (3, .int a3)], [.ref a0, .ref p3], w)) rfl ?_
      replace h := Option.bind_eq_some_iff.mp h
      obtain ⟨x4, ex4, h⟩ := h
      refine tb_e_gI rfl ex4 ?_
      refine tb_Es (k := 1) (st' := (12, [(0, .ref a0), (1, .int a1), (2, .int a2), (3, .int a3)], [.int a1, .int x4, .ref p3], w)) rfl ?_
      replace h := Option.bind_eq_some_iff.mp h
      obtain ⟨w5, ew5, h⟩ := h
      refine tb_e_tI rfl ew5 ?_
      refine tb_Es (k := 1) (st' := (14, [(0, .ref a0), (1, .int a1), (2, .int a2), (3, .int a3)], [.ref a0], w5)) rfl ?_
      replace h := Option.bind_eq_some_iff.mp h
      obtain ⟨p6, ep6, h⟩ := h
      refine tb_e_gN rfl ep6 ?_
      refine tb_Es (k := 1) (st' := (16, [(0, .ref a0), (1, .int a1), (2, .int a2), (3, .int a3)], [.ref a0, .ref p6], w5)) rfl ?_
      replace h := Option.bind_eq_some_iff.mp h
      obtain ⟨x7, ex7, h⟩ := h
      refine tb_e_gI rfl ex7 ?_
      refine tb_Es (k := 1) (st' := (18, [(0, .ref a0), (1, .int a1), (2, .int a2), (3, .int a3)], [.int a2, .int x7, .ref p6], w5)) rfl ?_
      replace h := Option.bind_eq_some_iff.mp h
      obtain ⟨w8, ew8, h⟩ := h
      refine tb_e_tI rfl ew8 ?_
      refine tb_Es (k := 1) (st' := (20, [(0, .ref a0), (1, .int a1), (2, .int a2), (3, .int a3)], [.ref a0], w8)) rfl ?_
      replace h := Option.bind_eq_some_iff.mp h
      obtain ⟨p9, ep9, h⟩ := h
      refine tb_e_gN rfl ep9 ?_
      refine tb_Es (k := 1) (st' := (22, [(0, .ref a0), (1, .int a1), (2, .int a2), (3, .int a3)], [.ref a0, .ref p9], w8)) rfl ?_
      replace h := Option.bind_eq_some_iff.mp h
      obtain ⟨x10, ex10, h⟩ := h
      refine tb_e_gI rfl ex10 ?_
      refine tb_Es (k := 1) (st' := (24, [(0, .ref a0), (1, .int a1), (2, .int a2), (3, .int a3)], [.int a3, .int x10, .ref p9], w8)) rfl ?_
      replace h := Option.bind_eq_some_iff.mp h
      obtain ⟨w11, ew11, h⟩ := h
      refine tb_e_tI rfl ew11 ?_
      refine tb_Es (k := 2) (st' := (27, [(0, .ref a0), (1, .int a1), (2, .int a2), (3, .int a3)], [.ref a0, .ref a0], w11)) rfl ?_
      replace h := Option.bind_eq_some_iff.mp h
      obtain ⟨x12, ex12, h⟩ := h
      refine tb_e_gI rfl ex12 ?_
      refine tb_Es (k := 2) (st' := (30, [(0, .ref a0), (1, .int a1), (2, .int a2), (3, .int a3)], [.int (x12 + 1), .ref a0], w11)) rfl ?_
      replace h := Option.bind_eq_some_iff.mp h
      obtain ⟨w13, ew13, h⟩ := h
      refine tb_e_pI rfl ew13 ?_
      obtain rfl := Option.some.inj h
      subst hr
      exact tb_Er rfl rfl
    · rw [if_neg hc] at h
      obtain rfl := Option.some.inj h
      subst hr
      exact tb_Er rfl rfl
/-! TannerBunting.seed(I)I -/
def fb_x_seed (a0 : Nat) (a1 : Int32) (w : tb_Hp) : Option (Int32 × tb_Hp) := (if a1 < 0 then some (-1, w) else (tb_gN 21 5 a0 w).bind fun p1 => (tb_gI 15 4 p1 w).bind fun x2 => (tb_gN 21 5 a0 w).bind fun p3 => (tb_pI 15 4 p3 a1 w).bind fun w4 => some (x2, w4))
set_option maxHeartbeats 4000000 in
set_option maxRecDepth 20000 in
theorem dc_x_seed {a0 : Nat} {a1 : Int32} {w : tb_Hp} {o : Int32 × tb_Hp} (h : fb_x_seed a0 a1 w = some o) : tb_Ev tb_P 0 160 (0, tb_ent [.ref a0, .int a1], [], w) (some (.int o.1), o.2) := by
  unfold fb_x_seed at h
  obtain ⟨r, hr⟩ : ∃ r : Option Value × tb_Hp, r = (some (.int o.1), o.2) := ⟨_, rfl⟩
  rw [← hr]
  show tb_Ev tb_P 0 160 (0, [(0, .ref a0), (1, .int a1)], [], w) r
  refine tb_Es (k := 1) (st' := (1, [(0, .ref a0), (1, .int a1)], [.int a1], w)) rfl ?_
  refine tb_b_ige rfl (fun hc => ?_) (fun hc => ?_)
  · rw [if_pos hc] at h
    refine tb_Es (k := 1) (st' := (3, [(0, .ref a0), (1, .int a1)], [.int (-1)], w)) rfl ?_
    obtain rfl := Option.some.inj h
    subst hr
    exact tb_Er rfl rfl
  · rw [if_neg hc] at h
    refine tb_Es (k := 1) (st' := (5, [(0, .ref a0), (1, .int a1)], [.ref a0], w)) rfl ?_
    replace h := Option.bind_eq_some_iff.mp h
    obtain ⟨p1, ep1, h⟩ := h
    refine tb_e_gN rfl ep1 ?_
    replace h := Option.bind_eq_some_iff.mp h
    obtain ⟨x2, ex2, h⟩ := h
    refine tb_e_gI rfl ex2 ?_
    refine tb_Es (k := 2) (st' := (9, [(2, .int x2), (0, .ref a0), (1, .int a1)], [.ref a0], w)) rfl ?_
    replace h := Option.bind_eq_some_iff.mp h
    obtain ⟨p3, ep3, h⟩ := h
    refine tb_e_gN rfl ep3 ?_
    refine tb_Es (k := 1) (st' := (11, [(2, .int x2), (0, .ref a0), (1, .int a1)], [.int a1, .ref p3], w)) rfl ?_
    replace h := Option.bind_eq_some_iff.mp h
    obtain ⟨w4, ew4, h⟩ := h
    refine tb_e_pI rfl ew4 ?_
    refine tb_Es (k := 1) (st' := (13, [(2, .int x2), (0, .ref a0), (1, .int a1)], [.int x2], w4)) rfl ?_
    obtain rfl := Option.some.inj h
    subst hr
    exact tb_Er rfl rfl
/-! TannerBunting$Years.draw()I -/
def fb_yr_draw (a0 : Nat) (w : tb_Hp) : Option (Int32 × tb_Hp) := (tb_gI 20 7 a0 w).bind fun x1 => (tb_pI 20 7 a0 (Int64.toInt32 ((((Int32.toInt64 x1) * 1103515245) + 12345) - (((Int32.toInt64 x1) * 1103515245) + 12345) / 2147483648 * 2147483648)) w).bind fun w2 => (tb_gI 20 7 a0 w2).bind fun x3 => some (x3 / 65536, w2)
set_option maxHeartbeats 4000000 in
set_option maxRecDepth 20000 in
theorem dc_yr_draw {a0 : Nat} {w : tb_Hp} {o : Int32 × tb_Hp} (h : fb_yr_draw a0 w = some o) : tb_Ev tb_P 0 164 (0, tb_ent [.ref a0], [], w) (some (.int o.1), o.2) := by
  unfold fb_yr_draw at h
  obtain ⟨r, hr⟩ : ∃ r : Option Value × tb_Hp, r = (some (.int o.1), o.2) := ⟨_, rfl⟩
  rw [← hr]
  show tb_Ev tb_P 0 164 (0, [(0, .ref a0)], [], w) r
  refine tb_Es (k := 2) (st' := (2, [(0, .ref a0)], [.ref a0, .ref a0], w)) rfl ?_
  replace h := Option.bind_eq_some_iff.mp h
  obtain ⟨x1, ex1, h⟩ := h
  refine tb_e_gI rfl ex1 ?_
  refine tb_Es (k := 6) (st' := (9, [(0, .ref a0)], [.long 2147483648, .long (((Int32.toInt64 x1) * 1103515245) + 12345), .ref a0], w)) rfl ?_
  refine tb_e_lrem rfl (by decide) ?_
  refine tb_Es (k := 1) (st' := (11, [(0, .ref a0)], [.int (Int64.toInt32 ((((Int32.toInt64 x1) * 1103515245) + 12345) - (((Int32.toInt64 x1) * 1103515245) + 12345) / 2147483648 * 2147483648)), .ref a0], w)) rfl ?_
  replace h := Option.bind_eq_some_iff.mp h
  obtain ⟨w2, ew2, h⟩ := h
  refine tb_e_pI rfl ew2 ?_
  refine tb_Es (k := 1) (st' := (13, [(0, .ref a0)], [.ref a0], w2)) rfl ?_
  replace h := Option.bind_eq_some_iff.mp h
  obtain ⟨x3, ex3, h⟩ := h
  refine tb_e_gI rfl ex3 ?_
  refine tb_Es (k := 1) (st' := (15, [(0, .ref a0)], [.int 65536, .int x3], w2)) rfl ?_
  refine tb_e_idiv rfl (by decide) ?_
  obtain rfl := Option.some.inj h
  subst hr
  exact tb_Er rfl rfl
/-! TannerBunting$Notes.copyFrom(LTannerBunting$Notes;)V -/
def fb_n_copyFrom (a0 : Nat) (a1 : Nat) (w : tb_Hp) : Option (tb_Hp) := (tb_gI 12 0 a1 w).bind fun x1 => (tb_pI 12 0 a0 x1 w).bind fun w2 => (tb_gN 12 1 a1 w2).bind fun p3 => (tb_gN 12 1 a0 w2).bind fun p4 => (tb_cy 10 0 p4 0 p3 w2).bind fun w5 => (tb_gN 12 2 a1 w5).bind fun p6 => (tb_gN 12 2 a0 w5).bind fun p7 => (tb_cy 10 0 p7 0 p6 w5).bind fun w8 => (tb_gN 12 3 a1 w8).bind fun p9 => (tb_gN 12 3 a0 w8).bind fun p10 => (tb_cy 10 0 p10 0 p9 w8).bind fun w11 => some w11
set_option maxHeartbeats 4000000 in
set_option maxRecDepth 20000 in
theorem dc_n_copyFrom {a0 : Nat} {a1 : Nat} {w : tb_Hp} {o : tb_Hp} (h : fb_n_copyFrom a0 a1 w = some o) : tb_Ev tb_P 0 168 (0, tb_ent [.ref a0, .ref a1], [], w) (none, o) := by
  unfold fb_n_copyFrom at h
  obtain ⟨r, hr⟩ : ∃ r : Option Value × tb_Hp, r = (none, o) := ⟨_, rfl⟩
  rw [← hr]
  show tb_Ev tb_P 0 168 (0, [(0, .ref a0), (1, .ref a1)], [], w) r
  refine tb_Es (k := 2) (st' := (2, [(0, .ref a0), (1, .ref a1)], [.ref a1, .ref a0], w)) rfl ?_
  replace h := Option.bind_eq_some_iff.mp h
  obtain ⟨x1, ex1, h⟩ := h
  refine tb_e_gI rfl ex1 ?_
  replace h := Option.bind_eq_some_iff.mp h
  obtain ⟨w2, ew2, h⟩ := h
  refine tb_e_pI rfl ew2 ?_
  refine tb_Es (k := 1) (st' := (5, [(0, .ref a0), (1, .ref a1)], [.ref a1], w2)) rfl ?_
  replace h := Option.bind_eq_some_iff.mp h
  obtain ⟨p3, ep3, h⟩ := h
  refine tb_e_gN rfl ep3 ?_
  refine tb_Es (k := 2) (st' := (8, [(0, .ref a0), (1, .ref a1)], [.ref a0, .int 0, .ref p3], w2)) rfl ?_
  replace h := Option.bind_eq_some_iff.mp h
  obtain ⟨p4, ep4, h⟩ := h
  refine tb_e_gN rfl ep4 ?_
  refine tb_Es (k := 2) (st' := (11, [(0, .ref a0), (1, .ref a1)], [.int 10, .int 0, .ref p4, .int 0, .ref p3], w2)) rfl ?_
  replace h := Option.bind_eq_some_iff.mp h
  obtain ⟨w5, ew5, h⟩ := h
  refine tb_e_cy rfl rfl ew5 ?_
  refine tb_Es (k := 1) (st' := (13, [(0, .ref a0), (1, .ref a1)], [.ref a1], w5)) rfl ?_
  replace h := Option.bind_eq_some_iff.mp h
  obtain ⟨p6, ep6, h⟩ := h
  refine tb_e_gN rfl ep6 ?_
  refine tb_Es (k := 2) (st' := (16, [(0, .ref a0), (1, .ref a1)], [.ref a0, .int 0, .ref p6], w5)) rfl ?_
  replace h := Option.bind_eq_some_iff.mp h
  obtain ⟨p7, ep7, h⟩ := h
  refine tb_e_gN rfl ep7 ?_
  refine tb_Es (k := 2) (st' := (19, [(0, .ref a0), (1, .ref a1)], [.int 10, .int 0, .ref p7, .int 0, .ref p6], w5)) rfl ?_
  replace h := Option.bind_eq_some_iff.mp h
  obtain ⟨w8, ew8, h⟩ := h
  refine tb_e_cy rfl rfl ew8 ?_
  refine tb_Es (k := 1) (st' := (21, [(0, .ref a0), (1, .ref a1)], [.ref a1], w8)) rfl ?_
  replace h := Option.bind_eq_some_iff.mp h
  obtain ⟨p9, ep9, h⟩ := h
  refine tb_e_gN rfl ep9 ?_
  refine tb_Es (k := 2) (st' := (24, [(0, .ref a0), (1, .ref a1)], [.ref a0, .int 0, .ref p9], w8)) rfl ?_
  replace h := Option.bind_eq_some_iff.mp h
  obtain ⟨p10, ep10, h⟩ := h
  refine tb_e_gN rfl ep10 ?_
  refine tb_Es (k := 2) (st' := (27, [(0, .ref a0), (1, .ref a1)], [.int 10, .int 0, .ref p10, .int 0, .ref p9], w8)) rfl ?_
  replace h := Option.bind_eq_some_iff.mp h
  obtain ⟨w11, ew11, h⟩ := h
  refine tb_e_cy rfl rfl ew11 ?_
  obtain rfl := Option.some.inj h
  subst hr
  exact tb_Er rfl rfl
/-! TannerBuntingModel.<init>()V -/
def fb_m_init (a0 : Nat) (w : tb_Hp) : Option (tb_Hp) := (tb_na 0 400 w).bind fun w1 => (tb_pR 22 0 a0 w.1.length w1).bind fun w2 => (tb_na 1 2400 w2).bind fun w3 => (tb_pR 22 3 a0 w2.1.length w3).bind fun w4 => (tb_na 1 7 w4).bind fun w5 => (tb_pR 22 4 a0 w4.1.length w5).bind fun w6 => (tb_na 1 288 w6).bind fun w7 => (tb_pR 22 5 a0 w6.1.length w7).bind fun w8 => (tb_na 1 6 w8).bind fun w9 => (tb_pR 22 6 a0 w8.1.length w9).bind fun w10 => (tb_na 1 118 w10).bind fun w11 => (tb_pR 22 7 a0 w10.1.length w11).bind fun w12 => (tb_na 1 400 w12).bind fun w13 => (tb_pR 22 15 a0 w12.1.length w13).bind fun w14 => (tb_na 2 64 w14).bind fun w15 => (tb_pR 22 17 a0 w14.1.length w15).bind fun w16 => (tb_na 2 12 w16).bind fun w17 => (tb_pR 22 19 a0 w16.1.length w17).bind fun w18 => (tb_na 1 149 w18).bind fun w19 => (tb_pR 22 20 a0 w18.1.length w19).bind fun w20 => (tb_pI 22 21 a0 (-1) w20).bind fun w21 => (tb_na 1 1280 w21).bind fun w22 => (tb_pR 22 23 a0 w21.1.length w22).bind fun w23 => (tb_na 1 64 w23).bind fun w24 => (tb_pR 22 25 a0 w23.1.length w24).bind fun w25 => (tb_na 1 5 w25).bind fun w26 => (tb_pR 22 26 a0 w25.1.length w26).bind fun w27 => (tb_na 1 5 w27).bind fun w28 => (tb_pR 22 27 a0 w27.1.length w28).bind fun w29 => (tb_na 1 8 w29).bind fun w30 => (tb_pR 22 28 a0 w29.1.length w30).bind fun w31 => (tb_na 3 7 w31).bind fun w32 => (tb_pR 22 29 a0 w31.1.length w32).bind fun w33 => (tb_na 1 7 w33).bind fun w34 => (tb_pR 22 30 a0 w33.1.length w34).bind fun w35 => (tb_na 1 596 w35).bind fun w36 => (tb_pR 22 32 a0 w35.1.length w36).bind fun w37 => (tb_na 1 4 w37).bind fun w38 => (tb_pR 22 33 a0 w37.1.length w38).bind fun w39 => (tb_na 1 4 w39).bind fun w40 => (tb_pR 22 34 a0 w39.1.length w40).bind fun w41 => (tb_na 3 4 w41).bind fun w42 => (tb_pR 22 35 a0 w41.1.length w42).bind fun w43 => some w43
set_option maxHeartbeats 4000000 in
set_option maxRecDepth 20000 in
theorem dc_m_init {a0 : Nat} {w : tb_Hp} {o : tb_Hp} (h : fb_m_init a0 w = some o) : tb_Ev tb_P 0 170 (0, tb_ent [.ref a0], [], w) (none, o) := by
  unfold fb_m_init at h
  obtain ⟨r, hr⟩ : ∃ r : Option Value × tb_Hp, r = (none, o) := ⟨_, rfl⟩
  rw [← hr]
  show tb_Ev tb_P 0 170 (0, [(0, .ref a0)], [], w) r
  refine tb_Es (k := 1) (st' := (1, [(0, .ref a0)], [.ref a0], w)) rfl ?_
  refine tb_e_ob rfl rfl ?_
  refine tb_Es (k := 2) (st' := (4, [(0, .ref a0)], [.int 400, .ref a0], w)) rfl ?_
  replace h := Option.bind_eq_some_iff.mp h
  obtain ⟨w1, ew1, h⟩ := h
  refine tb_e_na rfl (Or.inl ⟨_, rfl⟩) ew1 ?_
  replace h := Option.bind_eq_some_iff.mp h
  obtain ⟨w2, ew2, h⟩ := h
  refine tb_e_pR rfl ew2 ?_
  refine tb_Es (k := 2) (st' := (8, [(0, .ref a0)], [.int 2400, .ref a0], w2)) rfl ?_
  replace h := Option.bind_eq_some_iff.mp h
  obtain ⟨w3, ew3, h⟩ := h
  refine tb_e_na rfl (Or.inl ⟨_, rfl⟩) ew3 ?_
  replace h := Option.bind_eq_some_iff.mp h
  obtain ⟨w4, ew4, h⟩ := h
  refine tb_e_pR rfl ew4 ?_
  refine tb_Es (k := 2) (st' := (12, [(0, .ref a0)], [.int 7, .ref a0], w4)) rfl ?_
  replace h := Option.bind_eq_some_iff.mp h
  obtain ⟨w5, ew5, h⟩ := h
  refine tb_e_na rfl (Or.inl ⟨_, rfl⟩) ew5 ?_
  replace h := Option.bind_eq_some_iff.mp h
  obtain ⟨w6, ew6, h⟩ := h
  refine tb_e_pR rfl ew6 ?_
  refine tb_Es (k := 2) (st' := (16, [(0, .ref a0)], [.int 288, .ref a0], w6)) rfl ?_
  replace h := Option.bind_eq_some_iff.mp h
  obtain ⟨w7, ew7, h⟩ := h
  refine tb_e_na rfl (Or.inl ⟨_, rfl⟩) ew7 ?_
  replace h := Option.bind_eq_some_iff.mp h
  obtain ⟨w8, ew8, h⟩ := h
  refine tb_e_pR rfl ew8 ?_
  refine tb_Es (k := 2) (st' := (20, [(0, .ref a0)], [.int 6, .ref a0], w8)) rfl ?_
  replace h := Option.bind_eq_some_iff.mp h
  obtain ⟨w9, ew9, h⟩ := h
  refine tb_e_na rfl (Or.inl ⟨_, rfl⟩) ew9 ?_
  replace h := Option.bind_eq_some_iff.mp h
  obtain ⟨w10, ew10, h⟩ := h
  refine tb_e_pR rfl ew10 ?_
  refine tb_Es (k := 2) (st' := (24, [(0, .ref a0)], [.int 118, .ref a0], w10)) rfl ?_
  replace h := Option.bind_eq_some_iff.mp h
  obtain ⟨w11, ew11, h⟩ := h
  refine tb_e_na rfl (Or.inl ⟨_, rfl⟩) ew11 ?_
  replace h := Option.bind_eq_some_iff.mp h
  obtain ⟨w12, ew12, h⟩ := h
  refine tb_e_pR rfl ew12 ?_
  refine tb_Es (k := 2) (st' := (28, [(0, .ref a0)], [.int 400, .ref a0], w12)) rfl ?_
  replace h := Option.bind_eq_some_iff.mp h
  obtain ⟨w13, ew13, h⟩ := h
  refine tb_e_na rfl (Or.inl ⟨_, rfl⟩) ew13 ?_
  replace h := Option.bind_eq_some_iff.mp h
  obtain ⟨w14, ew14, h⟩ := h
  refine tb_e_pR rfl ew14 ?_
  refine tb_Es (k := 2) (st' := (32, [(0, .ref a0)], [.int 64, .ref a0], w14)) rfl ?_
  replace h := Option.bind_eq_some_iff.mp h
  obtain ⟨w15, ew15, h⟩ := h
  refine tb_e_na rfl (Or.inl ⟨_, rfl⟩) ew15 ?_
  replace h := Option.bind_eq_some_iff.mp h
  obtain ⟨w16, ew16, h⟩ := h
  refine tb_e_pR rfl ew16 ?_
  refine tb_Es (k := 2) (st' := (36, [(0, .ref a0)], [.int 12, .ref a0], w16)) rfl ?_
  replace h := Option.bind_eq_some_iff.mp h
  obtain ⟨w17, ew17, h⟩ := h
  refine tb_e_na rfl (Or.inl ⟨_, rfl⟩) ew17 ?_
  replace h := Option.bind_eq_some_iff.mp h
  obtain ⟨w18, ew18, h⟩ := h
  refine tb_e_pR rfl ew18 ?_
  refine tb_Es (k := 2) (st' := (40, [(0, .ref a0)], [.int 149, .ref a0], w18)) rfl ?_
  replace h := Option.bind_eq_some_iff.mp h
  obtain ⟨w19, ew19, h⟩ := h
  refine tb_e_na rfl (Or.inl ⟨_, rfl⟩) ew19 ?_
  replace h := Option.bind_eq_some_iff.mp h
  obtain ⟨w20, ew20, h⟩ := h
  refine tb_e_pR rfl ew20 ?_
  refine tb_Es (k := 2) (st' := (44, [(0, .ref a0)], [.int (-1), .ref a0], w20)) rfl ?_
  replace h := Option.bind_eq_some_iff.mp h
  obtain ⟨w21, ew21, h⟩ := h
  refine tb_e_pI rfl ew21 ?_
  refine tb_Es (k := 2) (st' := (47, [(0, .ref a0)], [.int 1280, .ref a0], w21)) rfl ?_
  replace h := Option.bind_eq_some_iff.mp h
  obtain ⟨w22, ew22, h⟩ := h
  refine tb_e_na rfl (Or.inl ⟨_, rfl⟩) ew22 ?_
  replace h := Option.bind_eq_some_iff.mp h
  obtain ⟨w23, ew23, h⟩ := h
  refine tb_e_pR rfl ew23 ?_
  refine tb_Es (k := 2) (st' := (51, [(0, .ref a0)], [.int 64, .ref a0], w23)) rfl ?_
  replace h := Option.bind_eq_some_iff.mp h
  obtain ⟨w24, ew24, h⟩ := h
  refine tb_e_na rfl (Or.inl ⟨_, rfl⟩) ew24 ?_
  replace h := Option.bind_eq_some_iff.mp h
  obtain ⟨w25, ew25, h⟩ := h
  refine tb_e_pR rfl ew25 ?_
  refine tb_Es (k := 2) (st' := (55, [(0, .ref a0)], [.int 5, .ref a0], w25)) rfl ?_
  replace h := Option.bind_eq_some_iff.mp h
  obtain ⟨w26, ew26, h⟩ := h
  refine tb_e_na rfl (Or.inl ⟨_, rfl⟩) ew26 ?_
  replace h := Option.bind_eq_some_iff.mp h
  obtain ⟨w27, ew27, h⟩ := h
  refine tb_e_pR rfl ew27 ?_
  refine tb_Es (k := 2) (st' := (59, [(0, .ref a0)], [.int 5, .ref a0], w27)) rfl ?_
  replace h := Option.bind_eq_some_iff.mp h
  obtain ⟨w28, ew28, h⟩ := h
  refine tb_e_na rfl (Or.inl ⟨_, rfl⟩) ew28 ?_
  replace h := Option.bind_eq_some_iff.mp h
  obtain ⟨w29, ew29, h⟩ := h
  refine tb_e_pR rfl ew29 ?_
  refine tb_Es (k := 2) (st' := (63, [(0, .ref a0)], [.int 8, .ref a0], w29)) rfl ?_
  replace h := Option.bind_eq_some_iff.mp h
  obtain ⟨w30, ew30, h⟩ := h
  refine tb_e_na rfl (Or.inl ⟨_, rfl⟩) ew30 ?_
  replace h := Option.bind_eq_some_iff.mp h
  obtain ⟨w31, ew31, h⟩ := h
  refine tb_e_pR rfl ew31 ?_
  refine tb_Es (k := 2) (st' := (67, [(0, .ref a0)], [.int 7, .ref a0], w31)) rfl ?_
  replace h := Option.bind_eq_some_iff.mp h
  obtain ⟨w32, ew32, h⟩ := h
  refine tb_e_na rfl (Or.inl ⟨_, rfl⟩) ew32 ?_
  replace h := Option.bind_eq_some_iff.mp h
  obtain ⟨w33, ew33, h⟩ := h
  refine tb_e_pR rfl ew33 ?_
  refine tb_Es (k := 2) (st' := (71, [(0, .ref a0)], [.int 7, .ref a0], w33)) rfl ?_
  replace h := Option.bind_eq_some_iff.mp h
  obtain ⟨w34, ew34, h⟩ := h
  refine tb_e_na rfl (Or.inl ⟨_, rfl⟩) ew34 ?_
  replace h := Option.bind_eq_some_iff.mp h
  obtain ⟨w35, ew35, h⟩ := h
  refine tb_e_pR rfl ew35 ?_
  refine tb_Es (k := 2) (st' := (75, [(0, .ref a0)], [.int 596, .ref a0], w35)) rfl ?_
  replace h := Option.bind_eq_some_iff.mp h
  obtain ⟨w36, ew36, h⟩ := h
  refine tb_e_na rfl (Or.inl ⟨_, rfl⟩) ew36 ?_
  replace h := Option.bind_eq_some_iff.mp h
  obtain ⟨w37, ew37, h⟩ := h
  refine tb_e_pR rfl ew37 ?_
  refine tb_Es (k := 2) (st' := (79, [(0, .ref a0)], [.int 4, .ref a0], w37)) rfl ?_
  replace h := Option.bind_eq_some_iff.mp h
  obtain ⟨w38, ew38, h⟩ := h
  refine tb_e_na rfl (Or.inl ⟨_, rfl⟩) ew38 ?_
  replace h := Option.bind_eq_some_iff.mp h
  obtain ⟨w39, ew39, h⟩ := h
  refine tb_e_pR rfl ew39 ?_
  refine tb_Es (k := 2) (st' := (83, [(0, .ref a0)], [.int 4, .ref a0], w39)) rfl ?_
  replace h := Option.bind_eq_some_iff.mp h
  obtain ⟨w40, ew40, h⟩ := h
  refine tb_e_na rfl (Or.inl ⟨_, rfl⟩) ew40 ?_
  replace h := Option.bind_eq_some_iff.mp h
  obtain ⟨w41, ew41, h⟩ := h
  refine tb_e_pR rfl ew41 ?_
  refine tb_Es (k := 2) (st' := (87, [(0, .ref a0)], [.int 4, .ref a0], w41)) rfl ?_
  replace h := Option.bind_eq_some_iff.mp h
  obtain ⟨w42, ew42, h⟩ := h
  refine tb_e_na rfl (Or.inl ⟨_, rfl⟩) ew42 ?_
  replace h := Option.bind_eq_some_iff.mp h
  obtain ⟨w43, ew43, h⟩ := h
  refine tb_e_pR rfl ew43 ?_
  obtain rfl := Option.some.inj h
  subst hr
  exact tb_Er rfl rfl
/-! TannerBuntingModel.four(I)V -/
def fl_m_four_2 : Nat → Nat → Int32 → Int32 → tb_Hp → Option (tb_Hp)
  | 0, _, _, _, _ => none
  | n + 1, v0, v1, v2, w => (if v2 < 0 then some (w) else (tb_gN 22 0 v0 w).bind fun p1 => (tb_gI 22 1 v0 w).bind fun x2 => (tb_tB p1 x2 ((Int32.toInt8 (v1 >>> (v2 &&& 31))).toInt32) w).bind fun w3 => (tb_gI 22 1 v0 w3).bind fun x4 => (tb_pI 22 1 v0 (x4 + 1) w3).bind fun w5 => fl_m_four_2 n v0 v1 (v2 + (-8)) w5)
set_option maxHeartbeats 4000000 in
set_option maxRecDepth 20000 in
theorem dl_m_four_2 : ∀ (n : Nat) (v0 : Nat) (v1 : Int32) (v2 : Int32) (w : tb_Hp) (o : tb_Hp), fl_m_four_2 n v0 v1 v2 w = some o → ∀ (r : Option Value × tb_Hp), tb_Ev tb_P 0 172 (23, [], [], o) r → tb_Ev tb_P 0 172 (3, [(0, .ref v0), (1, .int v1), (2, .int v2)], [], w) r := by
  intro n
  induction n with
  | zero =>
    intro v0 v1 v2 w o h
    cases h
  | succ n ih =>
    intro v0 v1 v2 w o h r hx
    unfold fl_m_four_2 at h
    refine tb_Es (k := 1) (st' := (4, [(0, .ref v0), (1, .int v1), (2, .int v2)], [.int v2], w)) rfl ?_
    refine tb_b_ilt rfl (fun hc => ?_) (fun hc => ?_)
    · rw [if_pos hc] at h
      refine tb_Es (k := 1) (st' := (23, [], [], w)) rfl ?_
      obtain rfl := Option.some.inj h
      exact hx
    · rw [if_neg hc] at h
      refine tb_Es (k := 1) (st' := (6, [(0, .ref v0), (1, .int v1), (2, .int v2)], [.ref v0], w)) rfl ?_
      replace h := Option.bind_eq_some_iff.mp h
      obtain ⟨p1, ep1, h⟩ := h
      refine tb_e_gN rfl ep1 ?_
      refine tb_Es (k := 1) (st' := (8, [(0, .ref v0), (1, .int v1), (2, .int v2)], [.ref v0, .ref p1], w)) rfl ?_
      replace h := Option.bind_eq_some_iff.mp h
      obtain ⟨x2, ex2, h⟩ := h
      refine tb_e_gI rfl ex2 ?_
      refine tb_Es (k := 4) (st' := (13, [(0, .ref v0), (1, .int v1), (2, .int v2)], [.int ((Int32.toInt8 (v1 >>> (v2 &&& 31))).toInt32), .int x2, .ref p1], w)) rfl ?_
      replace h := Option.bind_eq_some_iff.mp h
      obtain ⟨w3, ew3, h⟩ := h
      refine tb_e_tB rfl ew3 ?_
      refine tb_Es (k := 2) (st' := (16, [(0, .ref v0), (1, .int v1), (2, .int v2)], [.ref v0, .ref v0], w3)) rfl ?_
      replace h := Option.bind_eq_some_iff.mp h
      obtain ⟨x4, ex4, h⟩ := h
      refine tb_e_gI rfl ex4 ?_
      refine tb_Es (k := 2) (st' := (19, [(0, .ref v0), (1, .int v1), (2, .int v2)], [.int (x4 + 1), .ref v0], w3)) rfl ?_
      replace h := Option.bind_eq_some_iff.mp h
      obtain ⟨w5, ew5, h⟩ := h
      refine tb_e_pI rfl ew5 ?_
      refine tb_Es (k := 3) (st' := (3, [(0, .ref v0), (1, .int v1), (2, .int (v2 + (-8)))], [], w5)) rfl ?_
      exact ih v0 v1 (v2 + (-8)) w5 _ h r hx
def fb_m_four (a0 : Nat) (a1 : Int32) (w : tb_Hp) : Option (tb_Hp) := (fl_m_four_2 1048576 a0 a1 24 w).bind fun o6 => some o6
set_option maxHeartbeats 4000000 in
set_option maxRecDepth 20000 in
theorem dc_m_four {a0 : Nat} {a1 : Int32} {w : tb_Hp} {o : tb_Hp} (h : fb_m_four a0 a1 w = some o) : tb_Ev tb_P 0 172 (0, tb_ent [.ref a0, .int a1], [], w) (none, o) := by
  unfold fb_m_four at h
  obtain ⟨r, hr⟩ : ∃ r : Option Value × tb_Hp, r = (none, o) := ⟨_, rfl⟩
  rw [← hr]
  show tb_Ev tb_P 0 172 (0, [(0, .ref a0), (1, .int a1)], [], w) r
  refine tb_Es (k := 3) (st' := (3, [(0, .ref a0), (1, .int a1), (2, .int 24)], [], w)) rfl ?_
  replace h := Option.bind_eq_some_iff.mp h
  obtain ⟨o6, eo6, h⟩ := h
  refine dl_m_four_2 _ a0 a1 24 w _ eo6 r ?_
  obtain rfl := Option.some.inj h
  subst hr
  exact tb_Er rfl rfl
/-! TannerBuntingModel.end(I)I -/
def fb_m_end (a0 : Nat) (a1 : Int32) (w : tb_Hp) : Option (Int32 × tb_Hp) := (if a1 < 0 then some (-1, w) else (tb_gI 22 1 a0 w).bind fun x1 => (if x1 < a1 then some (-1, w) else (tb_pI 22 1 a0 a1 w).bind fun w2 => some (a1, w2)))
set_option maxHeartbeats 4000000 in
set_option maxRecDepth 20000 in
theorem dc_m_end {a0 : Nat} {a1 : Int32} {w : tb_Hp} {o : Int32 × tb_Hp} (h : fb_m_end a0 a1 w = some o) : tb_Ev tb_P 0 173 (0, tb_ent [.ref a0, .int a1], [], w) (some (.int o.1), o.2) := by
  unfold fb_m_end at h
  obtain ⟨r, hr⟩ : ∃ r : Option Value × tb_Hp, r = (some (.int o.1), o.2) := ⟨_, rfl⟩
  rw [← hr]
  show tb_Ev tb_P 0 173 (0, [(0, .ref a0), (1, .int a1)], [], w) r
  refine tb_Es (k := 1) (st' := (1, [(0, .ref a0), (1, .int a1)], [.int a1], w)) rfl ?_
  refine tb_b_ilt rfl (fun hc => ?_) (fun hc => ?_)
  · rw [if_pos hc] at h
    refine tb_Es (k := 1) (st' := (7, [(0, .ref a0), (1, .int a1)], [.int (-1)], w)) rfl ?_
    obtain rfl := Option.some.inj h
    subst hr
    exact tb_Er rfl rfl
  · rw [if_neg hc] at h
    refine tb_Es (k := 2) (st' := (4, [(0, .ref a0), (1, .int a1)], [.ref a0, .int a1], w)) rfl ?_
    replace h := Option.bind_eq_some_iff.mp h
    obtain ⟨x1, ex1, h⟩ := h
    refine tb_e_gI rfl ex1 ?_
    refine tb_b_cle rfl (fun hc => ?_) (fun hc => ?_)
    · rw [if_pos hc] at h
      refine tb_Es (k := 1) (st' := (7, [(0, .ref a0), (1, .int a1)], [.int (-1)], w)) rfl ?_
      obtain rfl := Option.some.inj h
      subst hr
      exact tb_Er rfl rfl
    · rw [if_neg hc] at h
      refine tb_Es (k := 2) (st' := (10, [(0, .ref a0), (1, .int a1)], [.int a1, .ref a0], w)) rfl ?_
      replace h := Option.bind_eq_some_iff.mp h
      obtain ⟨w2, ew2, h⟩ := h
      refine tb_e_pI rfl ew2 ?_
      refine tb_Es (k := 1) (st' := (12, [(0, .ref a0), (1, .int a1)], [.int a1], w2)) rfl ?_
      obtain rfl := Option.some.inj h
      subst hr
      exact tb_Er rfl rfl
/-! TannerBuntingModel.see()I -/
def fl_m_see_0 : Nat → Nat → tb_Hp → Option (Nat × tb_Hp)
  | 0, _, _ => none
  | n + 1, v0, w => (tb_gI 22 8 v0 w).bind fun x1 => (tb_gI 22 1 v0 w).bind fun x2 => (if x1 < x2 then (tb_gN 22 0 v0 w).bind fun p3 => (tb_gI 22 8 v0 w).bind fun x4 => (tb_lI [0, 3] p3 x4 w).bind fun x5 => (if x5 = 32 then (tb_gI 22 8 v0 w).bind fun x6 => (tb_pI 22 8 v0 (x6 + 1) w).bind fun w7 => fl_m_see_0 n v0 w7 else some ((v0, w))) else some ((v0, w)))
set_option maxHeartbeats 4000000 in
set_option maxRecDepth 20000 in
theorem dl_m_see_0 : ∀ (n : Nat) (v0 : Nat) (w : tb_Hp) (o : Nat × tb_Hp), fl_m_see_0 n v0 w = some o → ∀ (r : Option Value × tb_Hp), tb_Ev tb_P 0 177 (21, [(0, .ref o.1)], [], o.2) r → tb_Ev tb_P 0 177 (1, [(0, .ref v0)], [], w) r := by
  intro n
  induction n with
  | zero =>
    intro v0 w o h
    cases h
  | succ n ih =>
    intro v0 w o h r hx
    unfold fl_m_see_0 at h
    refine tb_Es (k := 1) (st' := (2, [(0, .ref v0)], [.ref v0], w)) rfl ?_
    replace h := Option.bind_eq_some_iff.mp h
    obtain ⟨x1, ex1, h⟩ := h
    refine tb_e_gI rfl ex1 ?_
    refine tb_Es (k := 1) (st' := (4, [(0, .ref v0)], [.ref v0, .int x1], w)) rfl ?_
    replace h := Option.bind_eq_some_iff.mp h
    obtain ⟨x2, ex2, h⟩ := h
    refine tb_e_gI rfl ex2 ?_
    refine tb_b_cge rfl (fun hc => ?_) (fun hc => ?_)
    · rw [if_pos hc] at h
      refine tb_Es (k := 1) (st' := (7, [(0, .ref v0)], [.ref v0], w)) rfl ?_
      replace h := Option.bind_eq_some_iff.mp h
      obtain ⟨p3, ep3, h⟩ := h
      refine tb_e_gN rfl ep3 ?_
      refine tb_Es (k := 1) (st' := (9, [(0, .ref v0)], [.ref v0, .ref p3], w)) rfl ?_
      replace h := Option.bind_eq_some_iff.mp h
      obtain ⟨x4, ex4, h⟩ := h
      refine tb_e_gI rfl ex4 ?_
      replace h := Option.bind_eq_some_iff.mp h
      obtain ⟨x5, ex5, h⟩ := h
      refine tb_e_lI rfl (Or.inr ⟨rfl, rfl⟩) ex5 ?_
      refine tb_Es (k := 1) (st' := (12, [(0, .ref v0)], [.int 32, .int x5], w)) rfl ?_
      refine tb_b_cne rfl (fun hc => ?_) (fun hc => ?_)
      · rw [if_pos hc] at h
        refine tb_Es (k := 2) (st' := (15, [(0, .ref v0)], [.ref v0, .ref v0], w)) rfl ?_
        replace h := Option.bind_eq_some_iff.mp h
        obtain ⟨x6, ex6, h⟩ := h
        refine tb_e_gI rfl ex6 ?_
        refine tb_Es (k := 2) (st' := (18, [(0, .ref v0)], [.int (x6 + 1), .ref v0], w)) rfl ?_
        replace h := Option.bind_eq_some_iff.mp h
        obtain ⟨w7, ew7, h⟩ := h
        refine tb_e_pI rfl ew7 ?_
        refine tb_Es (k := 2) (st' := (1, [(0, .ref v0)], [], w7)) rfl ?_
        exact ih v0 w7 _ h r hx
      · rw [if_neg hc] at h
        refine tb_Es (k := 1) (st' := (21, [(0, .ref v0)], [], w)) rfl ?_
        obtain rfl := Option.some.inj h
        exact hx
    · rw [if_neg hc] at h
      refine tb_Es (k := 1) (st' := (21, [(0, .ref v0)], [], w)) rfl ?_
      obtain rfl := Option.some.inj h
      exact hx
def fb_m_see (a0 : Nat) (w : tb_Hp) : Option (Int32 × tb_Hp) := (fl_m_see_0 1048576 a0 w).bind fun o8 => (tb_gI 22 8 o8.1 o8.2).bind fun x9 => (tb_gI 22 1 o8.1 o8.2).bind fun x10 => (if x9 < x10 then (tb_gN 22 0 o8.1 o8.2).bind fun p11 => (tb_gI 22 8 o8.1 o8.2).bind fun x12 => (tb_lI [0, 3] p11 x12 o8.2).bind fun x13 => some (x13 &&& 255, o8.2) else some (-1, o8.2))
set_option maxHeartbeats 4000000 in
set_option maxRecDepth 20000 in
theorem dc_m_see {a0 : Nat} {w : tb_Hp} {o : Int32 × tb_Hp} (h : fb_m_see a0 w = some o) : tb_Ev tb_P 0 177 (0, tb_ent [.ref a0], [], w) (some (.int o.1), o.2) := by
  unfold fb_m_see at h
  obtain ⟨r, hr⟩ : ∃ r : Option Value × tb_Hp, r = (some (.int o.1), o.2) := ⟨_, rfl⟩
  rw [← hr]
  show tb_Ev tb_P 0 177 (0, [(0, .ref a0)], [], w) r
  refine tb_Es (k := 1) (st' := (1, [(0, .ref a0)], [], w)) rfl ?_
  replace h := Option.bind_eq_some_iff.mp h
  obtain ⟨o8, eo8, h⟩ := h
  refine dl_m_see_0 _ a0 w _ eo8 r ?_
  refine tb_Es (k := 1) (st' := (22, [(0, .ref o8.1)], [.ref o8.1], o8.2)) rfl ?_
  replace h := Option.bind_eq_some_iff.mp h
  obtain ⟨x9, ex9, h⟩ := h
  refine tb_e_gI rfl ex9 ?_
  refine tb_Es (k := 1) (st' := (24, [(0, .ref o8.1)], [.ref o8.1, .int x9], o8.2)) rfl ?_
  replace h := Option.bind_eq_some_iff.mp h
  obtain ⟨x10, ex10, h⟩ := h
  refine tb_e_gI rfl ex10 ?_
  refine tb_b_cge rfl (fun hc => ?_) (fun hc => ?_)
  · rw [if_pos hc] at h
    refine tb_Es (k := 1) (st' := (27, [(0, .ref o8.1)], [.ref o8.1], o8.2)) rfl ?_
    replace h := Option.bind_eq_some_iff.mp h
    obtain ⟨p11, ep11, h⟩ := h
    refine tb_e_gN rfl ep11 ?_
    refine tb_Es (k := 1) (st' := (29, [(0, .ref o8.1)], [.ref o8.1, .ref p11], o8.2)) rfl ?_
    replace h := Option.bind_eq_some_iff.mp h
    obtain ⟨x12, ex12, h⟩ := h
    refine tb_e_gI rfl ex12 ?_
    replace h := Option.bind_eq_some_iff.mp h
    obtain ⟨x13, ex13, h⟩ := h
    refine tb_e_lI rfl (Or.inr ⟨rfl, rfl⟩) ex13 ?_
    refine tb_Es (k := 3) (st' := (35, [(0, .ref o8.1)], [.int (x13 &&& 255)], o8.2)) rfl ?_
    obtain rfl := Option.some.inj h
    subst hr
    exact tb_Er rfl rfl
  · rw [if_neg hc] at h
    refine tb_Es (k := 1) (st' := (35, [(0, .ref o8.1)], [.int (-1)], o8.2)) rfl ?_
    obtain rfl := Option.some.inj h
    subst hr
    exact tb_Er rfl rfl
/-! TannerBuntingModel.isLetter(I)Z -/
def fb_m_isLetter (a0 : Nat) (a1 : Int32) (w : tb_Hp) : Option (Int32 × tb_Hp) := (tb_gI 22 1 a0 w).bind fun x1 => (if a1 < x1 then (tb_gN 22 0 a0 w).bind fun p2 => (tb_lI [0, 3] p2 a1 w).bind fun x3 => (if x3 < 97 then some (0, w) else (tb_gN 22 0 a0 w).bind fun p4 => (tb_lI [0, 3] p4 a1 w).bind fun x5 => (if x5 ≤ 122 then some (1, w) else some (0, w))) else some (0, w))
set_option maxHeartbeats 4000000 in
set_option maxRecDepth 20000 in
theorem dc_m_isLetter {a0 : Nat} {a1 : Int32} {w : tb_Hp} {o : Int32 × tb_Hp} (h : fb_m_isLetter a0 a1 w = some o) : tb_Ev tb_P 0 180 (0, tb_ent [.ref a0, .int a1], [], w) (some (.int o.1), o.2) := by
  unfold fb_m_isLetter at h
  obtain ⟨r, hr⟩ : ∃ r : Option Value × tb_Hp, r = (some (.int o.1), o.2) := ⟨_, rfl⟩
  rw [← hr]
  show tb_Ev tb_P 0 180 (0, [(0, .ref a0), (1, .int a1)], [], w) r
  refine tb_Es (k := 2) (st' := (2, [(0, .ref a0), (1, .int a1)], [.ref a0, .int a1], w)) rfl ?_
  replace h := Option.bind_eq_some_iff.mp h
  obtain ⟨x1, ex1, h⟩ := h
  refine tb_e_gI rfl ex1 ?_
  refine tb_b_cge rfl (fun hc => ?_) (fun hc => ?_)
  · rw [if_pos hc] at h
    refine tb_Es (k := 1) (st' := (5, [(0, .ref a0), (1, .int a1)], [.ref a0], w)) rfl ?_
    replace h := Option.bind_eq_some_iff.mp h
    obtain ⟨p2, ep2, h⟩ := h
    refine tb_e_gN rfl ep2 ?_
    refine tb_Es (k := 1) (st' := (7, [(0, .ref a0), (1, .int a1)], [.int a1, .ref p2], w)) rfl ?_
    replace h := Option.bind_eq_some_iff.mp h
    obtain ⟨x3, ex3, h⟩ := h
    refine tb_e_lI rfl (Or.inr ⟨rfl, rfl⟩) ex3 ?_
    refine tb_Es (k := 1) (st' := (9, [(0, .ref a0), (1, .int a1)], [.int 97, .int x3], w)) rfl ?_
    refine tb_b_clt rfl (fun hc => ?_) (fun hc => ?_)
    · rw [if_pos hc] at h
      refine tb_Es (k := 1) (st' := (19, [(0, .ref a0), (1, .int a1)], [.int 0], w)) rfl ?_
      obtain rfl := Option.some.inj h
      subst hr
      exact tb_Er rfl rfl
    · rw [if_neg hc] at h
      refine tb_Es (k := 1) (st' := (11, [(0, .ref a0), (1, .int a1)], [.ref a0], w)) rfl ?_
      replace h := Option.bind_eq_some_iff.mp h
      obtain ⟨p4, ep4, h⟩ := h
      refine tb_e_gN rfl ep4 ?_
      refine tb_Es (k := 1) (st' := (13, [(0, .ref a0), (1, .int a1)], [.int a1, .ref p4], w)) rfl ?_
      replace h := Option.bind_eq_some_iff.mp h
      obtain ⟨x5, ex5, h⟩ := h
      refine tb_e_lI rfl (Or.inr ⟨rfl, rfl⟩) ex5 ?_
      refine tb_Es (k := 1) (st' := (15, [(0, .ref a0), (1, .int a1)], [.int 122, .int x5], w)) rfl ?_
      refine tb_b_cgt rfl (fun hc => ?_) (fun hc => ?_)
      · rw [if_pos hc] at h
        refine tb_Es (k := 2) (st' := (19, [(0, .ref a0), (1, .int a1)], [.int 1], w)) rfl ?_
        obtain rfl := Option.some.inj h
        subst hr
        exact tb_Er rfl rfl
      · rw [if_neg hc] at h
        refine tb_Es (k := 1) (st' := (19, [(0, .ref a0), (1, .int a1)], [.int 0], w)) rfl ?_
        obtain rfl := Option.some.inj h
        subst hr
        exact tb_Er rfl rfl
  · rw [if_neg hc] at h
    refine tb_Es (k := 1) (st' := (19, [(0, .ref a0), (1, .int a1)], [.int 0], w)) rfl ?_
    obtain rfl := Option.some.inj h
    subst hr
    exact tb_Er rfl rfl
/-! TannerBuntingModel.fails(II)Z -/
def fb_m_fails (a0 : Nat) (a1 : Int32) (a2 : Int32) (w : tb_Hp) : Option (Int32 × tb_Hp) := (tb_gI 22 9 a0 w).bind fun x1 => (if x1 = 0 then (tb_pI 22 9 a0 ((1 + (8 * a2)) + a1) w).bind fun w2 => some (0, w2) else some (0, w))
set_option maxHeartbeats 4000000 in
set_option maxRecDepth 20000 in
theorem dc_m_fails {a0 : Nat} {a1 : Int32} {a2 : Int32} {w : tb_Hp} {o : Int32 × tb_Hp} (h : fb_m_fails a0 a1 a2 w = some o) : tb_Ev tb_P 0 181 (0, tb_ent [.ref a0, .int a1, .int a2], [], w) (some (.int o.1), o.2) := by
  unfold fb_m_fails at h
  obtain ⟨r, hr⟩ : ∃ r : Option Value × tb_Hp, r = (some (.int o.1), o.2) := ⟨_, rfl⟩
  rw [← hr]
  show tb_Ev tb_P 0 181 (0, [(0, .ref a0), (1, .int a1), (2, .int a2)], [], w) r
  refine tb_Es (k := 1) (st' := (1, [(0, .ref a0), (1, .int a1), (2, .int a2)], [.ref a0], w)) rfl ?_
  replace h := Option.bind_eq_some_iff.mp h
  obtain ⟨x1, ex1, h⟩ := h
  refine tb_e_gI rfl ex1 ?_
  refine tb_b_ine rfl (fun hc => ?_) (fun hc => ?_)
  · rw [if_pos hc] at h
    refine tb_Es (k := 8) (st' := (11, [(0, .ref a0), (1, .int a1), (2, .int a2)], [.int ((1 + (8 * a2)) + a1), .ref a0], w)) rfl ?_
    replace h := Option.bind_eq_some_iff.mp h
    obtain ⟨w2, ew2, h⟩ := h
    refine tb_e_pI rfl ew2 ?_
    refine tb_Es (k := 1) (st' := (13, [(0, .ref a0), (1, .int a1), (2, .int a2)], [.int 0], w2)) rfl ?_
    obtain rfl := Option.some.inj h
    subst hr
    exact tb_Er rfl rfl
  · rw [if_neg hc] at h
    refine tb_Es (k := 1) (st' := (13, [(0, .ref a0), (1, .int a1), (2, .int a2)], [.int 0], w)) rfl ?_
    obtain rfl := Option.some.inj h
    subst hr
    exact tb_Er rfl rfl
/-! TannerBuntingModel.isDigit(I)Z -/
def fb_m_isDigit (a0 : Nat) (a1 : Int32) (w : tb_Hp) : Option (Int32 × tb_Hp) := (tb_gI 22 1 a0 w).bind fun x1 => (if a1 < x1 then (tb_gN 22 0 a0 w).bind fun p2 => (tb_lI [0, 3] p2 a1 w).bind fun x3 => (if x3 < 48 then some (0, w) else (tb_gN 22 0 a0 w).bind fun p4 => (tb_lI [0, 3] p4 a1 w).bind fun x5 => (if x5 ≤ 57 then some (1, w) else some (0, w))) else some (0, w))
set_option maxHeartbeats 4000000 in
set_option maxRecDepth 20000 in
theorem dc_m_isDigit {a0 : Nat} {a1 : Int32} {w : tb_Hp} {o : Int32 × tb_Hp} (h : fb_m_isDigit a0 a1 w = some o) : tb_Ev tb_P 0 187 (0, tb_ent [.ref a0, .int a1], [], w) (some (.int o.1), o.2) := by
  unfold fb_m_isDigit at h
  obtain ⟨r, hr⟩ : ∃ r : Option Value × tb_Hp, r = (some (.int o.1), o.2) := ⟨_, rfl⟩
  rw [← hr]
  show tb_Ev tb_P 0 187 (0, [(0, .ref a0), (1, .int a1)], [], w) r
  refine tb_Es (k := 2) (st' := (2, [(0, .ref a0), (1, .int a1)], [.ref a0, .int a1], w)) rfl ?_
  replace h := Option.bind_eq_some_iff.mp h
  obtain ⟨x1, ex1, h⟩ := h
  refine tb_e_gI rfl ex1 ?_
  refine tb_b_cge rfl (fun hc => ?_) (fun hc => ?_)
  · rw [if_pos hc] at h
    refine tb_Es (k := 1) (st' := (5, [(0, .ref a0), (1, .int a1)], [.ref a0], w)) rfl ?_
    replace h := Option.bind_eq_some_iff.mp h
    obtain ⟨p2, ep2, h⟩ := h
    refine tb_e_gN rfl ep2 ?_
    refine tb_Es (k := 1) (st' := (7, [(0, .ref a0), (1, .int a1)], [.int a1, .ref p2], w)) rfl ?_
    replace h := Option.bind_eq_some_iff.mp h
    obtain ⟨x3, ex3, h⟩ := h
    refine tb_e_lI rfl (Or.inr ⟨rfl, rfl⟩) ex3 ?_
    refine tb_Es (k := 1) (st' := (9, [(0, .ref a0), (1, .int a1)], [.int 48, .int x3], w)) rfl ?_
    refine tb_b_clt rfl (fun hc => ?_) (fun hc => ?_)
    · rw [if_pos hc] at h
      refine tb_Es (k := 1) (st' := (19, [(0, .ref a0), (1, .int a1)], [.int 0], w)) rfl ?_
      obtain rfl := Option.some.inj h
      subst hr
      exact tb_Er rfl rfl
    · rw [if_neg hc] at h
      refine tb_Es (k := 1) (st' := (11, [(0, .ref a0), (1, .int a1)], [.ref a0], w)) rfl ?_
      replace h := Option.bind_eq_some_iff.mp h
      obtain ⟨p4, ep4, h⟩ := h
      refine tb_e_gN rfl ep4 ?_
      refine tb_Es (k := 1) (st' := (13, [(0, .ref a0), (1, .int a1)], [.int a1, .ref p4], w)) rfl ?_
      replace h := Option.bind_eq_some_iff.mp h
      obtain ⟨x5, ex5, h⟩ := h
      refine tb_e_lI rfl (Or.inr ⟨rfl, rfl⟩) ex5 ?_
      refine tb_Es (k := 1) (st' := (15, [(0, .ref a0), (1, .int a1)], [.int 57, .int x5], w)) rfl ?_
      refine tb_b_cgt rfl (fun hc => ?_) (fun hc => ?_)
      · rw [if_pos hc] at h
        refine tb_Es (k := 2) (st' := (19, [(0, .ref a0), (1, .int a1)], [.int 1], w)) rfl ?_
        obtain rfl := Option.some.inj h
        subst hr
        exact tb_Er rfl rfl
      · rw [if_neg hc] at h
        refine tb_Es (k := 1) (st' := (19, [(0, .ref a0), (1, .int a1)], [.int 0], w)) rfl ?_
        obtain rfl := Option.some.inj h
        subst hr
        exact tb_Er rfl rfl
  · rw [if_neg hc] at h
    refine tb_Es (k := 1) (st' := (19, [(0, .ref a0), (1, .int a1)], [.int 0], w)) rfl ?_
    obtain rfl := Option.some.inj h
    subst hr
    exact tb_Er rfl rfl
/-! TannerBuntingModel.in(JJJ)Z -/
def fb_m_in (a0 : Int64) (a1 : Int64) (a2 : Int64) (w : tb_Hp) : Option (Int32 × tb_Hp) := (if (lg_cmp a0 a1) < 0 then some (0, w) else (if (lg_cmp a0 a2) ≤ 0 then some (1, w) else some (0, w)))
set_option maxHeartbeats 4000000 in
set_option maxRecDepth 20000 in
theorem dc_m_in {a0 : Int64} {a1 : Int64} {a2 : Int64} {w : tb_Hp} {o : Int32 × tb_Hp} (h : fb_m_in a0 a1 a2 w = some o) : tb_Ev tb_P 0 188 (0, tb_ent [.long a0, .long a1, .long a2], [], w) (some (.int o.1), o.2) := by
  unfold fb_m_in at h
  obtain ⟨r, hr⟩ : ∃ r : Option Value × tb_Hp, r = (some (.int o.1), o.2) := ⟨_, rfl⟩
  rw [← hr]
  show tb_Ev tb_P 0 188 (0, [(0, .long a0), (2, .long a1), (4, .long a2)], [], w) r
  refine tb_Es (k := 3) (st' := (3, [(0, .long a0), (2, .long a1), (4, .long a2)], [.int (lg_cmp a0 a1)], w)) rfl ?_
  refine tb_b_ilt rfl (fun hc => ?_) (fun hc => ?_)
  · rw [if_pos hc] at h
    refine tb_Es (k := 1) (st' := (11, [(0, .long a0), (2, .long a1), (4, .long a2)], [.int 0], w)) rfl ?_
    obtain rfl := Option.some.inj h
    subst hr
    exact tb_Er rfl rfl
  · rw [if_neg hc] at h
    refine tb_Es (k := 3) (st' := (7, [(0, .long a0), (2, .long a1), (4, .long a2)], [.int (lg_cmp a0 a2)], w)) rfl ?_
    refine tb_b_igt rfl (fun hc => ?_) (fun hc => ?_)
    · rw [if_pos hc] at h
      refine tb_Es (k := 2) (st' := (11, [(0, .long a0), (2, .long a1), (4, .long a2)], [.int 1], w)) rfl ?_
      obtain rfl := Option.some.inj h
      subst hr
      exact tb_Er rfl rfl
    · rw [if_neg hc] at h
      refine tb_Es (k := 1) (st' := (11, [(0, .long a0), (2, .long a1), (4, .long a2)], [.int 0], w)) rfl ?_
      obtain rfl := Option.some.inj h
      subst hr
      exact tb_Er rfl rfl
/-! TannerBuntingModel.puts(II)V -/
def fb_m_puts (a0 : Nat) (a1 : Int32) (a2 : Int32) (w : tb_Hp) : Option (tb_Hp) := (tb_gN 22 3 a0 w).bind fun p1 => (tb_gI 22 11 a0 w).bind fun x2 => (tb_gN 22 4 a0 w).bind fun p3 => (tb_gI 22 11 a0 w).bind fun x4 => (tb_lI [1, 9] p3 x4 w).bind fun x5 => (tb_tI p1 ((400 * x2) + x5) (a1 + (16 * a2)) w).bind fun w6 => (tb_gN 22 4 a0 w6).bind fun p7 => (tb_gI 22 11 a0 w6).bind fun x8 => (tb_lI [1, 9] p7 x8 w6).bind fun x9 => (tb_tI p7 x8 (x9 + 1) w6).bind fun w10 => some w10
set_option maxHeartbeats 4000000 in
set_option maxRecDepth 20000 in
theorem dc_m_puts {a0 : Nat} {a1 : Int32} {a2 : Int32} {w : tb_Hp} {o : tb_Hp} (h : fb_m_puts a0 a1 a2 w = some o) : tb_Ev tb_P 0 196 (0, tb_ent [.ref a0, .int a1, .int a2], [], w) (none, o) := by
  unfold fb_m_puts at h
  obtain ⟨r, hr⟩ : ∃ r : Option Value × tb_Hp, r = (none, o) := ⟨_, rfl⟩
  rw [← hr]
  show tb_Ev tb_P 0 196 (0, [(0, .ref a0), (1, .int a1), (2, .int a2)], [], w) r
  refine tb_Es (k := 1) (st' := (1, [(0, .ref a0), (1, .int a1), (2, .int a2)], [.ref a0], w)) rfl ?_
  replace h := Option.bind_eq_some_iff.mp h
  obtain ⟨p1, ep1, h⟩ := h
  refine tb_e_gN rfl ep1 ?_
  refine tb_Es (k := 2) (st' := (4, [(0, .ref a0), (1, .int a1), (2, .int a2)], [.ref a0, .int 400, .ref p1], w)) rfl ?_
  replace h := Option.bind_eq_some_iff.mp h
  obtain ⟨x2, ex2, h⟩ := h
  refine tb_e_gI rfl ex2 ?_
  refine tb_Es (k := 2) (st' := (7, [(0, .ref a0), (1, .int a1), (2, .int a2)], [.ref a0, .int (400 * x2), .ref p1], w)) rfl ?_
  replace h := Option.bind_eq_some_iff.mp h
  obtain ⟨p3, ep3, h⟩ := h
  refine tb_e_gN rfl ep3 ?_
  refine tb_Es (k := 1) (st' := (9, [(0, .ref a0), (1, .int a1), (2, .int a2)], [.ref a0, .ref p3, .int (400 * x2), .ref p1], w)) rfl ?_
  replace h := Option.bind_eq_some_iff.mp h
  obtain ⟨x4, ex4, h⟩ := h
  refine tb_e_gI rfl ex4 ?_
  replace h := Option.bind_eq_some_iff.mp h
  obtain ⟨x5, ex5, h⟩ := h
  refine tb_e_lI rfl (Or.inl ⟨rfl, rfl⟩) ex5 ?_
  refine tb_Es (k := 6) (st' := (17, [(0, .ref a0), (1, .int a1), (2, .int a2)], [.int (a1 + (16 * a2)), .int ((400 * x2) + x5), .ref p1], w)) rfl ?_
  replace h := Option.bind_eq_some_iff.mp h
  obtain ⟨w6, ew6, h⟩ := h
  refine tb_e_tI rfl ew6 ?_
  refine tb_Es (k := 1) (st' := (19, [(0, .ref a0), (1, .int a1), (2, .int a2)], [.ref a0], w6)) rfl ?_
  replace h := Option.bind_eq_some_iff.mp h
  obtain ⟨p7, ep7, h⟩ := h
  refine tb_e_gN rfl ep7 ?_
  refine tb_Es (k := 1) (st' := (21, [(0, .ref a0), (1, .int a1), (2, .int a2)], [.ref a0, .ref p7], w6)) rfl ?_
  replace h := Option.bind_eq_some_iff.mp h
  obtain ⟨x8, ex8, h⟩ := h
  refine tb_e_gI rfl ex8 ?_
  refine tb_Es (k := 1) (st' := (23, [(0, .ref a0), (1, .int a1), (2, .int a2)], [.int x8, .ref p7, .int x8, .ref p7], w6)) rfl ?_
  replace h := Option.bind_eq_some_iff.mp h
  obtain ⟨x9, ex9, h⟩ := h
  refine tb_e_lI rfl (Or.inl ⟨rfl, rfl⟩) ex9 ?_
  refine tb_Es (k := 2) (st' := (26, [(0, .ref a0), (1, .int a1), (2, .int a2)], [.int (x9 + 1), .int x8, .ref p7], w6)) rfl ?_
  replace h := Option.bind_eq_some_iff.mp h
  obtain ⟨w10, ew10, h⟩ := h
  refine tb_e_tI rfl ew10 ?_
  obtain rfl := Option.some.inj h
  subst hr
  exact tb_Er rfl rfl
/-! TannerBuntingModel.strength(I)I -/
def fb_m_strength (a0 : Int32) (w : tb_Hp) : Option (Int32 × tb_Hp) := (if a0 = 13 then some (1, w) else (if a0 = 12 then some (2, w) else (if a0 = 11 then some (3, w) else some (0, w))))
set_option maxHeartbeats 4000000 in
set_option maxRecDepth 20000 in
theorem dc_m_strength {a0 : Int32} {w : tb_Hp} {o : Int32 × tb_Hp} (h : fb_m_strength a0 w = some o) : tb_Ev tb_P 0 205 (0, tb_ent [.int a0], [], w) (some (.int o.1), o.2) := by
  unfold fb_m_strength at h
  obtain ⟨r, hr⟩ : ∃ r : Option Value × tb_Hp, r = (some (.int o.1), o.2) := ⟨_, rfl⟩
  rw [← hr]
  show tb_Ev tb_P 0 205 (0, [(0, .int a0)], [], w) r
  refine tb_Es (k := 2) (st' := (2, [(0, .int a0)], [.int 13, .int a0], w)) rfl ?_
  refine tb_b_cne rfl (fun hc => ?_) (fun hc => ?_)
  · rw [if_pos hc] at h
    refine tb_Es (k := 2) (st' := (16, [(0, .int a0)], [.int 1], w)) rfl ?_
    obtain rfl := Option.some.inj h
    subst hr
    exact tb_Er rfl rfl
  · rw [if_neg hc] at h
    refine tb_Es (k := 2) (st' := (7, [(0, .int a0)], [.int 12, .int a0], w)) rfl ?_
    refine tb_b_cne rfl (fun hc => ?_) (fun hc => ?_)
    · rw [if_pos hc] at h
      refine tb_Es (k := 2) (st' := (16, [(0, .int a0)], [.int 2], w)) rfl ?_
      obtain rfl := Option.some.inj h
      subst hr
      exact tb_Er rfl rfl
    · rw [if_neg hc] at h
      refine tb_Es (k := 2) (st' := (12, [(0, .int a0)], [.int 11, .int a0], w)) rfl ?_
      refine tb_b_cne rfl (fun hc => ?_) (fun hc => ?_)
      · rw [if_pos hc] at h
        refine tb_Es (k := 2) (st' := (16, [(0, .int a0)], [.int 3], w)) rfl ?_
        obtain rfl := Option.some.inj h
        subst hr
        exact tb_Er rfl rfl
      · rw [if_neg hc] at h
        refine tb_Es (k := 1) (st' := (16, [(0, .int a0)], [.int 0], w)) rfl ?_
        obtain rfl := Option.some.inj h
        subst hr
        exact tb_Er rfl rfl
