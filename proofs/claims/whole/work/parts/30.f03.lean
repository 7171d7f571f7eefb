/-! TannerBuntingModel.isInside()Z -/
def fj_m_isInside_j12 (k : Nat → Int32 → tb_Hp → Option (Int32 × tb_Hp)) (w : tb_Hp) : Option (Int32 × tb_Hp) := some ((1, w))
set_option maxHeartbeats 4000000 in
set_option maxRecDepth 20000 in
theorem dj_m_isInside_j12 (k : Nat → Int32 → tb_Hp → Option (Int32 × tb_Hp)) (w : tb_Hp) (o : Int32 × tb_Hp) (h : fj_m_isInside_j12 k  w = some o) (r : Option Value × tb_Hp) (hx : r = (some (.int o.1), o.2)) (hk : ∀ (v0 : Nat) (v1 : Int32) (w : tb_Hp), k v0 v1 w = some o → tb_Ev tb_P 0 206 (3, [(0, .ref v0), (1, .int v1)], [], w) r) : tb_Ev tb_P 0 206 (14, [], [], w) r := by
  unfold fj_m_isInside_j12 at h
  refine tb_Es (k := 1) (st' := (15, [], [.int 1], w)) rfl ?_
  obtain rfl := Option.some.inj h
  replace hx : r = _ := hx
  subst hx
  exact tb_Er rfl rfl
def fj_m_isInside_j16 (k : Nat → Int32 → tb_Hp → Option (Int32 × tb_Hp)) (w : tb_Hp) : Option (Int32 × tb_Hp) := some ((0, w))
set_option maxHeartbeats 4000000 in
set_option maxRecDepth 20000 in
theorem dj_m_isInside_j16 (k : Nat → Int32 → tb_Hp → Option (Int32 × tb_Hp)) (w : tb_Hp) (o : Int32 × tb_Hp) (h : fj_m_isInside_j16 k  w = some o) (r : Option Value × tb_Hp) (hx : r = (some (.int o.1), o.2)) (hk : ∀ (v0 : Nat) (v1 : Int32) (w : tb_Hp), k v0 v1 w = some o → tb_Ev tb_P 0 206 (3, [(0, .ref v0), (1, .int v1)], [], w) r) : tb_Ev tb_P 0 206 (19, [], [], w) r := by
  unfold fj_m_isInside_j16 at h
  refine tb_Es (k := 1) (st' := (20, [], [.int 0], w)) rfl ?_
  obtain rfl := Option.some.inj h
  replace hx : r = _ := hx
  subst hx
  exact tb_Er rfl rfl
def fl_m_isInside_2 : Nat → Nat → Int32 → tb_Hp → Option (Int32 × tb_Hp)
  | 0, _, _, _ => none
  | n + 1, v0, v1, w => (tb_gI 22 16 v0 w).bind fun x1 => (if v1 < x1 then (tb_gN 22 15 v0 w).bind fun p2 => (tb_lI [1, 9] p2 v1 w).bind fun x3 => (if x3 = 91 then fj_m_isInside_j12 (fl_m_isInside_2 n)  w else fl_m_isInside_2 n v0 (v1 + 1) w) else fj_m_isInside_j16 (fl_m_isInside_2 n)  w)
set_option maxHeartbeats 4000000 in
set_option maxRecDepth 20000 in
theorem dl_m_isInside_2 : ∀ (n : Nat) (v0 : Nat) (v1 : Int32) (w : tb_Hp) (o : Int32 × tb_Hp), fl_m_isInside_2 n v0 v1 w = some o → ∀ (r : Option Value × tb_Hp), r = (some (.int o.1), o.2) → tb_Ev tb_P 0 206 (3, [(0, .ref v0), (1, .int v1)], [], w) r := by
  intro n
  induction n with
  | zero =>
    intro v0 v1 w o h
    cases h
  | succ n ih =>
    intro v0 v1 w o h r hx
    unfold fl_m_isInside_2 at h
    refine tb_Es (k := 2) (st' := (5, [(0, .ref v0), (1, .int v1)], [.ref v0, .int v1], w)) rfl ?_
    replace h := Option.bind_eq_some_iff.mp h
    obtain ⟨x1, ex1, h⟩ := h
    refine tb_e_gI rfl ex1 ?_
    refine tb_b_cge rfl (fun hc => ?_) (fun hc => ?_)
    · rw [if_pos hc] at h
      refine tb_Es (k := 1) (st' := (8, [(0, .ref v0), (1, .int v1)], [.ref v0], w)) rfl ?_
      replace h := Option.bind_eq_some_iff.mp h
      obtain ⟨p2, ep2, h⟩ := h
      refine tb_e_gN rfl ep2 ?_
      refine tb_Es (k := 1) (st' := (10, [(0, .ref v0), (1, .int v1)], [.int v1, .ref p2], w)) rfl ?_
      replace h := Option.bind_eq_some_iff.mp h
      obtain ⟨x3, ex3, h⟩ := h
      refine tb_e_lI rfl (Or.inl ⟨rfl, rfl⟩) ex3 ?_
      refine tb_Es (k := 1) (st' := (12, [(0, .ref v0), (1, .int v1)], [.int 91, .int x3], w)) rfl ?_
      refine tb_b_cne rfl (fun hc => ?_) (fun hc => ?_)
      · rw [if_pos hc] at h
        refine tb_Es (k := 1) (st' := (14, [], [], w)) rfl ?_
        exact dj_m_isInside_j12 (fl_m_isInside_2 n)  w _ h r hx (fun v0_ v1_ w_ h_ => ih v0_ v1_ w_ _ h_ r hx)
      · rw [if_neg hc] at h
        refine tb_Es (k := 3) (st' := (3, [(0, .ref v0), (1, .int (v1 + 1))], [], w)) rfl ?_
        exact ih v0 (v1 + 1) w _ h r hx
    · rw [if_neg hc] at h
      refine tb_Es (k := 1) (st' := (19, [], [], w)) rfl ?_
      exact dj_m_isInside_j16 (fl_m_isInside_2 n)  w _ h r hx (fun v0_ v1_ w_ h_ => ih v0_ v1_ w_ _ h_ r hx)
def fb_m_isInside (a0 : Nat) (w : tb_Hp) : Option (Int32 × tb_Hp) := (fl_m_isInside_2 1048576 a0 0 w).bind fun o4 => some o4
set_option maxHeartbeats 4000000 in
set_option maxRecDepth 20000 in
theorem dc_m_isInside {a0 : Nat} {w : tb_Hp} {o : Int32 × tb_Hp} (h : fb_m_isInside a0 w = some o) : tb_Ev tb_P 0 206 (0, tb_ent [.ref a0], [], w) (some (.int o.1), o.2) := by
  unfold fb_m_isInside at h
  obtain ⟨r, hr⟩ : ∃ r : Option Value × tb_Hp, r = (some (.int o.1), o.2) := ⟨_, rfl⟩
  rw [← hr]
  show tb_Ev tb_P 0 206 (0, [(0, .ref a0)], [], w) r
  refine tb_Es (k := 3) (st' := (3, [(0, .ref a0), (1, .int 0)], [], w)) rfl ?_
  replace h := Option.bind_eq_some_iff.mp h
  obtain ⟨o4, eo4, h⟩ := h
  refine dl_m_isInside_2 _ a0 0 w _ eo4 r ?_
  obtain rfl := Option.some.inj h
  exact hr
/-! TannerBuntingModel.ups(IIII)V -/
def fb_m_ups (a0 : Nat) (a1 : Int32) (a2 : Int32) (a3 : Int32) (a4 : Int32) (w : tb_Hp) : Option (tb_Hp) := (tb_gN 22 20 a0 w).bind fun p1 => (tb_tI p1 (42 + (4 * a1)) a2 w).bind fun w2 => (tb_gN 22 20 a0 w2).bind fun p3 => (tb_tI p3 ((42 + (4 * a1)) + 1) a3 w2).bind fun w4 => (tb_gN 22 20 a0 w4).bind fun p5 => (tb_tI p5 ((42 + (4 * a1)) + 2) a4 w4).bind fun w6 => (tb_gN 22 20 a0 w6).bind fun p7 => (tb_tI p7 ((42 + (4 * a1)) + 3) 1 w6).bind fun w8 => some w8
set_option maxHeartbeats 4000000 in
set_option maxRecDepth 20000 in
theorem dc_m_ups {a0 : Nat} {a1 : Int32} {a2 : Int32} {a3 : Int32} {a4 : Int32} {w : tb_Hp} {o : tb_Hp} (h : fb_m_ups a0 a1 a2 a3 a4 w = some o) : tb_Ev tb_P 0 209 (0, tb_ent [.ref a0, .int a1, .int a2, .int a3, .int a4], [], w) (none, o) := by
  unfold fb_m_ups at h
  obtain ⟨r, hr⟩ : ∃ r : Option Value × tb_Hp, r = (none, o) := ⟨_, rfl⟩
  rw [← hr]
  show tb_Ev tb_P 0 209 (0, [(0, .ref a0), (1, .int a1), (2, .int a2), (3, .int a3), (4, .int a4)], [], w) r
  refine tb_Es (k := 7) (st' := (7, [(5, .int (42 + (4 * a1))), (0, .ref a0), (1, .int a1), (2, .int a2), (3, .int a3), (4, .int a4)], [.ref a0], w)) rfl ?_
  replace h := Option.bind_eq_some_iff.mp h
  obtain ⟨p1, ep1, h⟩ := h
  refine tb_e_gN rfl ep1 ?_
  refine tb_Es (k := 2) (st' := (10, [(5, .int (42 + (4 * a1))), (0, .ref a0), (1, .int a1), (2, .int a2), (3, .int a3), (4, .int a4)], [.int a2, .int (42 + (4 * a1)), .ref p1], w)) rfl ?_
  replace h := Option.bind_eq_some_iff.mp h
  obtain ⟨w2, ew2, h⟩ := h
  refine tb_e_tI rfl ew2 ?_
  refine tb_Es (k := 1) (st' := (12, [(5, .int (42 + (4 * a1))), (0, .ref a0), (1, .int a1), (2, .int a2), (3, .int a3), (4, .int a4)], [.ref a0], w2)) rfl ?_
  replace h := Option.bind_eq_some_iff.mp h
  obtain ⟨p3, ep3, h⟩ := h
  refine tb_e_gN rfl ep3 ?_
  refine tb_Es (k := 4) (st' := (17, [(5, .int (42 + (4 * a1))), (0, .ref a0), (1, .int a1), (2, .int a2), (3, .int a3), (4, .int a4)], [.int a3, .int ((42 + (4 * a1)) + 1), .ref p3], w2)) rfl ?_
  replace h := Option.bind_eq_some_iff.mp h
  obtain ⟨w4, ew4, h⟩ := h
  refine tb_e_tI rfl ew4 ?_
  refine tb_Es (k := 1) (st' := (19, [(5, .int (42 + (4 * a1))), (0, .ref a0), (1, .int a1), (2, .int a2), (3, .int a3), (4, .int a4)], [.ref a0], w4)) rfl ?_
  replace h := Option.bind_eq_some_iff.mp h
  obtain ⟨p5, ep5, h⟩ := h
  refine tb_e_gN rfl ep5 ?_
  refine tb_Es (k := 4) (st' := (24, [(5, .int (42 + (4 * a1))), (0, .ref a0), (1, .int a1), (2, .int a2), (3, .int a3), (4, .int a4)], [.int a4, .int ((42 + (4 * a1)) + 2), .ref p5], w4)) rfl ?_
  replace h := Option.bind_eq_some_iff.mp h
  obtain ⟨w6, ew6, h⟩ := h
  refine tb_e_tI rfl ew6 ?_
  refine tb_Es (k := 1) (st' := (26, [(5, .int (42 + (4 * a1))), (0, .ref a0), (1, .int a1), (2, .int a2), (3, .int a3), (4, .int a4)], [.ref a0], w6)) rfl ?_
  replace h := Option.bind_eq_some_iff.mp h
  obtain ⟨p7, ep7, h⟩ := h
  refine tb_e_gN rfl ep7 ?_
  refine tb_Es (k := 4) (st' := (31, [(5, .int (42 + (4 * a1))), (0, .ref a0), (1, .int a1), (2, .int a2), (3, .int a3), (4, .int a4)], [.int 1, .int ((42 + (4 * a1)) + 3), .ref p7], w6)) rfl ?_
  replace h := Option.bind_eq_some_iff.mp h
  obtain ⟨w8, ew8, h⟩ := h
  refine tb_e_tI rfl ew8 ?_
  obtain rfl := Option.some.inj h
  subst hr
  exact tb_Er rfl rfl
/-! TannerBuntingModel.isRule(I)Z -/
def fb_m_isRule (a0 : Nat) (a1 : Int32) (w : tb_Hp) : Option (Int32 × tb_Hp) := (if a1 < 0 then some (0, w) else (tb_gI 22 2 a0 w).bind fun x1 => (if a1 < x1 then some (1, w) else some (0, w)))
set_option maxHeartbeats 4000000 in
set_option maxRecDepth 20000 in
theorem dc_m_isRule {a0 : Nat} {a1 : Int32} {w : tb_Hp} {o : Int32 × tb_Hp} (h : fb_m_isRule a0 a1 w = some o) : tb_Ev tb_P 0 211 (0, tb_ent [.ref a0, .int a1], [], w) (some (.int o.1), o.2) := by
  unfold fb_m_isRule at h
  obtain ⟨r, hr⟩ : ∃ r : Option Value × tb_Hp, r = (some (.int o.1), o.2) := ⟨_, rfl⟩
  rw [← hr]
  show tb_Ev tb_P 0 211 (0, [(0, .ref a0), (1, .int a1)], [], w) r
  refine tb_Es (k := 1) (st' := (1, [(0, .ref a0), (1, .int a1)], [.int a1], w)) rfl ?_
  refine tb_b_ilt rfl (fun hc => ?_) (fun hc => ?_)
  · rw [if_pos hc] at h
    refine tb_Es (k := 1) (st' := (9, [(0, .ref a0), (1, .int a1)], [.int 0], w)) rfl ?_
    obtain rfl := Option.some.inj h
    subst hr
    exact tb_Er rfl rfl
  · rw [if_neg hc] at h
    refine tb_Es (k := 2) (st' := (4, [(0, .ref a0), (1, .int a1)], [.ref a0, .int a1], w)) rfl ?_
    replace h := Option.bind_eq_some_iff.mp h
    obtain ⟨x1, ex1, h⟩ := h
    refine tb_e_gI rfl ex1 ?_
    refine tb_b_cge rfl (fun hc => ?_) (fun hc => ?_)
    · rw [if_pos hc] at h
      refine tb_Es (k := 2) (st' := (9, [(0, .ref a0), (1, .int a1)], [.int 1], w)) rfl ?_
      obtain rfl := Option.some.inj h
      subst hr
      exact tb_Er rfl rfl
    · rw [if_neg hc] at h
      refine tb_Es (k := 1) (st' := (9, [(0, .ref a0), (1, .int a1)], [.int 0], w)) rfl ?_
      obtain rfl := Option.some.inj h
      subst hr
      exact tb_Er rfl rfl
/-! TannerBuntingModel.houses()I -/
def fb_m_houses (a0 : Nat) (w : tb_Hp) : Option (Int32 × tb_Hp) := (tb_gN 22 20 a0 w).bind fun p1 => (tb_lI [1, 9] p1 1 w).bind fun x2 => some (2 * x2, w)
set_option maxHeartbeats 4000000 in
set_option maxRecDepth 20000 in
theorem dc_m_houses {a0 : Nat} {w : tb_Hp} {o : Int32 × tb_Hp} (h : fb_m_houses a0 w = some o) : tb_Ev tb_P 0 214 (0, tb_ent [.ref a0], [], w) (some (.int o.1), o.2) := by
  unfold fb_m_houses at h
  obtain ⟨r, hr⟩ : ∃ r : Option Value × tb_Hp, r = (some (.int o.1), o.2) := ⟨_, rfl⟩
  rw [← hr]
  show tb_Ev tb_P 0 214 (0, [(0, .ref a0)], [], w) r
  refine tb_Es (k := 2) (st' := (2, [(0, .ref a0)], [.ref a0, .int 2], w)) rfl ?_
  replace h := Option.bind_eq_some_iff.mp h
  obtain ⟨p1, ep1, h⟩ := h
  refine tb_e_gN rfl ep1 ?_
  refine tb_Es (k := 1) (st' := (4, [(0, .ref a0)], [.int 1, .ref p1, .int 2], w)) rfl ?_
  replace h := Option.bind_eq_some_iff.mp h
  obtain ⟨x2, ex2, h⟩ := h
  refine tb_e_lI rfl (Or.inl ⟨rfl, rfl⟩) ex2 ?_
  refine tb_Es (k := 1) (st' := (6, [(0, .ref a0)], [.int (2 * x2)], w)) rfl ?_
  obtain rfl := Option.some.inj h
  subst hr
  exact tb_Er rfl rfl
/-! TannerBuntingModel.isLine(I)Z -/
def fb_m_isLine (a0 : Nat) (a1 : Int32) (w : tb_Hp) : Option (Int32 × tb_Hp) := (if a1 < 0 then some (0, w) else (tb_gN 22 20 a0 w).bind fun p1 => (tb_lI [1, 9] p1 11 w).bind fun x2 => (if a1 < x2 then some (1, w) else some (0, w)))
set_option maxHeartbeats 4000000 in
set_option maxRecDepth 20000 in
theorem dc_m_isLine {a0 : Nat} {a1 : Int32} {w : tb_Hp} {o : Int32 × tb_Hp} (h : fb_m_isLine a0 a1 w = some o) : tb_Ev tb_P 0 218 (0, tb_ent [.ref a0, .int a1], [], w) (some (.int o.1), o.2) := by
  unfold fb_m_isLine at h
  obtain ⟨r, hr⟩ : ∃ r : Option Value × tb_Hp, r = (some (.int o.1), o.2) := ⟨_, rfl⟩
  rw [← hr]
  show tb_Ev tb_P 0 218 (0, [(0, .ref a0), (1, .int a1)], [], w) r
  refine tb_Es (k := 1) (st' := (1, [(0, .ref a0), (1, .int a1)], [.int a1], w)) rfl ?_
  refine tb_b_ilt rfl (fun hc => ?_) (fun hc => ?_)
  · rw [if_pos hc] at h
    refine tb_Es (k := 1) (st' := (11, [(0, .ref a0), (1, .int a1)], [.int 0], w)) rfl ?_
    obtain rfl := Option.some.inj h
    subst hr
    exact tb_Er rfl rfl
  · rw [if_neg hc] at h
    refine tb_Es (k := 2) (st' := (4, [(0, .ref a0), (1, .int a1)], [.ref a0, .int a1], w)) rfl ?_
    replace h := Option.bind_eq_some_iff.mp h
    obtain ⟨p1, ep1, h⟩ := h
    refine tb_e_gN rfl ep1 ?_
    refine tb_Es (k := 1) (st' := (6, [(0, .ref a0), (1, .int a1)], [.int 11, .ref p1, .int a1], w)) rfl ?_
    replace h := Option.bind_eq_some_iff.mp h
    obtain ⟨x2, ex2, h⟩ := h
    refine tb_e_lI rfl (Or.inl ⟨rfl, rfl⟩) ex2 ?_
    refine tb_b_cge rfl (fun hc => ?_) (fun hc => ?_)
    · rw [if_pos hc] at h
      refine tb_Es (k := 2) (st' := (11, [(0, .ref a0), (1, .int a1)], [.int 1], w)) rfl ?_
      obtain rfl := Option.some.inj h
      subst hr
      exact tb_Er rfl rfl
    · rw [if_neg hc] at h
      refine tb_Es (k := 1) (st' := (11, [(0, .ref a0), (1, .int a1)], [.int 0], w)) rfl ?_
      obtain rfl := Option.some.inj h
      subst hr
      exact tb_Er rfl rfl
/-! TannerBuntingModel.oddOf(I)I -/
def fb_m_oddOf (a0 : Nat) (a1 : Int32) (w : tb_Hp) : Option (Int32 × tb_Hp) := (tb_gN 22 20 a0 w).bind fun p1 => (tb_lI [1, 9] p1 (42 + (4 * a1)) w).bind fun x2 => some (x2, w)
set_option maxHeartbeats 4000000 in
set_option maxRecDepth 20000 in
theorem dc_m_oddOf {a0 : Nat} {a1 : Int32} {w : tb_Hp} {o : Int32 × tb_Hp} (h : fb_m_oddOf a0 a1 w = some o) : tb_Ev tb_P 0 219 (0, tb_ent [.ref a0, .int a1], [], w) (some (.int o.1), o.2) := by
  unfold fb_m_oddOf at h
  obtain ⟨r, hr⟩ : ∃ r : Option Value × tb_Hp, r = (some (.int o.1), o.2) := ⟨_, rfl⟩
  rw [← hr]
  show tb_Ev tb_P 0 219 (0, [(0, .ref a0), (1, .int a1)], [], w) r
  refine tb_Es (k := 1) (st' := (1, [(0, .ref a0), (1, .int a1)], [.ref a0], w)) rfl ?_
  replace h := Option.bind_eq_some_iff.mp h
  obtain ⟨p1, ep1, h⟩ := h
  refine tb_e_gN rfl ep1 ?_
  refine tb_Es (k := 5) (st' := (7, [(0, .ref a0), (1, .int a1)], [.int (42 + (4 * a1)), .ref p1], w)) rfl ?_
  replace h := Option.bind_eq_some_iff.mp h
  obtain ⟨x2, ex2, h⟩ := h
  refine tb_e_lI rfl (Or.inl ⟨rfl, rfl⟩) ex2 ?_
  obtain rfl := Option.some.inj h
  subst hr
  exact tb_Er rfl rfl
/-! TannerBuntingModel.evenOf(I)I -/
def fb_m_evenOf (a0 : Nat) (a1 : Int32) (w : tb_Hp) : Option (Int32 × tb_Hp) := (tb_gN 22 20 a0 w).bind fun p1 => (tb_lI [1, 9] p1 ((42 + (4 * a1)) + 1) w).bind fun x2 => some (x2, w)
set_option maxHeartbeats 4000000 in
set_option maxRecDepth 20000 in
theorem dc_m_evenOf {a0 : Nat} {a1 : Int32} {w : tb_Hp} {o : Int32 × tb_Hp} (h : fb_m_evenOf a0 a1 w = some o) : tb_Ev tb_P 0 220 (0, tb_ent [.ref a0, .int a1], [], w) (some (.int o.1), o.2) := by
  unfold fb_m_evenOf at h
  obtain ⟨r, hr⟩ : ∃ r : Option Value × tb_Hp, r = (some (.int o.1), o.2) := ⟨_, rfl⟩
  rw [← hr]
  show tb_Ev tb_P 0 220 (0, [(0, .ref a0), (1, .int a1)], [], w) r
  refine tb_Es (k := 1) (st' := (1, [(0, .ref a0), (1, .int a1)], [.ref a0], w)) rfl ?_
  replace h := Option.bind_eq_some_iff.mp h
  obtain ⟨p1, ep1, h⟩ := h
  refine tb_e_gN rfl ep1 ?_
  refine tb_Es (k := 7) (st' := (9, [(0, .ref a0), (1, .int a1)], [.int ((42 + (4 * a1)) + 1), .ref p1], w)) rfl ?_
  replace h := Option.bind_eq_some_iff.mp h
  obtain ⟨x2, ex2, h⟩ := h
  refine tb_e_lI rfl (Or.inl ⟨rfl, rfl⟩) ex2 ?_
  obtain rfl := Option.some.inj h
  subst hr
  exact tb_Er rfl rfl
/-! TannerBuntingModel.undo()I -/
def fl_m_undo_13 : Nat → Nat → Int32 → tb_Hp → Option (Nat × tb_Hp)
  | 0, _, _, _ => none
  | n + 1, v0, v1, w => (if v1 < 64 then (tb_gN 22 20 v0 w).bind fun p4 => (tb_gN 22 23 v0 w).bind fun p5 => (tb_gI 22 24 v0 w).bind fun x6 => (tb_lI [1, 9] p5 ((64 * x6) + v1) w).bind fun x7 => (tb_tI p4 (10 + v1) x7 w).bind fun w8 => fl_m_undo_13 n v0 (v1 + 1) w8 else some ((v0, w)))
set_option maxHeartbeats 4000000 in
set_option maxRecDepth 20000 in
theorem dl_m_undo_13 : ∀ (n : Nat) (v0 : Nat) (v1 : Int32) (w : tb_Hp) (o : Nat × tb_Hp), fl_m_undo_13 n v0 v1 w = some o → ∀ (r : Option Value × tb_Hp), tb_Ev tb_P 0 222 (35, [(0, .ref o.1)], [], o.2) r → tb_Ev tb_P 0 222 (14, [(0, .ref v0), (1, .int v1)], [], w) r := by
  intro n
  induction n with
  | zero =>
    intro v0 v1 w o h
    cases h
  | succ n ih =>
    intro v0 v1 w o h r hx
    unfold fl_m_undo_13 at h
    refine tb_Es (k := 2) (st' := (16, [(0, .ref v0), (1, .int v1)], [.int 64, .int v1], w)) rfl ?_
    refine tb_b_cge rfl (fun hc => ?_) (fun hc => ?_)
    · rw [if_pos hc] at h
      refine tb_Es (k := 1) (st' := (18, [(0, .ref v0), (1, .int v1)], [.ref v0], w)) rfl ?_
      replace h := Option.bind_eq_some_iff.mp h
      obtain ⟨p4, ep4, h⟩ := h
      refine tb_e_gN rfl ep4 ?_
      refine tb_Es (k := 4) (st' := (23, [(0, .ref v0), (1, .int v1)], [.ref v0, .int (10 + v1), .ref p4], w)) rfl ?_
      replace h := Option.bind_eq_some_iff.mp h
      obtain ⟨p5, ep5, h⟩ := h
      refine tb_e_gN rfl ep5 ?_
      refine tb_Es (k := 2) (st' := (26, [(0, .ref v0), (1, .int v1)], [.ref v0, .int 64, .ref p5, .int (10 + v1), .ref p4], w)) rfl ?_
      replace h := Option.bind_eq_some_iff.mp h
      obtain ⟨x6, ex6, h⟩ := h
      refine tb_e_gI rfl ex6 ?_
      refine tb_Es (k := 3) (st' := (30, [(0, .ref v0), (1, .int v1)], [.int ((64 * x6) + v1), .ref p5, .int (10 + v1), .ref p4], w)) rfl ?_
      replace h := Option.bind_eq_some_iff.mp h
      obtain ⟨x7, ex7, h⟩ := h
      refine tb_e_lI rfl (Or.inl ⟨rfl, rfl⟩) ex7 ?_
      replace h := Option.bind_eq_some_iff.mp h
      obtain ⟨w8, ew8, h⟩ := h
      refine tb_e_tI rfl ew8 ?_
      refine tb_Es (k := 3) (st' := (14, [(0, .ref v0), (1, .int (v1 + 1))], [], w8)) rfl ?_
      exact ih v0 (v1 + 1) w8 _ h r hx
    · rw [if_neg hc] at h
      refine tb_Es (k := 1) (st' := (35, [(0, .ref v0)], [], w)) rfl ?_
      obtain rfl := Option.some.inj h
      exact hx
def fb_m_undo (a0 : Nat) (w : tb_Hp) : Option (Int32 × tb_Hp) := (tb_gI 22 24 a0 w).bind fun x1 => (if x1 = 0 then some (-1, w) else (tb_gI 22 24 a0 w).bind fun x2 => (tb_pI 22 24 a0 (x2 - 1) w).bind fun w3 => (fl_m_undo_13 1048576 a0 0 w3).bind fun o9 => (tb_gI 22 24 o9.1 o9.2).bind fun x10 => some (x10, o9.2))
set_option maxHeartbeats 4000000 in
set_option maxRecDepth 20000 in
theorem dc_m_undo {a0 : Nat} {w : tb_Hp} {o : Int32 × tb_Hp} (h : fb_m_undo a0 w = some o) : tb_Ev tb_P 0 222 (0, tb_ent [.ref a0], [], w) (some (.int o.1), o.2) := by
  unfold fb_m_undo at h
  obtain ⟨r, hr⟩ : ∃ r : Option Value × tb_Hp, r = (some (.int o.1), o.2) := ⟨_, rfl⟩
  rw [← hr]
  show tb_Ev tb_P 0 222 (0, [(0, .ref a0)], [], w) r
  refine tb_Es (k := 1) (st' := (1, [(0, .ref a0)], [.ref a0], w)) rfl ?_
  replace h := Option.bind_eq_some_iff.mp h
  obtain ⟨x1, ex1, h⟩ := h
  refine tb_e_gI rfl ex1 ?_
  refine tb_b_ine rfl (fun hc => ?_) (fun hc => ?_)
  · rw [if_pos hc] at h
    refine tb_Es (k := 1) (st' := (4, [(0, .ref a0)], [.int (-1)], w)) rfl ?_
    obtain rfl := Option.some.inj h
    subst hr
    exact tb_Er rfl rfl
  · rw [if_neg hc] at h
    refine tb_Es (k := 2) (st' := (7, [(0, .ref a0)], [.ref a0, .ref a0], w)) rfl ?_
    replace h := Option.bind_eq_some_iff.mp h
    obtain ⟨x2, ex2, h⟩ := h
    refine tb_e_gI rfl ex2 ?_
    refine tb_Es (k := 2) (st' := (10, [(0, .ref a0)], [.int (x2 - 1), .ref a0], w)) rfl ?_
    replace h := Option.bind_eq_some_iff.mp h
    obtain ⟨w3, ew3, h⟩ := h
    refine tb_e_pI rfl ew3 ?_
    refine tb_Es (k := 3) (st' := (14, [(0, .ref a0), (1, .int 0)], [], w3)) rfl ?_
    replace h := Option.bind_eq_some_iff.mp h
    obtain ⟨o9, eo9, h⟩ := h
    refine dl_m_undo_13 _ a0 0 w3 _ eo9 r ?_
    refine tb_Es (k := 1) (st' := (36, [(0, .ref o9.1)], [.ref o9.1], o9.2)) rfl ?_
    replace h := Option.bind_eq_some_iff.mp h
    obtain ⟨x10, ex10, h⟩ := h
    refine tb_e_gI rfl ex10 ?_
    obtain rfl := Option.some.inj h
    subst hr
    exact tb_Er rfl rfl
/-! TannerBuntingModel.isStreet()Z -/
def fb_m_isStreet (a0 : Nat) (w : tb_Hp) : Option (Int32 × tb_Hp) := (tb_gN 22 20 a0 w).bind fun p1 => (tb_lI [1, 9] p1 0 w).bind fun x2 => (if x2 = 1 then some (1, w) else some (0, w))
set_option maxHeartbeats 4000000 in
set_option maxRecDepth 20000 in
theorem dc_m_isStreet {a0 : Nat} {w : tb_Hp} {o : Int32 × tb_Hp} (h : fb_m_isStreet a0 w = some o) : tb_Ev tb_P 0 224 (0, tb_ent [.ref a0], [], w) (some (.int o.1), o.2) := by
  unfold fb_m_isStreet at h
  obtain ⟨r, hr⟩ : ∃ r : Option Value × tb_Hp, r = (some (.int o.1), o.2) := ⟨_, rfl⟩
  rw [← hr]
  show tb_Ev tb_P 0 224 (0, [(0, .ref a0)], [], w) r
  refine tb_Es (k := 1) (st' := (1, [(0, .ref a0)], [.ref a0], w)) rfl ?_
  replace h := Option.bind_eq_some_iff.mp h
  obtain ⟨p1, ep1, h⟩ := h
  refine tb_e_gN rfl ep1 ?_
  refine tb_Es (k := 1) (st' := (3, [(0, .ref a0)], [.int 0, .ref p1], w)) rfl ?_
  replace h := Option.bind_eq_some_iff.mp h
  obtain ⟨x2, ex2, h⟩ := h
  refine tb_e_lI rfl (Or.inl ⟨rfl, rfl⟩) ex2 ?_
  refine tb_Es (k := 1) (st' := (5, [(0, .ref a0)], [.int 1, .int x2], w)) rfl ?_
  refine tb_b_cne rfl (fun hc => ?_) (fun hc => ?_)
  · rw [if_pos hc] at h
    refine tb_Es (k := 2) (st' := (9, [(0, .ref a0)], [.int 1], w)) rfl ?_
    obtain rfl := Option.some.inj h
    subst hr
    exact tb_Er rfl rfl
  · rw [if_neg hc] at h
    refine tb_Es (k := 1) (st' := (9, [(0, .ref a0)], [.int 0], w)) rfl ?_
    obtain rfl := Option.some.inj h
    subst hr
    exact tb_Er rfl rfl
/-! TannerBuntingModel.keepsAct()V -/
def fl_m_keepsAct_6 : Nat → Nat → Int32 → tb_Hp → Option (Nat × tb_Hp)
  | 0, _, _, _ => none
  | n + 1, v0, v1, w => (if v1 < 1280 then (tb_gN 22 23 v0 w).bind fun p2 => (tb_gN 22 23 v0 w).bind fun p3 => (tb_lI [1, 9] p3 v1 w).bind fun x4 => (tb_tI p2 (v1 - 64) x4 w).bind fun w5 => fl_m_keepsAct_6 n v0 (v1 + 1) w5 else some ((v0, w)))
set_option maxHeartbeats 4000000 in
set_option maxRecDepth 20000 in
theorem dl_m_keepsAct_6 : ∀ (n : Nat) (v0 : Nat) (v1 : Int32) (w : tb_Hp) (o : Nat × tb_Hp), fl_m_keepsAct_6 n v0 v1 w = some o → ∀ (r : Option Value × tb_Hp), tb_Ev tb_P 0 225 (23, [(0, .ref o.1)], [], o.2) r → tb_Ev tb_P 0 225 (7, [(0, .ref v0), (1, .int v1)], [], w) r := by
  intro n
  induction n with
  | zero =>
    intro v0 v1 w o h
    cases h
  | succ n ih =>
    intro v0 v1 w o h r hx
    unfold fl_m_keepsAct_6 at h
    refine tb_Es (k := 2) (st' := (9, [(0, .ref v0), (1, .int v1)], [.int 1280, .int v1], w)) rfl ?_
    refine tb_b_cge rfl (fun hc => ?_) (fun hc => ?_)
    · rw [if_pos hc] at h
      refine tb_Es (k := 1) (st' := (11, [(0, .ref v0), (1, .int v1)], [.ref v0], w)) rfl ?_
      replace h := Option.bind_eq_some_iff.mp h
      obtain ⟨p2, ep2, h⟩ := h
      refine tb_e_gN rfl ep2 ?_
      refine tb_Es (k := 4) (st' := (16, [(0, .ref v0), (1, .int v1)], [.ref v0, .int (v1 - 64), .ref p2], w)) rfl ?_
      replace h := Option.bind_eq_some_iff.mp h
      obtain ⟨p3, ep3, h⟩ := h
      refine tb_e_gN rfl ep3 ?_
      refine tb_Es (k := 1) (st' := (18, [(0, .ref v0), (1, .int v1)], [.int v1, .ref p3, .int (v1 - 64), .ref p2], w)) rfl ?_
      replace h := Option.bind_eq_some_iff.mp h
      obtain ⟨x4, ex4, h⟩ := h
      refine tb_e_lI rfl (Or.inl ⟨rfl, rfl⟩) ex4 ?_
      replace h := Option.bind_eq_some_iff.mp h
      obtain ⟨w5, ew5, h⟩ := h
      refine tb_e_tI rfl ew5 ?_
      refine tb_Es (k := 3) (st' := (7, [(0, .ref v0), (1, .int (v1 + 1))], [], w5)) rfl ?_
      exact ih v0 (v1 + 1) w5 _ h r hx
    · rw [if_neg hc] at h
      refine tb_Es (k := 1) (st' := (23, [(0, .ref v0)], [], w)) rfl ?_
      obtain rfl := Option.some.inj h
      exact hx
def fl_m_keepsAct_29 : Nat → Nat → Int32 → tb_Hp → Option (Nat × tb_Hp)
  | 0, _, _, _ => none
  | n + 1, v0, v1, w => (if v1 < 64 then (tb_gN 22 23 v0 w).bind fun p9 => (tb_gI 22 24 v0 w).bind fun x10 => (tb_gN 22 20 v0 w).bind fun p11 => (tb_lI [1, 9] p11 (10 + v1) w).bind fun x12 => (tb_tI p9 ((64 * x10) + v1) x12 w).bind fun w13 => fl_m_keepsAct_29 n v0 (v1 + 1) w13 else some ((v0, w)))
set_option maxHeartbeats 4000000 in
set_option maxRecDepth 20000 in
theorem dl_m_keepsAct_29 : ∀ (n : Nat) (v0 : Nat) (v1 : Int32) (w : tb_Hp) (o : Nat × tb_Hp), fl_m_keepsAct_29 n v0 v1 w = some o → ∀ (r : Option Value × tb_Hp), tb_Ev tb_P 0 225 (53, [(0, .ref o.1)], [], o.2) r → tb_Ev tb_P 0 225 (32, [(0, .ref v0), (1, .int v1)], [], w) r := by
  intro n
  induction n with
  | zero =>
    intro v0 v1 w o h
    cases h
  | succ n ih =>
    intro v0 v1 w o h r hx
    unfold fl_m_keepsAct_29 at h
    refine tb_Es (k := 2) (st' := (34, [(0, .ref v0), (1, .int v1)], [.int 64, .int v1], w)) rfl ?_
    refine tb_b_cge rfl (fun hc => ?_) (fun hc => ?_)
    · rw [if_pos hc] at h
      refine tb_Es (k := 1) (st' := (36, [(0, .ref v0), (1, .int v1)], [.ref v0], w)) rfl ?_
      replace h := Option.bind_eq_some_iff.mp h
      obtain ⟨p9, ep9, h⟩ := h
      refine tb_e_gN rfl ep9 ?_
      refine tb_Es (k := 2) (st' := (39, [(0, .ref v0), (1, .int v1)], [.ref v0, .int 64, .ref p9], w)) rfl ?_
      replace h := Option.bind_eq_some_iff.mp h
      obtain ⟨x10, ex10, h⟩ := h
      refine tb_e_gI rfl ex10 ?_
      refine tb_Es (k := 4) (st' := (44, [(0, .ref v0), (1, .int v1)], [.ref v0, .int ((64 * x10) + v1), .ref p9], w)) rfl ?_
      replace h := Option.bind_eq_some_iff.mp h
      obtain ⟨p11, ep11, h⟩ := h
      refine tb_e_gN rfl ep11 ?_
      refine tb_Es (k := 3) (st' := (48, [(0, .ref v0), (1, .int v1)], [.int (10 + v1), .ref p11, .int ((64 * x10) + v1), .ref p9], w)) rfl ?_
      replace h := Option.bind_eq_some_iff.mp h
      obtain ⟨x12, ex12, h⟩ := h
      refine tb_e_lI rfl (Or.inl ⟨rfl, rfl⟩) ex12 ?_
      replace h := Option.bind_eq_some_iff.mp h
      obtain ⟨w13, ew13, h⟩ := h
      refine tb_e_tI rfl ew13 ?_
      refine tb_Es (k := 3) (st' := (32, [(0, .ref v0), (1, .int (v1 + 1))], [], w13)) rfl ?_
      exact ih v0 (v1 + 1) w13 _ h r hx
    · rw [if_neg hc] at h
      refine tb_Es (k := 1) (st' := (53, [(0, .ref v0)], [], w)) rfl ?_
      obtain rfl := Option.some.inj h
      exact hx
def fb_m_keepsAct (a0 : Nat) (w : tb_Hp) : Option (tb_Hp) := (tb_gI 22 24 a0 w).bind fun x1 => (if x1 = 20 then (fl_m_keepsAct_6 1048576 a0 64 w).bind fun o6 => (tb_gI 22 24 o6.1 o6.2).bind fun x7 => (tb_pI 22 24 o6.1 (x7 - 1) o6.2).bind fun w8 => (fl_m_keepsAct_29 1048576 o6.1 0 w8).bind fun o14 => (tb_gI 22 24 o14.1 o14.2).bind fun x15 => (tb_pI 22 24 o14.1 (x15 + 1) o14.2).bind fun w16 => some w16 else (fl_m_keepsAct_29 1048576 a0 0 w).bind fun o17 => (tb_gI 22 24 o17.1 o17.2).bind fun x18 => (tb_pI 22 24 o17.1 (x18 + 1) o17.2).bind fun w19 => some w19)
set_option maxHeartbeats 4000000 in
set_option maxRecDepth 20000 in
theorem dc_m_keepsAct {a0 : Nat} {w : tb_Hp} {o : tb_Hp} (h : fb_m_keepsAct a0 w = some o) : tb_Ev tb_P 0 225 (0, tb_ent [.ref a0], [], w) (none, o) := by
  unfold fb_m_keepsAct at h
  obtain ⟨r, hr⟩ : ∃ r : Option Value × tb_Hp, r = (none, o) := ⟨_, rfl⟩
  rw [← hr]
  show tb_Ev tb_P 0 225 (0, [(0, .ref a0)], [], w) r
  refine tb_Es (k := 1) (st' := (1, [(0, .ref a0)], [.ref a0], w)) rfl ?_
  replace h := Option.bind_eq_some_iff.mp h
  obtain ⟨x1, ex1, h⟩ := h
  refine tb_e_gI rfl ex1 ?_
  refine tb_Es (k := 1) (st' := (3, [(0, .ref a0)], [.int 20, .int x1], w)) rfl ?_
  refine tb_b_cne rfl (fun hc => ?_) (fun hc => ?_)
  · rw [if_pos hc] at h
    refine tb_Es (k := 3) (st' := (7, [(0, .ref a0), (1, .int 64)], [], w)) rfl ?_
    replace h := Option.bind_eq_some_iff.mp h
    obtain ⟨o6, eo6, h⟩ := h
    refine dl_m_keepsAct_6 _ a0 64 w _ eo6 r ?_
    refine tb_Es (k := 2) (st' := (25, [(0, .ref o6.1)], [.ref o6.1, .ref o6.1], o6.2)) rfl ?_
    replace h := Option.bind_eq_some_iff.mp h
    obtain ⟨x7, ex7, h⟩ := h
    refine tb_e_gI rfl ex7 ?_
    refine tb_Es (k := 2) (st' := (28, [(0, .ref o6.1)], [.int (x7 - 1), .ref o6.1], o6.2)) rfl ?_
    replace h := Option.bind_eq_some_iff.mp h
    obtain ⟨w8, ew8, h⟩ := h
    refine tb_e_pI rfl ew8 ?_
    refine tb_Es (k := 3) (st' := (32, [(0, .ref o6.1), (1, .int 0)], [], w8)) rfl ?_
    replace h := Option.bind_eq_some_iff.mp h
    obtain ⟨o14, eo14, h⟩ := h
    refine dl_m_keepsAct_29 _ o6.1 0 w8 _ eo14 r ?_
    refine tb_Es (k := 2) (st' := (55, [(0, .ref o14.1)], [.ref o14.1, .ref o14.1], o14.2)) rfl ?_
    replace h := Option.bind_eq_some_iff.mp h
    obtain ⟨x15, ex15, h⟩ := h
    refine tb_e_gI rfl ex15 ?_
    refine tb_Es (k := 2) (st' := (58, [(0, .ref o14.1)], [.int (x15 + 1), .ref o14.1], o14.2)) rfl ?_
    replace h := Option.bind_eq_some_iff.mp h
    obtain ⟨w16, ew16, h⟩ := h
    refine tb_e_pI rfl ew16 ?_
    obtain rfl := Option.some.inj h
    subst hr
    exact tb_Er rfl rfl
  · rw [if_neg hc] at h
    refine tb_Es (k := 3) (st' := (32, [(0, .ref a0), (1, .int 0)], [], w)) rfl ?_
    replace h := Option.bind_eq_some_iff.mp h
    obtain ⟨o17, eo17, h⟩ := h
    refine dl_m_keepsAct_29 _ a0 0 w _ eo17 r ?_
    refine tb_Es (k := 2) (st' := (55, [(0, .ref o17.1)], [.ref o17.1, .ref o17.1], o17.2)) rfl ?_
    replace h := Option.bind_eq_some_iff.mp h
    obtain ⟨x18, ex18, h⟩ := h
    refine tb_e_gI rfl ex18 ?_
    refine tb_Es (k := 2) (st' := (58, [(0, .ref o17.1)], [.int (x18 + 1), .ref o17.1], o17.2)) rfl ?_
    replace h := Option.bind_eq_some_iff.mp h
    obtain ⟨w19, ew19, h⟩ := h
    refine tb_e_pI rfl ew19 ?_
    obtain rfl := Option.some.inj h
    subst hr
    exact tb_Er rfl rfl
/-! TannerBuntingModel.pullOf(I)I -/
def fb_m_pullOf (a0 : Nat) (a1 : Int32) (w : tb_Hp) : Option (Int32 × tb_Hp) := (tb_gN 22 20 a0 w).bind fun p1 => (tb_lI [1, 9] p1 ((42 + (4 * a1)) + 2) w).bind fun x2 => some (x2, w)
set_option maxHeartbeats 4000000 in
set_option maxRecDepth 20000 in
theorem dc_m_pullOf {a0 : Nat} {a1 : Int32} {w : tb_Hp} {o : Int32 × tb_Hp} (h : fb_m_pullOf a0 a1 w = some o) : tb_Ev tb_P 0 229 (0, tb_ent [.ref a0, .int a1], [], w) (some (.int o.1), o.2) := by
  unfold fb_m_pullOf at h
  obtain ⟨r, hr⟩ : ∃ r : Option Value × tb_Hp, r = (some (.int o.1), o.2) := ⟨_, rfl⟩
  rw [← hr]
  show tb_Ev tb_P 0 229 (0, [(0, .ref a0), (1, .int a1)], [], w) r
  refine tb_Es (k := 1) (st' := (1, [(0, .ref a0), (1, .int a1)], [.ref a0], w)) rfl ?_
  replace h := Option.bind_eq_some_iff.mp h
  obtain ⟨p1, ep1, h⟩ := h
  refine tb_e_gN rfl ep1 ?_
  refine tb_Es (k := 7) (st' := (9, [(0, .ref a0), (1, .int a1)], [.int ((42 + (4 * a1)) + 2), .ref p1], w)) rfl ?_
  replace h := Option.bind_eq_some_iff.mp h
  obtain ⟨x2, ex2, h⟩ := h
  refine tb_e_lI rfl (Or.inl ⟨rfl, rfl⟩) ex2 ?_
  obtain rfl := Option.some.inj h
  subst hr
  exact tb_Er rfl rfl
/-! TannerBuntingModel.bits(I)I -/
def fl_m_bits_4 : Nat → Int32 → Int32 → tb_Hp → Option (Int32 × tb_Hp)
  | 0, _, _, _ => none
  | n + 1, v1, v2, w => (if v2 = 0 then some ((v1, w)) else fl_m_bits_4 n (v1 + 1) (v2 &&& (v2 - 1)) w)
set_option maxHeartbeats 4000000 in
set_option maxRecDepth 20000 in
theorem dl_m_bits_4 : ∀ (n : Nat) (v1 : Int32) (v2 : Int32) (w : tb_Hp) (o : Int32 × tb_Hp), fl_m_bits_4 n v1 v2 w = some o → ∀ (r : Option Value × tb_Hp), tb_Ev tb_P 0 231 (16, [(1, .int o.1)], [], o.2) r → tb_Ev tb_P 0 231 (5, [(1, .int v1), (2, .int v2)], [], w) r := by
  intro n
  induction n with
  | zero =>
    intro v1 v2 w o h
    cases h
  | succ n ih =>
    intro v1 v2 w o h r hx
    unfold fl_m_bits_4 at h
    refine tb_Es (k := 1) (st' := (6, [(1, .int v1), (2, .int v2)], [.int v2], w)) rfl ?_
    refine tb_b_ieq rfl (fun hc => ?_) (fun hc => ?_)
    · rw [if_pos hc] at h
      refine tb_Es (k := 1) (st' := (16, [(1, .int v1)], [], w)) rfl ?_
      obtain rfl := Option.some.inj h
      exact hx
    · rw [if_neg hc] at h
      refine tb_Es (k := 9) (st' := (5, [(1, .int (v1 + 1)), (2, .int (v2 &&& (v2 - 1)))], [], w)) rfl ?_
      exact ih (v1 + 1) (v2 &&& (v2 - 1)) w _ h r hx
def fb_m_bits (a0 : Int32) (w : tb_Hp) : Option (Int32 × tb_Hp) := (fl_m_bits_4 1048576 0 a0 w).bind fun o1 => some (o1.1, o1.2)
set_option maxHeartbeats 4000000 in
set_option maxRecDepth 20000 in
theorem dc_m_bits {a0 : Int32} {w : tb_Hp} {o : Int32 × tb_Hp} (h : fb_m_bits a0 w = some o) : tb_Ev tb_P 0 231 (0, tb_ent [.int a0], [], w) (some (.int o.1), o.2) := by
  unfold fb_m_bits at h
  obtain ⟨r, hr⟩ : ∃ r : Option Value × tb_Hp, r = (some (.int o.1), o.2) := ⟨_, rfl⟩
  rw [← hr]
  show tb_Ev tb_P 0 231 (0, [(0, .int a0)], [], w) r
  refine tb_Es (k := 5) (st' := (5, [(1, .int 0), (2, .int a0)], [], w)) rfl ?_
  replace h := Option.bind_eq_some_iff.mp h
  obtain ⟨o1, eo1, h⟩ := h
  refine dl_m_bits_4 _ 0 a0 w _ eo1 r ?_
  refine tb_Es (k := 1) (st' := (17, [(1, .int o1.1)], [.int o1.1], o1.2)) rfl ?_
  obtain rfl := Option.some.inj h
  subst hr
  exact tb_Er rfl rfl
/-! TannerBuntingModel.push(J)V -/
def fb_m_push (a0 : Nat) (a1 : Int64) (w : tb_Hp) : Option (tb_Hp) := (tb_gN 22 17 a0 w).bind fun p1 => (tb_gI 22 18 a0 w).bind fun x2 => (tb_tJ p1 x2 a1 w).bind fun w3 => (tb_gI 22 18 a0 w3).bind fun x4 => (tb_pI 22 18 a0 (x4 + 1) w3).bind fun w5 => some w5
set_option maxHeartbeats 4000000 in
set_option maxRecDepth 20000 in
theorem dc_m_push {a0 : Nat} {a1 : Int64} {w : tb_Hp} {o : tb_Hp} (h : fb_m_push a0 a1 w = some o) : tb_Ev tb_P 0 236 (0, tb_ent [.ref a0, .long a1], [], w) (none, o) := by
  unfold fb_m_push at h
  obtain ⟨r, hr⟩ : ∃ r : Option Value × tb_Hp, r = (none, o) := ⟨_, rfl⟩
  rw [← hr]
  show tb_Ev tb_P 0 236 (0, [(0, .ref a0), (1, .long a1)], [], w) r
  refine tb_Es (k := 1) (st' := (1, [(0, .ref a0), (1, .long a1)], [.ref a0], w)) rfl ?_
  replace h := Option.bind_eq_some_iff.mp h
  obtain ⟨p1, ep1, h⟩ := h
  refine tb_e_gN rfl ep1 ?_
  refine tb_Es (k := 1) (st' := (3, [(0, .ref a0), (1, .long a1)], [.ref a0, .ref p1], w)) rfl ?_
  replace h := Option.bind_eq_some_iff.mp h
  obtain ⟨x2, ex2, h⟩ := h
  refine tb_e_gI rfl ex2 ?_
  refine tb_Es (k := 1) (st' := (5, [(0, .ref a0), (1, .long a1)], [.long a1, .int x2, .ref p1], w)) rfl ?_
  replace h := Option.bind_eq_some_iff.mp h
  obtain ⟨w3, ew3, h⟩ := h
  refine tb_e_tJ rfl ew3 ?_
  refine tb_Es (k := 2) (st' := (8, [(0, .ref a0), (1, .long a1)], [.ref a0, .ref a0], w3)) rfl ?_
  replace h := Option.bind_eq_some_iff.mp h
  obtain ⟨x4, ex4, h⟩ := h
  refine tb_e_gI rfl ex4 ?_
  refine tb_Es (k := 2) (st' := (11, [(0, .ref a0), (1, .long a1)], [.int (x4 + 1), .ref a0], w3)) rfl ?_
  replace h := Option.bind_eq_some_iff.mp h
  obtain ⟨w5, ew5, h⟩ := h
  refine tb_e_pI rfl ew5 ?_
  obtain rfl := Option.some.inj h
  subst hr
  exact tb_Er rfl rfl
/-! TannerBuntingModel.pop()J -/
def fb_m_pop (a0 : Nat) (w : tb_Hp) : Option (Int64 × tb_Hp) := (tb_gI 22 18 a0 w).bind fun x1 => (tb_pI 22 18 a0 (x1 - 1) w).bind fun w2 => (tb_gN 22 17 a0 w2).bind fun p3 => (tb_gI 22 18 a0 w2).bind fun x4 => (tb_lJ p3 x4 w2).bind fun x5 => some (x5, w2)
set_option maxHeartbeats 4000000 in
set_option maxRecDepth 20000 in
theorem dc_m_pop {a0 : Nat} {w : tb_Hp} {o : Int64 × tb_Hp} (h : fb_m_pop a0 w = some o) : tb_Ev tb_P 0 237 (0, tb_ent [.ref a0], [], w) (some (.long o.1), o.2) := by
  unfold fb_m_pop at h
  obtain ⟨r, hr⟩ : ∃ r : Option Value × tb_Hp, r = (some (.long o.1), o.2) := ⟨_, rfl⟩
  rw [← hr]
  show tb_Ev tb_P 0 237 (0, [(0, .ref a0)], [], w) r
  refine tb_Es (k := 2) (st' := (2, [(0, .ref a0)], [.ref a0, .ref a0], w)) rfl ?_
  replace h := Option.bind_eq_some_iff.mp h
  obtain ⟨x1, ex1, h⟩ := h
  refine tb_e_gI rfl ex1 ?_
  refine tb_Es (k := 2) (st' := (5, [(0, .ref a0)], [.int (x1 - 1), .ref a0], w)) rfl ?_
  replace h := Option.bind_eq_some_iff.mp h
  obtain ⟨w2, ew2, h⟩ := h
  refine tb_e_pI rfl ew2 ?_
  refine tb_Es (k := 1) (st' := (7, [(0, .ref a0)], [.ref a0], w2)) rfl ?_
  replace h := Option.bind_eq_some_iff.mp h
  obtain ⟨p3, ep3, h⟩ := h
  refine tb_e_gN rfl ep3 ?_
  refine tb_Es (k := 1) (st' := (9, [(0, .ref a0)], [.ref a0, .ref p3], w2)) rfl ?_
  replace h := Option.bind_eq_some_iff.mp h
  obtain ⟨x4, ex4, h⟩ := h
  refine tb_e_gI rfl ex4 ?_
  replace h := Option.bind_eq_some_iff.mp h
  obtain ⟨x5, ex5, h⟩ := h
  refine tb_e_lJ rfl ex5 ?_
  obtain rfl := Option.some.inj h
  subst hr
  exact tb_Er rfl rfl
/-! TannerBuntingModel.one(IJJ)J -/
def fb_m_one (a0 : Int32) (a1 : Int64) (a2 : Int64) (w : tb_Hp) : Option (Int64 × tb_Hp) := (if a0 = 2 then some (a1 + a2, w) else (if a0 = 3 then some (a1 - a2, w) else (if a0 = 4 then some (a1 * a2, w) else (if a0 = 5 then (if (lg_cmp a2 0) = 0 then some (0, w) else if a2 = 0 then none else some (a1 / a2, w)) else (if a0 = 6 then (if (lg_cmp a1 a2) < 0 then some (1, w) else some (0, w)) else (if a0 = 7 then (if (lg_cmp a1 a2) ≤ 0 then some (1, w) else some (0, w)) else (if a0 = 8 then (if (lg_cmp a1 a2) = 0 then some (1, w) else some (0, w)) else (if a0 = 9 then (if (lg_cmp a1 a2) < 0 then some (0, w) else some (1, w)) else (if a0 = 10 then (if 0 < (lg_cmp a1 a2) then some (1, w) else some (0, w)) else (if a0 = 11 then some (a1 ||| a2, w) else (if a0 = 12 then some (a1 &&& a2, w) else (if a0 = 13 then some (a1 ||| a2, w) else (if a0 = 14 then (if (lg_cmp a2 0) = 0 then some (0, w) else if a2 = 0 then none else some (a1 - a1 / a2 * a2, w)) else some (a1 ||| a2, w))))))))))))))
set_option maxHeartbeats 4000000 in
set_option maxRecDepth 20000 in
theorem dc_m_one {a0 : Int32} {a1 : Int64} {a2 : Int64} {w : tb_Hp} {o : Int64 × tb_Hp} (h : fb_m_one a0 a1 a2 w = some o) : tb_Ev tb_P 0 238 (0, tb_ent [.int a0, .long a1, .long a2], [], w) (some (.long o.1), o.2) := by
  unfold fb_m_one at h
  obtain ⟨r, hr⟩ : ∃ r : Option Value × tb_Hp, r = (some (.long o.1), o.2) := ⟨_, rfl⟩
  rw [← hr]
  show tb_Ev tb_P 0 238 (0, [(0, .int a0), (1, .long a1), (3, .long a2)], [], w) r
  refine tb_Es (k := 1) (st' := (1, [(0, .int a0), (1, .long a1), (3, .long a2)], [.int a0], w)) rfl ?_
  refine tb_w_tab rfl (by decide) ?_
  refine tb_w_one (k := 2) (by decide) (fun hc => ?_) (fun hc => ?_)
  · rw [if_pos hc] at h
    refine tb_Es (k := 3) (st' := (5, [(0, .int a0), (1, .long a1), (3, .long a2)], [.long (a1 + a2)], w)) rfl ?_
    obtain rfl := Option.some.inj h
    subst hr
    exact tb_Er rfl rfl
  rw [if_neg hc] at h
  refine tb_w_one (k := 3) (by decide) (fun hc => ?_) (fun hc => ?_)
  · rw [if_pos hc] at h
    refine tb_Es (k := 3) (st' := (9, [(0, .int a0), (1, .long a1), (3, .long a2)], [.long (a1 - a2)], w)) rfl ?_
    obtain rfl := Option.some.inj h
    subst hr
    exact tb_Er rfl rfl
  rw [if_neg hc] at h
  refine tb_w_one (k := 4) (by decide) (fun hc => ?_) (fun hc => ?_)
  · rw [if_pos hc] at h
    refine tb_Es (k := 3) (st' := (13, [(0, .int a0), (1, .long a1), (3, .long a2)], [.long (a1 * a2)], w)) rfl ?_
    obtain rfl := Option.some.inj h
    subst hr
    exact tb_Er rfl rfl
  rw [if_neg hc] at h
  refine tb_w_one (k := 5) (by decide) (fun hc => ?_) (fun hc => ?_)
  · rw [if_pos hc] at h
    refine tb_Es (k := 3) (st' := (17, [(0, .int a0), (1, .long a1), (3, .long a2)], [.int (lg_cmp a2 0)], w)) rfl ?_
    refine tb_b_ine rfl (fun hc => ?_) (fun hc => ?_)
    · rw [if_pos hc] at h
      refine tb_Es (k := 2) (st' := (23, [(0, .int a0), (1, .long a1), (3, .long a2)], [.long 0], w)) rfl ?_
      obtain rfl := Option.some.inj h
      subst hr
      exact tb_Er rfl rfl
    · rw [if_neg hc] at h
      refine tb_Es (k := 2) (st' := (22, [(0, .int a0), (1, .long a1), (3, .long a2)], [.long a2, .long a1], w)) rfl ?_
      by_cases hz : a2 = 0
      · rw [if_pos hz] at h
        cases h
      rw [if_neg hz] at h
      refine tb_e_ldiv rfl hz ?_
      obtain rfl := Option.some.inj h
      subst hr
      exact tb_Er rfl rfl
  rw [if_neg hc] at h
  refine tb_w_one (k := 6) (by decide) (fun hc => ?_) (fun hc => ?_)
  · rw [if_pos hc] at h
    refine tb_Es (k := 3) (st' := (37, [(0, .int a0), (1, .long a1), (3, .long a2)], [.int (lg_cmp a1 a2)], w)) rfl ?_
    refine tb_b_ige rfl (fun hc => ?_) (fun hc => ?_)
    · rw [if_pos hc] at h
      refine tb_Es (k := 2) (st' := (41, [(0, .int a0), (1, .long a1), (3, .long a2)], [.long 1], w)) rfl ?_
      obtain rfl := Option.some.inj h
      subst hr
      exact tb_Er rfl rfl
    · rw [if_neg hc] at h
      refine tb_Es (k := 1) (st' := (41, [(0, .int a0), (1, .long a1), (3, .long a2)], [.long 0], w)) rfl ?_
      obtain rfl := Option.some.inj h
      subst hr
      exact tb_Er rfl rfl
  rw [if_neg hc] at h
  refine tb_w_one (k := 7) (by decide) (fun hc => ?_) (fun hc => ?_)
  · rw [if_pos hc] at h
    refine tb_Es (k := 3) (st' := (45, [(0, .int a0), (1, .long a1), (3, .long a2)], [.int (lg_cmp a1 a2)], w)) rfl ?_
    refine tb_b_igt rfl (fun hc => ?_) (fun hc => ?_)
    · rw [if_pos hc] at h
      refine tb_Es (k := 2) (st' := (49, [(0, .int a0), (1, .long a1), (3, .long a2)], [.long 1], w)) rfl ?_
      obtain rfl := Option.some.inj h
      subst hr
      exact tb_Er rfl rfl
    · rw [if_neg hc] at h
      refine tb_Es (k := 1) (st' := (49, [(0, .int a0), (1, .long a1), (3, .long a2)], [.long 0], w)) rfl ?_
      obtain rfl := Option.some.inj h
      subst hr
      exact tb_Er rfl rfl
  rw [if_neg hc] at h
  refine tb_w_one (k := 8) (by decide) (fun hc => ?_) (fun hc => ?_)
  · rw [if_pos hc] at h
    refine tb_Es (k := 3) (st' := (53, [(0, .int a0), (1, .long a1), (3, .long a2)], [.int (lg_cmp a1 a2)], w)) rfl ?_
    refine tb_b_ine rfl (fun hc => ?_) (fun hc => ?_)
    · rw [if_pos hc] at h
      refine tb_Es (k := 2) (st' := (57, [(0, .int a0), (1, .long a1), (3, .long a2)], [.long 1], w)) rfl ?_
      obtain rfl := Option.some.inj h
      subst hr
      exact tb_Er rfl rfl
    · rw [if_neg hc] at h
      refine tb_Es (k := 1) (st' := (57, [(0, .int a0), (1, .long a1), (3, .long a2)], [.long 0], w)) rfl ?_
      obtain rfl := Option.some.inj h
      subst hr
      exact tb_Er rfl rfl
  rw [if_neg hc] at h
  refine tb_w_one (k := 9) (by decide) (fun hc => ?_) (fun hc => ?_)
  · rw [if_pos hc] at h
    refine tb_Es (k := 3) (st' := (61, [(0, .int a0), (1, .long a1), (3, .long a2)], [.int (lg_cmp a1 a2)], w)) rfl ?_
    refine tb_b_ilt rfl (fun hc => ?_) (fun hc => ?_)
    · rw [if_pos hc] at h
      refine tb_Es (k := 1) (st' := (65, [(0, .int a0), (1, .long a1), (3, .long a2)], [.long 0], w)) rfl ?_
      obtain rfl := Option.some.inj h
      subst hr
      exact tb_Er rfl rfl
    · rw [if_neg hc] at h
      refine tb_Es (k := 2) (st' := (65, [(0, .int a0), (1, .long a1), (3, .long a2)], [.long 1], w)) rfl ?_
      obtain rfl := Option.some.inj h
      subst hr
      exact tb_Er rfl rfl
  rw [if_neg hc] at h
  refine tb_w_one (k := 10) (by decide) (fun hc => ?_) (fun hc => ?_)
  · rw [if_pos hc] at h
    refine tb_Es (k := 3) (st' := (69, [(0, .int a0), (1, .long a1), (3, .long a2)], [.int (lg_cmp a1 a2)], w)) rfl ?_
    refine tb_b_ile rfl (fun hc => ?_) (fun hc => ?_)
    · rw [if_pos hc] at h
      refine tb_Es (k := 2) (st' := (73, [(0, .int a0), (1, .long a1), (3, .long a2)], [.long 1], w)) rfl ?_
      obtain rfl := Option.some.inj h
      subst hr
      exact tb_Er rfl rfl
    · rw [if_neg hc] at h
      refine tb_Es (k := 1) (st' := (73, [(0, .int a0), (1, .long a1), (3, .long a2)], [.long 0], w)) rfl ?_
      obtain rfl := Option.some.inj h
      subst hr
      exact tb_Er rfl rfl
  rw [if_neg hc] at h
  refine tb_w_one (k := 11) (by decide) (fun hc => ?_) (fun hc => ?_)
  · rw [if_pos hc] at h
    refine tb_Es (k := 3) (st' := (81, [(0, .int a0), (1, .long a1), (3, .long a2)], [.long (a1 ||| a2)], w)) rfl ?_
    obtain rfl := Option.some.inj h
    subst hr
    exact tb_Er rfl rfl
  rw [if_neg hc] at h
  refine tb_w_one (k := 12) (by decide) (fun hc => ?_) (fun hc => ?_)
  · rw [if_pos hc] at h
    refine tb_Es (k := 3) (st' := (77, [(0, .int a0), (1, .long a1), (3, .long a2)], [.long (a1 &&& a2)], w)) rfl ?_
    obtain rfl := Option.some.inj h
    subst hr
    exact tb_Er rfl rfl
  rw [if_neg hc] at h
  refine tb_w_one (k := 13) (by decide) (fun hc => ?_) (fun hc => ?_)
  · rw [if_pos hc] at h
    refine tb_Es (k := 3) (st' := (81, [(0, .int a0), (1, .long a1), (3, .long a2)], [.long (a1 ||| a2)], w)) rfl ?_
    obtain rfl := Option.some.inj h
    subst hr
    exact tb_Er rfl rfl
  rw [if_neg hc] at h
  refine tb_w_one (k := 14) (by decide) (fun hc => ?_) (fun hc => ?_)
  · rw [if_pos hc] at h
    refine tb_Es (k := 3) (st' := (27, [(0, .int a0), (1, .long a1), (3, .long a2)], [.int (lg_cmp a2 0)], w)) rfl ?_
    refine tb_b_ine rfl (fun hc => ?_) (fun hc => ?_)
    · rw [if_pos hc] at h
      refine tb_Es (k := 2) (st' := (33, [(0, .int a0), (1, .long a1), (3, .long a2)], [.long 0], w)) rfl ?_
      obtain rfl := Option.some.inj h
      subst hr
      exact tb_Er rfl rfl
    · rw [if_neg hc] at h
      refine tb_Es (k := 2) (st' := (32, [(0, .int a0), (1, .long a1), (3, .long a2)], [.long a2, .long a1], w)) rfl ?_
      by_cases hz : a2 = 0
      · rw [if_pos hz] at h
        cases h
      rw [if_neg hz] at h
      refine tb_e_lrem rfl hz ?_
      obtain rfl := Option.some.inj h
      subst hr
      exact tb_Er rfl rfl
  rw [if_neg hc] at h
  refine tb_w_end ?_
  refine tb_Es (k := 3) (st' := (81, [(0, .int a0), (1, .long a1), (3, .long a2)], [.long (a1 ||| a2)], w)) rfl ?_
  obtain rfl := Option.some.inj h
  subst hr
  exact tb_Er rfl rfl
/-! TannerBuntingModel.isOf(II)Z -/
def fb_m_isOf (a0 : Int32) (a1 : Int32) (w : tb_Hp) : Option (Int32 × tb_Hp) := (if ((a0 >>> (a1 &&& 31)) &&& 1) = 1 then some (1, w) else some (0, w))
set_option maxHeartbeats 4000000 in
set_option maxRecDepth 20000 in
theorem dc_m_isOf {a0 : Int32} {a1 : Int32} {w : tb_Hp} {o : Int32 × tb_Hp} (h : fb_m_isOf a0 a1 w = some o) : tb_Ev tb_P 0 240 (0, tb_ent [.int a0, .int a1], [], w) (some (.int o.1), o.2) := by
  unfold fb_m_isOf at h
  obtain ⟨r, hr⟩ : ∃ r : Option Value × tb_Hp, r = (some (.int o.1), o.2) := ⟨_, rfl⟩
  rw [← hr]
  show tb_Ev tb_P 0 240 (0, [(0, .int a0), (1, .int a1)], [], w) r
  refine tb_Es (k := 6) (st' := (6, [(0, .int a0), (1, .int a1)], [.int 1, .int ((a0 >>> (a1 &&& 31)) &&& 1)], w)) rfl ?_
  refine tb_b_cne rfl (fun hc => ?_) (fun hc => ?_)
  · rw [if_pos hc] at h
    refine tb_Es (k := 2) (st' := (10, [(0, .int a0), (1, .int a1)], [.int 1], w)) rfl ?_
    obtain rfl := Option.some.inj h
    subst hr
    exact tb_Er rfl rfl
  · rw [if_neg hc] at h
    refine tb_Es (k := 1) (st' := (10, [(0, .int a0), (1, .int a1)], [.int 0], w)) rfl ?_
    obtain rfl := Option.some.inj h
    subst hr
    exact tb_Er rfl rfl
/-! TannerBuntingModel.downs(I)V -/
def fb_m_downs (a0 : Nat) (a1 : Int32) (w : tb_Hp) : Option (tb_Hp) := (tb_gN 22 20 a0 w).bind fun p1 => (tb_tI p1 ((42 + (4 * a1)) + 2) 0 w).bind fun w2 => (tb_gN 22 20 a0 w2).bind fun p3 => (tb_tI p3 ((42 + (4 * a1)) + 3) 0 w2).bind fun w4 => some w4
set_option maxHeartbeats 4000000 in
set_option maxRecDepth 20000 in
theorem dc_m_downs {a0 : Nat} {a1 : Int32} {w : tb_Hp} {o : tb_Hp} (h : fb_m_downs a0 a1 w = some o) : tb_Ev tb_P 0 241 (0, tb_ent [.ref a0, .int a1], [], w) (none, o) := by
  unfold fb_m_downs at h
  obtain ⟨r, hr⟩ : ∃ r : Option Value × tb_Hp, r = (none, o) := ⟨_, rfl⟩
  rw [← hr]
  show tb_Ev tb_P 0 241 (0, [(0, .ref a0), (1, .int a1)], [], w) r
  refine tb_Es (k := 1) (st' := (1, [(0, .ref a0), (1, .int a1)], [.ref a0], w)) rfl ?_
  replace h := Option.bind_eq_some_iff.mp h
  obtain ⟨p1, ep1, h⟩ := h
  refine tb_e_gN rfl ep1 ?_
  refine tb_Es (k := 8) (st' := (10, [(0, .ref a0), (1, .int a1)], [.int 0, .int ((42 + (4 * a1)) + 2), .ref p1], w)) rfl ?_
  replace h := Option.bind_eq_some_iff.mp h
  obtain ⟨w2, ew2, h⟩ := h
  refine tb_e_tI rfl ew2 ?_
  refine tb_Es (k := 1) (st' := (12, [(0, .ref a0), (1, .int a1)], [.ref a0], w2)) rfl ?_
  replace h := Option.bind_eq_some_iff.mp h
  obtain ⟨p3, ep3, h⟩ := h
  refine tb_e_gN rfl ep3 ?_
  refine tb_Es (k := 8) (st' := (21, [(0, .ref a0), (1, .int a1)], [.int 0, .int ((42 + (4 * a1)) + 3), .ref p3], w2)) rfl ?_
  replace h := Option.bind_eq_some_iff.mp h
  obtain ⟨w4, ew4, h⟩ := h
  refine tb_e_tI rfl ew4 ?_
  obtain rfl := Option.some.inj h
  subst hr
  exact tb_Er rfl rfl
/-! TannerBuntingModel.keeps()V -/
def fl_m_keeps_2 : Nat → Nat → Int32 → tb_Hp → Option (tb_Hp)
  | 0, _, _, _ => none
  | n + 1, v0, v1, w => (if v1 < 64 then (tb_gN 22 25 v0 w).bind fun p1 => (tb_gN 22 20 v0 w).bind fun p2 => (tb_lI [1, 9] p2 (10 + v1) w).bind fun x3 => (tb_tI p1 v1 x3 w).bind fun w4 => fl_m_keeps_2 n v0 (v1 + 1) w4 else some (w))
set_option maxHeartbeats 4000000 in
set_option maxRecDepth 20000 in
theorem dl_m_keeps_2 : ∀ (n : Nat) (v0 : Nat) (v1 : Int32) (w : tb_Hp) (o : tb_Hp), fl_m_keeps_2 n v0 v1 w = some o → ∀ (r : Option Value × tb_Hp), tb_Ev tb_P 0 253 (19, [], [], o) r → tb_Ev tb_P 0 253 (3, [(0, .ref v0), (1, .int v1)], [], w) r := by
  intro n
  induction n with
  | zero =>
    intro v0 v1 w o h
    cases h
  | succ n ih =>
    intro v0 v1 w o h r hx
    unfold fl_m_keeps_2 at h
    refine tb_Es (k := 2) (st' := (5, [(0, .ref v0), (1, .int v1)], [.int 64, .int v1], w)) rfl ?_
    refine tb_b_cge rfl (fun hc => ?_) (fun hc => ?_)
    · rw [if_pos hc] at h
      refine tb_Es (k := 1) (st' := (7, [(0, .ref v0), (1, .int v1)], [.ref v0], w)) rfl ?_
      replace h := Option.bind_eq_some_iff.mp h
      obtain ⟨p1, ep1, h⟩ := h
      refine tb_e_gN rfl ep1 ?_
      refine tb_Es (k := 2) (st' := (10, [(0, .ref v0), (1, .int v1)], [.ref v0, .int v1, .ref p1], w)) rfl ?_
      replace h := Option.bind_eq_some_iff.mp h
      obtain ⟨p2, ep2, h⟩ := h
      refine tb_e_gN rfl ep2 ?_
      refine tb_Es (k := 3) (st' := (14, [(0, .ref v0), (1, .int v1)], [.int (10 + v1), .ref p2, .int v1, .ref p1], w)) rfl ?_
      replace h := Option.bind_eq_some_iff.mp h
      obtain ⟨x3, ex3, h⟩ := h
      refine tb_e_lI rfl (Or.inl ⟨rfl, rfl⟩) ex3 ?_
      replace h := Option.bind_eq_some_iff.mp h
      obtain ⟨w4, ew4, h⟩ := h
      refine tb_e_tI rfl ew4 ?_
      refine tb_Es (k := 3) (st' := (3, [(0, .ref v0), (1, .int (v1 + 1))], [], w4)) rfl ?_
      exact ih v0 (v1 + 1) w4 _ h r hx
    · rw [if_neg hc] at h
      refine tb_Es (k := 1) (st' := (19, [], [], w)) rfl ?_
      obtain rfl := Option.some.inj h
      exact hx
def fb_m_keeps (a0 : Nat) (w : tb_Hp) : Option (tb_Hp) := (fl_m_keeps_2 1048576 a0 0 w).bind fun o5 => some o5
set_option maxHeartbeats 4000000 in
set_option maxRecDepth 20000 in
theorem dc_m_keeps {a0 : Nat} {w : tb_Hp} {o : tb_Hp} (h : fb_m_keeps a0 w = some o) : tb_Ev tb_P 0 253 (0, tb_ent [.ref a0], [], w) (none, o) := by
  unfold fb_m_keeps at h
  obtain ⟨r, hr⟩ : ∃ r : Option Value × tb_Hp, r = (none, o) := ⟨_, rfl⟩
  rw [← hr]
  show tb_Ev tb_P 0 253 (0, [(0, .ref a0)], [], w) r
  refine tb_Es (k := 3) (st' := (3, [(0, .ref a0), (1, .int 0)], [], w)) rfl ?_
  replace h := Option.bind_eq_some_iff.mp h
  obtain ⟨o5, eo5, h⟩ := h
  refine dl_m_keeps_2 _ a0 0 w _ eo5 r ?_
  obtain rfl := Option.some.inj h
  subst hr
  exact tb_Er rfl rfl
/-! TannerBuntingModel.laysBack()V -/
def fl_m_laysBack_2 : Nat → Nat → Int32 → tb_Hp → Option (tb_Hp)
  | 0, _, _, _ => none
  | n + 1, v0, v1, w => (if v1 < 64 then (tb_gN 22 20 v0 w).bind fun p1 => (tb_gN 22 25 v0 w).bind fun p2 => (tb_lI [1, 9] p2 v1 w).bind fun x3 => (tb_tI p1 (10 + v1) x3 w).bind fun w4 => fl_m_laysBack_2 n v0 (v1 + 1) w4 else some (w))
set_option maxHeartbeats 4000000 in
set_option maxRecDepth 20000 in
theorem dl_m_laysBack_2 : ∀ (n : Nat) (v0 : Nat) (v1 : Int32) (w : tb_Hp) (o : tb_Hp), fl_m_laysBack_2 n v0 v1 w = some o → ∀ (r : Option Value × tb_Hp), tb_Ev tb_P 0 256 (19, [], [], o) r → tb_Ev tb_P 0 256 (3, [(0, .ref v0), (1, .int v1)], [], w) r := by
  intro n
  induction n with
  | zero =>
    intro v0 v1 w o h
    cases h
  | succ n ih =>
    intro v0 v1 w o h r hx
    unfold fl_m_laysBack_2 at h
    refine tb_Es (k := 2) (st' := (5, [(0, .ref v0), (1, .int v1)], [.int 64, .int v1], w)) rfl ?_
    refine tb_b_cge rfl (fun hc => ?_) (fun hc => ?_)
    · rw [if_pos hc] at h
      refine tb_Es (k := 1) (st' := (7, [(0, .ref v0), (1, .int v1)], [.ref v0], w)) rfl ?_
      replace h := Option.bind_eq_some_iff.mp h
      obtain ⟨p1, ep1, h⟩ := h
      refine tb_e_gN rfl ep1 ?_
      refine tb_Es (k := 4) (st' := (12, [(0, .ref v0), (1, .int v1)], [.ref v0, .int (10 + v1), .ref p1], w)) rfl ?_
      replace h := Option.bind_eq_some_iff.mp h
      obtain ⟨p2, ep2, h⟩ := h
      refine tb_e_gN rfl ep2 ?_
      refine tb_Es (k := 1) (st' := (14, [(0, .ref v0), (1, .int v1)], [.int v1, .ref p2, .int (10 + v1), .ref p1], w)) rfl ?_
      replace h := Option.bind_eq_some_iff.mp h
      obtain ⟨x3, ex3, h⟩ := h
      refine tb_e_lI rfl (Or.inl ⟨rfl, rfl⟩) ex3 ?_
      replace h := Option.bind_eq_some_iff.mp h
      obtain ⟨w4, ew4, h⟩ := h
      refine tb_e_tI rfl ew4 ?_
      refine tb_Es (k := 3) (st' := (3, [(0, .ref v0), (1, .int (v1 + 1))], [], w4)) rfl ?_
      exact ih v0 (v1 + 1) w4 _ h r hx
    · rw [if_neg hc] at h
      refine tb_Es (k := 1) (st' := (19, [], [], w)) rfl ?_
      obtain rfl := Option.some.inj h
      exact hx
def fb_m_laysBack (a0 : Nat) (w : tb_Hp) : Option (tb_Hp) := (fl_m_laysBack_2 1048576 a0 0 w).bind fun o5 => some o5
set_option maxHeartbeats 4000000 in
set_option maxRecDepth 20000 in
theorem dc_m_laysBack {a0 : Nat} {w : tb_Hp} {o : tb_Hp} (h : fb_m_laysBack a0 w = some o) : tb_Ev tb_P 0 256 (0, tb_ent [.ref a0], [], w) (none, o) := by
  unfold fb_m_laysBack at h
  obtain ⟨r, hr⟩ : ∃ r : Option Value × tb_Hp, r = (none, o) := ⟨_, rfl⟩
  rw [← hr]
  show tb_Ev tb_P 0 256 (0, [(0, .ref a0)], [], w) r
  refine tb_Es (k := 3) (st' := (3, [(0, .ref a0), (1, .int 0)], [], w)) rfl ?_
  replace h := Option.bind_eq_some_iff.mp h
  obtain ⟨o5, eo5, h⟩ := h
  refine dl_m_laysBack_2 _ a0 0 w _ eo5 r ?_
  obtain rfl := Option.some.inj h
  subst hr
  exact tb_Er rfl rfl
/-! TannerBuntingModel.isRest(II)Z -/
def fj_m_isRest_j51 (k : Nat → Int32 → Int32 → Int32 → tb_Hp → Option (Int32 × tb_Hp)) (w : tb_Hp) : Option (Int32 × tb_Hp) := some ((0, w))
set_option maxHeartbeats 4000000 in
set_option maxRecDepth 20000 in
theorem dj_m_isRest_j51 (k : Nat → Int32 → Int32 → Int32 → tb_Hp → Option (Int32 × tb_Hp)) (w : tb_Hp) (o : Int32 × tb_Hp) (h : fj_m_isRest_j51 k  w = some o) (r : Option Value × tb_Hp) (hx : r = (some (.int o.1), o.2)) (hk : ∀ (v0 : Nat) (v1 : Int32) (v2 : Int32) (v3 : Int32) (w : tb_Hp), k v0 v1 v2 v3 w = some o → tb_Ev tb_P 0 282 (3, [(0, .ref v0), (1, .int v1), (2, .int v2), (3, .int v3)], [], w) r) : tb_Ev tb_P 0 282 (53, [], [], w) r := by
  unfold fj_m_isRest_j51 at h
  refine tb_Es (k := 1) (st' := (54, [], [.int 0], w)) rfl ?_
  obtain rfl := Option.some.inj h
  replace hx : r = _ := hx
  subst hx
  exact tb_Er rfl rfl
def fj_m_isRest_j55 (k : Nat → Int32 → Int32 → Int32 → tb_Hp → Option (Int32 × tb_Hp)) (w : tb_Hp) : Option (Int32 × tb_Hp) := some ((1, w))
set_option maxHeartbeats 4000000 in
set_option maxRecDepth 20000 in
theorem dj_m_isRest_j55 (k : Nat → Int32 → Int32 → Int32 → tb_Hp → Option (Int32 × tb_Hp)) (w : tb_Hp) (o : Int32 × tb_Hp) (h : fj_m_isRest_j55 k  w = some o) (r : Option Value × tb_Hp) (hx : r = (some (.int o.1), o.2)) (hk : ∀ (v0 : Nat) (v1 : Int32) (v2 : Int32) (v3 : Int32) (w : tb_Hp), k v0 v1 v2 v3 w = some o → tb_Ev tb_P 0 282 (3, [(0, .ref v0), (1, .int v1), (2, .int v2), (3, .int v3)], [], w) r) : tb_Ev tb_P 0 282 (58, [], [], w) r := by
  unfold fj_m_isRest_j55 at h
  refine tb_Es (k := 1) (st' := (59, [], [.int 1], w)) rfl ?_
  obtain rfl := Option.some.inj h
  replace hx : r = _ := hx
  subst hx
  exact tb_Er rfl rfl
def fl_m_isRest_2 : Nat → Nat → Int32 → Int32 → Int32 → tb_Hp → Option (Int32 × tb_Hp)
  | 0, _, _, _, _, _ => none
  | n + 1, v0, v1, v2, v3, w => (if v3 < 2 then (tb_gN 22 28 v0 w).bind fun p1 => (tb_lI [1, 9] p1 (2 * ((2 * v3) + v2)) w).bind fun x2 => (tb_gN 22 28 v0 w).bind fun p3 => (tb_lI [1, 9] p3 (2 * ((2 * v1) + v2)) w).bind fun x4 => (if x2 ≤ x4 then (tb_gN 22 28 v0 w).bind fun p5 => (tb_lI [1, 9] p5 ((2 * ((2 * v1) + v3)) + 1) w).bind fun x6 => (tb_gN 22 28 v0 w).bind fun p7 => (tb_lI [1, 9] p7 ((2 * ((2 * v1) + v2)) + 1) w).bind fun x8 => (if x8 < x6 then fj_m_isRest_j51 (fl_m_isRest_2 n)  w else fl_m_isRest_2 n v0 v1 v2 (v3 + 1) w) else fj_m_isRest_j51 (fl_m_isRest_2 n)  w) else fj_m_isRest_j55 (fl_m_isRest_2 n)  w)
set_option maxHeartbeats 4000000 in
set_option maxRecDepth 20000 in
theorem dl_m_isRest_2 : ∀ (n : Nat) (v0 : Nat) (v1 : Int32) (v2 : Int32) (v3 : Int32) (w : tb_Hp) (o : Int32 × tb_Hp), fl_m_isRest_2 n v0 v1 v2 v3 w = some o → ∀ (r : Option Value × tb_Hp), r = (some (.int o.1), o.2) → tb_Ev tb_P 0 282 (3, [(0, .ref v0), (1, .int v1), (2, .int v2), (3, .int v3)], [], w) r := by
  intro n
  induction n with
  | zero =>
    intro v0 v1 v2 v3 w o h
    cases h
  | succ n ih =>
    intro v0 v1 v2 v3 w o h r hx
    unfold fl_m_isRest_2 at h
    refine tb_Es (k := 2) (st' := (5, [(0, .ref v0), (1, .int v1), (2, .int v2), (3, .int v3)], [.int 2, .int v3], w)) rfl ?_
    refine tb_b_cge rfl (fun hc => ?_) (fun hc => ?_)
    · rw [if_pos hc] at h
      refine tb_Es (k := 1) (st' := (7, [(0, .ref v0), (1, .int v1), (2, .int v2), (3, .int v3)], [.ref v0], w)) rfl ?_
      replace h := Option.bind_eq_some_iff.mp h
      obtain ⟨p1, ep1, h⟩ := h
      refine tb_e_gN rfl ep1 ?_
      refine tb_Es (k := 7) (st' := (15, [(0, .ref v0), (1, .int v1), (2, .int v2), (3, .int v3)], [.int (2 * ((2 * v3) + v2)), .ref p1], w)) rfl ?_
      replace h := Option.bind_eq_some_iff.mp h
      obtain ⟨x2, ex2, h⟩ := h
      refine tb_e_lI rfl (Or.inl ⟨rfl, rfl⟩) ex2 ?_
      refine tb_Es (k := 1) (st' := (17, [(0, .ref v0), (1, .int v1), (2, .int v2), (3, .int v3)], [.ref v0, .int x2], w)) rfl ?_
      replace h := Option.bind_eq_some_iff.mp h
      obtain ⟨p3, ep3, h⟩ := h
      refine tb_e_gN rfl ep3 ?_
      refine tb_Es (k := 7) (st' := (25, [(0, .ref v0), (1, .int v1), (2, .int v2), (3, .int v3)], [.int (2 * ((2 * v1) + v2)), .ref p3, .int x2], w)) rfl ?_
      replace h := Option.bind_eq_some_iff.mp h
      obtain ⟨x4, ex4, h⟩ := h
      refine tb_e_lI rfl (Or.inl ⟨rfl, rfl⟩) ex4 ?_
      refine tb_b_cgt rfl (fun hc => ?_) (fun hc => ?_)
      · rw [if_pos hc] at h
        refine tb_Es (k := 1) (st' := (28, [(0, .ref v0), (1, .int v1), (2, .int v2), (3, .int v3)], [.ref v0], w)) rfl ?_
        replace h := Option.bind_eq_some_iff.mp h
        obtain ⟨p5, ep5, h⟩ := h
        refine tb_e_gN rfl ep5 ?_
        refine tb_Es (k := 9) (st' := (38, [(0, .ref v0), (1, .int v1), (2, .int v2), (3, .int v3)], [.int ((2 * ((2 * v1) + v3)) + 1), .ref p5], w)) rfl ?_
        replace h := Option.bind_eq_some_iff.mp h
        obtain ⟨x6, ex6, h⟩ := h
        refine tb_e_lI rfl (Or.inl ⟨rfl, rfl⟩) ex6 ?_
        refine tb_Es (k := 1) (st' := (40, [(0, .ref v0), (1, .int v1), (2, .int v2), (3, .int v3)], [.ref v0, .int x6], w)) rfl ?_
        replace h := Option.bind_eq_some_iff.mp h
        obtain ⟨p7, ep7, h⟩ := h
        refine tb_e_gN rfl ep7 ?_
        refine tb_Es (k := 9) (st' := (50, [(0, .ref v0), (1, .int v1), (2, .int v2), (3, .int v3)], [.int ((2 * ((2 * v1) + v2)) + 1), .ref p7, .int x6], w)) rfl ?_
        replace h := Option.bind_eq_some_iff.mp h
        obtain ⟨x8, ex8, h⟩ := h
        refine tb_e_lI rfl (Or.inl ⟨rfl, rfl⟩) ex8 ?_
        refine tb_b_cle rfl (fun hc => ?_) (fun hc => ?_)
        · rw [if_pos hc] at h
          refine tb_Es (k := 1) (st' := (53, [], [], w)) rfl ?_
          exact dj_m_isRest_j51 (fl_m_isRest_2 n)  w _ h r hx (fun v0_ v1_ v2_ v3_ w_ h_ => ih v0_ v1_ v2_ v3_ w_ _ h_ r hx)
        · rw [if_neg hc] at h
          refine tb_Es (k := 3) (st' := (3, [(0, .ref v0), (1, .int v1), (2, .int v2), (3, .int (v3 + 1))], [], w)) rfl ?_
          exact ih v0 v1 v2 (v3 + 1) w _ h r hx
      · rw [if_neg hc] at h
        refine tb_Es (k := 1) (st' := (53, [], [], w)) rfl ?_
        exact dj_m_isRest_j51 (fl_m_isRest_2 n)  w _ h r hx (fun v0_ v1_ v2_ v3_ w_ h_ => ih v0_ v1_ v2_ v3_ w_ _ h_ r hx)
    · rw [if_neg hc] at h
      refine tb_Es (k := 1) (st' := (58, [], [], w)) rfl ?_
      exact dj_m_isRest_j55 (fl_m_isRest_2 n)  w _ h r hx (fun v0_ v1_ v2_ v3_ w_ h_ => ih v0_ v1_ v2_ v3_ w_ _ h_ r hx)
def fb_m_isRest (a0 : Nat) (a1 : Int32) (a2 : Int32) (w : tb_Hp) : Option (Int32 × tb_Hp) := (fl_m_isRest_2 1048576 a0 a1 a2 0 w).bind fun o9 => some o9
set_option maxHeartbeats 4000000 in
set_option maxRecDepth 20000 in
theorem dc_m_isRest {a0 : Nat} {a1 : Int32} {a2 : Int32} {w : tb_Hp} {o : Int32 × tb_Hp} (h : fb_m_isRest a0 a1 a2 w = some o) : tb_Ev tb_P 0 282 (0, tb_ent [.ref a0, .int a1, .int a2], [], w) (some (.int o.1), o.2) := by
  unfold fb_m_isRest at h
  obtain ⟨r, hr⟩ : ∃ r : Option Value × tb_Hp, r = (some (.int o.1), o.2) := ⟨_, rfl⟩
  rw [← hr]
  show tb_Ev tb_P 0 282 (0, [(0, .ref a0), (1, .int a1), (2, .int a2)], [], w) r
  refine tb_Es (k := 3) (st' := (3, [(0, .ref a0), (1, .int a1), (2, .int a2), (3, .int 0)], [], w)) rfl ?_
  replace h := Option.bind_eq_some_iff.mp h
  obtain ⟨o9, eo9, h⟩ := h
  refine dl_m_isRest_2 _ a0 a1 a2 0 w _ eo9 r ?_
  obtain rfl := Option.some.inj h
  exact hr
/-! TannerBuntingModel.areNotesSo(I)Z -/
def fj_m_areNotesSo_j40 (k : Nat → Int32 → Int32 → tb_Hp → Option (Int32 × tb_Hp)) (w : tb_Hp) : Option (Int32 × tb_Hp) := some ((0, w))
set_option maxHeartbeats 4000000 in
set_option maxRecDepth 20000 in
theorem dj_m_areNotesSo_j40 (k : Nat → Int32 → Int32 → tb_Hp → Option (Int32 × tb_Hp)) (w : tb_Hp) (o : Int32 × tb_Hp) (h : fj_m_areNotesSo_j40 k  w = some o) (r : Option Value × tb_Hp) (hx : r = (some (.int o.1), o.2)) (hk : ∀ (v0 : Nat) (v1 : Int32) (v2 : Int32) (w : tb_Hp), k v0 v1 v2 w = some o → tb_Ev tb_P 0 289 (3, [(0, .ref v0), (1, .int v1), (2, .int v2)], [], w) r) : tb_Ev tb_P 0 289 (42, [], [], w) r := by
  unfold fj_m_areNotesSo_j40 at h
  refine tb_Es (k := 1) (st' := (43, [], [.int 0], w)) rfl ?_
  obtain rfl := Option.some.inj h
  replace hx : r = _ := hx
  subst hx
  exact tb_Er rfl rfl
def fj_m_areNotesSo_j44 (k : Nat → Int32 → Int32 → tb_Hp → Option (Int32 × tb_Hp)) (w : tb_Hp) : Option (Int32 × tb_Hp) := some ((1, w))
set_option maxHeartbeats 4000000 in
set_option maxRecDepth 20000 in
theorem dj_m_areNotesSo_j44 (k : Nat → Int32 → Int32 → tb_Hp → Option (Int32 × tb_Hp)) (w : tb_Hp) (o : Int32 × tb_Hp) (h : fj_m_areNotesSo_j44 k  w = some o) (r : Option Value × tb_Hp) (hx : r = (some (.int o.1), o.2)) (hk : ∀ (v0 : Nat) (v1 : Int32) (v2 : Int32) (w : tb_Hp), k v0 v1 v2 w = some o → tb_Ev tb_P 0 289 (3, [(0, .ref v0), (1, .int v1), (2, .int v2)], [], w) r) : tb_Ev tb_P 0 289 (47, [], [], w) r := by
  unfold fj_m_areNotesSo_j44 at h
  refine tb_Es (k := 1) (st' := (48, [], [.int 1], w)) rfl ?_
  obtain rfl := Option.some.inj h
  replace hx : r = _ := hx
  subst hx
  exact tb_Er rfl rfl
def fl_m_areNotesSo_2 : Nat → Nat → Int32 → Int32 → tb_Hp → Option (Int32 × tb_Hp)
  | 0, _, _, _, _ => none
  | n + 1, v0, v1, v2, w => (tb_gN 22 20 v0 w).bind fun p1 => (tb_lI [1, 9] p1 148 w).bind fun x2 => (if v2 < (3 * x2) then (tb_gN 22 20 v0 w).bind fun p3 => (tb_lI [1, 9] p3 (118 + v2) w).bind fun x4 => (if x4 = v1 then (tb_gN 22 20 v0 w).bind fun p5 => (tb_gN 22 20 v0 w).bind fun p6 => (tb_lI [1, 9] p6 ((118 + v2) + 1) w).bind fun x7 => (tb_lI [1, 9] p5 (32 + x7) w).bind fun x8 => (tb_gN 22 20 v0 w).bind fun p9 => (tb_lI [1, 9] p9 ((118 + v2) + 2) w).bind fun x10 => (if x8 = x10 then fl_m_areNotesSo_2 n v0 v1 (v2 + 3) w else fj_m_areNotesSo_j40 (fl_m_areNotesSo_2 n)  w) else fl_m_areNotesSo_2 n v0 v1 (v2 + 3) w) else fj_m_areNotesSo_j44 (fl_m_areNotesSo_2 n)  w)
set_option maxHeartbeats 4000000 in
set_option maxRecDepth 20000 in
theorem dl_m_areNotesSo_2 : ∀ (n : Nat) (v0 : Nat) (v1 : Int32) (v2 : Int32) (w : tb_Hp) (o : Int32 × tb_Hp), fl_m_areNotesSo_2 n v0 v1 v2 w = some o → ∀ (r : Option Value × tb_Hp), r = (some (.int o.1), o.2) → tb_Ev tb_P 0 289 (3, [(0, .ref v0), (1, .int v1), (2, .int v2)], [], w) r := by
  intro n
  induction n with
  | zero =>
    intro v0 v1 v2 w o h
    cases h
  | succ n ih =>
    intro v0 v1 v2 w o h r hx
    unfold fl_m_areNotesSo_2 at h
    refine tb_Es (k := 3) (st' := (6, [(0, .ref v0), (1, .int v1), (2, .int v2)], [.ref v0, .int 3, .int v2], w)) rfl ?_
    replace h := Option.bind_eq_some_iff.mp h
    obtain ⟨p1, ep1, h⟩ := h
    refine tb_e_gN rfl ep1 ?_
    refine tb_Es (k := 1) (st' := (8, [(0, .ref v0), (1, .int v1), (2, .int v2)], [.int 148, .ref p1, .int 3, .int v2], w)) rfl ?_
    replace h := Option.bind_eq_some_iff.mp h
    obtain ⟨x2, ex2, h⟩ := h
    refine tb_e_lI rfl (Or.inl ⟨rfl, rfl⟩) ex2 ?_
    refine tb_Es (k := 1) (st' := (10, [(0, .ref v0), (1, .int v1), (2, .int v2)], [.int (3 * x2), .int v2], w)) rfl ?_
    refine tb_b_cge rfl (fun hc => ?_) (fun hc => ?_)
    · rw [if_pos hc] at h
      refine tb_Es (k := 1) (st' := (12, [(0, .ref v0), (1, .int v1), (2, .int v2)], [.ref v0], w)) rfl ?_
      replace h := Option.bind_eq_some_iff.mp h
      obtain ⟨p3, ep3, h⟩ := h
      refine tb_e_gN rfl ep3 ?_
      refine tb_Es (k := 3) (st' := (16, [(0, .ref v0), (1, .int v1), (2, .int v2)], [.int (118 + v2), .ref p3], w)) rfl ?_
      replace h := Option.bind_eq_some_iff.mp h
      obtain ⟨x4, ex4, h⟩ := h
      refine tb_e_lI rfl (Or.inl ⟨rfl, rfl⟩) ex4 ?_
      refine tb_Es (k := 1) (st' := (18, [(0, .ref v0), (1, .int v1), (2, .int v2)], [.int v1, .int x4], w)) rfl ?_
      refine tb_b_cne rfl (fun hc => ?_) (fun hc => ?_)
      · rw [if_pos hc] at h
        refine tb_Es (k := 1) (st' := (20, [(0, .ref v0), (1, .int v1), (2, .int v2)], [.ref v0], w)) rfl ?_
        replace h := Option.bind_eq_some_iff.mp h
        obtain ⟨p5, ep5, h⟩ := h
        refine tb_e_gN rfl ep5 ?_
        refine tb_Es (k := 2) (st' := (23, [(0, .ref v0), (1, .int v1), (2, .int v2)], [.ref v0, .int 32, .ref p5], w)) rfl ?_
        replace h := Option.bind_eq_some_iff.mp h
        obtain ⟨p6, ep6, h⟩ := h
        refine tb_e_gN rfl ep6 ?_
        refine tb_Es (k := 5) (st' := (29, [(0, .ref v0), (1, .int v1), (2, .int v2)], [.int ((118 + v2) + 1), .ref p6, .int 32, .ref p5], w)) rfl ?_
        replace h := Option.bind_eq_some_iff.mp h
        obtain ⟨x7, ex7, h⟩ := h
        refine tb_e_lI rfl (Or.inl ⟨rfl, rfl⟩) ex7 ?_
        refine tb_Es (k := 1) (st' := (31, [(0, .ref v0), (1, .int v1), (2, .int v2)], [.int (32 + x7), .ref p5], w)) rfl ?_
        replace h := Option.bind_eq_some_iff.mp h
        obtain ⟨x8, ex8, h⟩ := h
        refine tb_e_lI rfl (Or.inl ⟨rfl, rfl⟩) ex8 ?_
        refine tb_Es (k := 1) (st' := (33, [(0, .ref v0), (1, .int v1), (2, .int v2)], [.ref v0, .int x8], w)) rfl ?_
        replace h := Option.bind_eq_some_iff.mp h
        obtain ⟨p9, ep9, h⟩ := h
        refine tb_e_gN rfl ep9 ?_
        refine tb_Es (k := 5) (st' := (39, [(0, .ref v0), (1, .int v1), (2, .int v2)], [.int ((118 + v2) + 2), .ref p9, .int x8], w)) rfl ?_
        replace h := Option.bind_eq_some_iff.mp h
        obtain ⟨x10, ex10, h⟩ := h
        refine tb_e_lI rfl (Or.inl ⟨rfl, rfl⟩) ex10 ?_
        refine tb_b_ceq rfl (fun hc => ?_) (fun hc => ?_)
        · rw [if_pos hc] at h
          refine tb_Es (k := 3) (st' := (3, [(0, .ref v0), (1, .int v1), (2, .int (v2 + 3))], [], w)) rfl ?_
          exact ih v0 v1 (v2 + 3) w _ h r hx
        · rw [if_neg hc] at h
          refine tb_Es (k := 1) (st' := (42, [], [], w)) rfl ?_
          exact dj_m_areNotesSo_j40 (fl_m_areNotesSo_2 n)  w _ h r hx (fun v0_ v1_ v2_ w_ h_ => ih v0_ v1_ v2_ w_ _ h_ r hx)
      · rw [if_neg hc] at h
        refine tb_Es (k := 3) (st' := (3, [(0, .ref v0), (1, .int v1), (2, .int (v2 + 3))], [], w)) rfl ?_
        exact ih v0 v1 (v2 + 3) w _ h r hx
    · rw [if_neg hc] at h
      refine tb_Es (k := 1) (st' := (47, [], [], w)) rfl ?_
      exact dj_m_areNotesSo_j44 (fl_m_areNotesSo_2 n)  w _ h r hx (fun v0_ v1_ v2_ w_ h_ => ih v0_ v1_ v2_ w_ _ h_ r hx)
def fb_m_areNotesSo (a0 : Nat) (a1 : Int32) (w : tb_Hp) : Option (Int32 × tb_Hp) := (fl_m_areNotesSo_2 1048576 a0 a1 0 w).bind fun o11 => some o11
set_option maxHeartbeats 4000000 in
set_option maxRecDepth 20000 in
theorem dc_m_areNotesSo {a0 : Nat} {a1 : Int32} {w : tb_Hp} {o : Int32 × tb_Hp} (h : fb_m_areNotesSo a0 a1 w = some o) : tb_Ev tb_P 0 289 (0, tb_ent [.ref a0, .int a1], [], w) (some (.int o.1), o.2) := by
  unfold fb_m_areNotesSo at h
  obtain ⟨r, hr⟩ : ∃ r : Option Value × tb_Hp, r = (some (.int o.1), o.2) := ⟨_, rfl⟩
  rw [← hr]
  show tb_Ev tb_P 0 289 (0, [(0, .ref a0), (1, .int a1)], [], w) r
  refine tb_Es (k := 3) (st' := (3, [(0, .ref a0), (1, .int a1), (2, .int 0)], [], w)) rfl ?_
  replace h := Option.bind_eq_some_iff.mp h
  obtain ⟨o11, eo11, h⟩ := h
  refine dl_m_areNotesSo_2 _ a0 a1 0 w _ eo11 r ?_
  obtain rfl := Option.some.inj h
  exact hr
