/-! TannerBunting$Text.<init>()V -/
def fb_t_init (a0 : Nat) (w : tb_Hp) : Option (tb_Hp) := (tb_na 1 400 w).bind fun w1 => (tb_pR 19 4 a0 w.1.length w1).bind fun w2 => (tb_na 1 401 w2).bind fun w3 => (tb_pR 19 5 a0 w2.1.length w3).bind fun w4 => (tb_na 1 401 w4).bind fun w5 => (tb_pR 19 6 a0 w4.1.length w5).bind fun w6 => (tb_na 1 401 w6).bind fun w7 => (tb_pR 19 7 a0 w6.1.length w7).bind fun w8 => some w8
set_option maxHeartbeats 4000000 in
set_option maxRecDepth 20000 in
theorem dc_t_init {a0 : Nat} {w : tb_Hp} {o : tb_Hp} (h : fb_t_init a0 w = some o) : tb_Ev tb_P 0 1 (0, tb_ent [.ref a0], [], w) (none, o) := by
  unfold fb_t_init at h
  obtain ⟨r, hr⟩ : ∃ r : Option Value × tb_Hp, r = (none, o) := ⟨_, rfl⟩
  rw [← hr]
  show tb_Ev tb_P 0 1 (0, [(0, .ref a0)], [], w) r
  refine tb_Es (k := 1) (st' := (1, [(0, .ref a0)], [.ref a0], w)) rfl ?_
  refine tb_e_ob rfl rfl ?_
  refine tb_Es (k := 2) (st' := (4, [(0, .ref a0)], [.int 400, .ref a0], w)) rfl ?_
  replace h := Option.bind_eq_some_iff.mp h
  obtain ⟨w1, ew1, h⟩ := h
  refine tb_e_na rfl (Or.inl ⟨_, rfl⟩) ew1 ?_
  replace h := Option.bind_eq_some_iff.mp h
  obtain ⟨w2, ew2, h⟩ := h
  refine tb_e_pR rfl ew2 ?_
  refine tb_Es (k := 2) (st' := (8, [(0, .ref a0)], [.int 401, .ref a0], w2)) rfl ?_
  replace h := Option.bind_eq_some_iff.mp h
  obtain ⟨w3, ew3, h⟩ := h
  refine tb_e_na rfl (Or.inl ⟨_, rfl⟩) ew3 ?_
  replace h := Option.bind_eq_some_iff.mp h
  obtain ⟨w4, ew4, h⟩ := h
  refine tb_e_pR rfl ew4 ?_
  refine tb_Es (k := 2) (st' := (12, [(0, .ref a0)], [.int 401, .ref a0], w4)) rfl ?_
  replace h := Option.bind_eq_some_iff.mp h
  obtain ⟨w5, ew5, h⟩ := h
  refine tb_e_na rfl (Or.inl ⟨_, rfl⟩) ew5 ?_
  replace h := Option.bind_eq_some_iff.mp h
  obtain ⟨w6, ew6, h⟩ := h
  refine tb_e_pR rfl ew6 ?_
  refine tb_Es (k := 2) (st' := (16, [(0, .ref a0)], [.int 401, .ref a0], w6)) rfl ?_
  replace h := Option.bind_eq_some_iff.mp h
  obtain ⟨w7, ew7, h⟩ := h
  refine tb_e_na rfl (Or.inl ⟨_, rfl⟩) ew7 ?_
  replace h := Option.bind_eq_some_iff.mp h
  obtain ⟨w8, ew8, h⟩ := h
  refine tb_e_pR rfl ew8 ?_
  obtain rfl := Option.some.inj h
  subst hr
  exact tb_Er rfl rfl
/-! TannerBunting$Street.<init>()V -/
def fb_s_init (a0 : Nat) (w : tb_Hp) : Option (tb_Hp) := (tb_na 1 10 w).bind fun w1 => (tb_pR 17 6 a0 w.1.length w1).bind fun w2 => (tb_na 1 10 w2).bind fun w3 => (tb_pR 17 7 a0 w2.1.length w3).bind fun w4 => (tb_na 1 8 w4).bind fun w5 => (tb_pR 17 8 a0 w4.1.length w5).bind fun w6 => (tb_na 1 8 w6).bind fun w7 => (tb_pR 17 9 a0 w6.1.length w7).bind fun w8 => (tb_na 1 8 w8).bind fun w9 => (tb_pR 17 10 a0 w8.1.length w9).bind fun w10 => (tb_na 1 10 w10).bind fun w11 => (tb_pR 17 11 a0 w10.1.length w11).bind fun w12 => some w12
set_option maxHeartbeats 4000000 in
set_option maxRecDepth 20000 in
theorem dc_s_init {a0 : Nat} {w : tb_Hp} {o : tb_Hp} (h : fb_s_init a0 w = some o) : tb_Ev tb_P 0 3 (0, tb_ent [.ref a0], [], w) (none, o) := by
  unfold fb_s_init at h
  obtain ⟨r, hr⟩ : ∃ r : Option Value × tb_Hp, r = (none, o) := ⟨_, rfl⟩
  rw [← hr]
  show tb_Ev tb_P 0 3 (0, [(0, .ref a0)], [], w) r
  refine tb_Es (k := 1) (st' := (1, [(0, .ref a0)], [.ref a0], w)) rfl ?_
  refine tb_e_ob rfl rfl ?_
  refine tb_Es (k := 2) (st' := (4, [(0, .ref a0)], [.int 10, .ref a0], w)) rfl ?_
  replace h := Option.bind_eq_some_iff.mp h
  obtain ⟨w1, ew1, h⟩ := h
  refine tb_e_na rfl (Or.inl ⟨_, rfl⟩) ew1 ?_
  replace h := Option.bind_eq_some_iff.mp h
  obtain ⟨w2, ew2, h⟩ := h
  refine tb_e_pR rfl ew2 ?_
  refine tb_Es (k := 2) (st' := (8, [(0, .ref a0)], [.int 10, .ref a0], w2)) rfl ?_
  replace h := Option.bind_eq_some_iff.mp h
  obtain ⟨w3, ew3, h⟩ := h
  refine tb_e_na rfl (Or.inl ⟨_, rfl⟩) ew3 ?_
  replace h := Option.bind_eq_some_iff.mp h
  obtain ⟨w4, ew4, h⟩ := h
  refine tb_e_pR rfl ew4 ?_
  refine tb_Es (k := 2) (st' := (12, [(0, .ref a0)], [.int 8, .ref a0], w4)) rfl ?_
  replace h := Option.bind_eq_some_iff.mp h
  obtain ⟨w5, ew5, h⟩ := h
  refine tb_e_na rfl (Or.inl ⟨_, rfl⟩) ew5 ?_
  replace h := Option.bind_eq_some_iff.mp h
  obtain ⟨w6, ew6, h⟩ := h
  refine tb_e_pR rfl ew6 ?_
  refine tb_Es (k := 2) (st' := (16, [(0, .ref a0)], [.int 8, .ref a0], w6)) rfl ?_
  replace h := Option.bind_eq_some_iff.mp h
  obtain ⟨w7, ew7, h⟩ := h
  refine tb_e_na rfl (Or.inl ⟨_, rfl⟩) ew7 ?_
  replace h := Option.bind_eq_some_iff.mp h
  obtain ⟨w8, ew8, h⟩ := h
  refine tb_e_pR rfl ew8 ?_
  refine tb_Es (k := 2) (st' := (20, [(0, .ref a0)], [.int 8, .ref a0], w8)) rfl ?_
  replace h := Option.bind_eq_some_iff.mp h
  obtain ⟨w9, ew9, h⟩ := h
  refine tb_e_na rfl (Or.inl ⟨_, rfl⟩) ew9 ?_
  replace h := Option.bind_eq_some_iff.mp h
  obtain ⟨w10, ew10, h⟩ := h
  refine tb_e_pR rfl ew10 ?_
  refine tb_Es (k := 2) (st' := (24, [(0, .ref a0)], [.int 10, .ref a0], w10)) rfl ?_
  replace h := Option.bind_eq_some_iff.mp h
  obtain ⟨w11, ew11, h⟩ := h
  refine tb_e_na rfl (Or.inl ⟨_, rfl⟩) ew11 ?_
  replace h := Option.bind_eq_some_iff.mp h
  obtain ⟨w12, ew12, h⟩ := h
  refine tb_e_pR rfl ew12 ?_
  obtain rfl := Option.some.inj h
  subst hr
  exact tb_Er rfl rfl
/-! TannerBunting$RuleReader.<init>(LTannerBunting$Text;)V -/
def fb_rr_init (a0 : Nat) (a1 : Nat) (w : tb_Hp) : Option (tb_Hp) := (tb_pR 14 0 a0 a1 w).bind fun w1 => (tb_na 1 400 w1).bind fun w2 => (tb_pR 14 1 a0 w1.1.length w2).bind fun w3 => some w3
set_option maxHeartbeats 4000000 in
set_option maxRecDepth 20000 in
theorem dc_rr_init {a0 : Nat} {a1 : Nat} {w : tb_Hp} {o : tb_Hp} (h : fb_rr_init a0 a1 w = some o) : tb_Ev tb_P 0 4 (0, tb_ent [.ref a0, .ref a1], [], w) (none, o) := by
  unfold fb_rr_init at h
  obtain ⟨r, hr⟩ : ∃ r : Option Value × tb_Hp, r = (none, o) := ⟨_, rfl⟩
  rw [← hr]
  show tb_Ev tb_P 0 4 (0, [(0, .ref a0), (1, .ref a1)], [], w) r
  refine tb_Es (k := 1) (st' := (1, [(0, .ref a0), (1, .ref a1)], [.ref a0], w)) rfl ?_
  refine tb_e_ob rfl rfl ?_
  refine tb_Es (k := 2) (st' := (4, [(0, .ref a0), (1, .ref a1)], [.ref a1, .ref a0], w)) rfl ?_
  replace h := Option.bind_eq_some_iff.mp h
  obtain ⟨w1, ew1, h⟩ := h
  refine tb_e_pR rfl ew1 ?_
  refine tb_Es (k := 2) (st' := (7, [(0, .ref a0), (1, .ref a1)], [.int 400, .ref a0], w1)) rfl ?_
  replace h := Option.bind_eq_some_iff.mp h
  obtain ⟨w2, ew2, h⟩ := h
  refine tb_e_na rfl (Or.inl ⟨_, rfl⟩) ew2 ?_
  replace h := Option.bind_eq_some_iff.mp h
  obtain ⟨w3, ew3, h⟩ := h
  refine tb_e_pR rfl ew3 ?_
  obtain rfl := Option.some.inj h
  subst hr
  exact tb_Er rfl rfl
/-! TannerBunting$Notes.<init>()V -/
def fb_n_init (a0 : Nat) (w : tb_Hp) : Option (tb_Hp) := (tb_na 1 10 w).bind fun w1 => (tb_pR 12 1 a0 w.1.length w1).bind fun w2 => (tb_na 1 10 w2).bind fun w3 => (tb_pR 12 2 a0 w2.1.length w3).bind fun w4 => (tb_na 1 10 w4).bind fun w5 => (tb_pR 12 3 a0 w4.1.length w5).bind fun w6 => some w6
set_option maxHeartbeats 4000000 in
set_option maxRecDepth 20000 in
theorem dc_n_init {a0 : Nat} {w : tb_Hp} {o : tb_Hp} (h : fb_n_init a0 w = some o) : tb_Ev tb_P 0 6 (0, tb_ent [.ref a0], [], w) (none, o) := by
  unfold fb_n_init at h
  obtain ⟨r, hr⟩ : ∃ r : Option Value × tb_Hp, r = (none, o) := ⟨_, rfl⟩
  rw [← hr]
  show tb_Ev tb_P 0 6 (0, [(0, .ref a0)], [], w) r
  refine tb_Es (k := 1) (st' := (1, [(0, .ref a0)], [.ref a0], w)) rfl ?_
  refine tb_e_ob rfl rfl ?_
  refine tb_Es (k := 2) (st' := (4, [(0, .ref a0)], [.int 10, .ref a0], w)) rfl ?_
  replace h := Option.bind_eq_some_iff.mp h
  obtain ⟨w1, ew1, h⟩ := h
  refine tb_e_na rfl (Or.inl ⟨_, rfl⟩) ew1 ?_
  replace h := Option.bind_eq_some_iff.mp h
  obtain ⟨w2, ew2, h⟩ := h
  refine tb_e_pR rfl ew2 ?_
  refine tb_Es (k := 2) (st' := (8, [(0, .ref a0)], [.int 10, .ref a0], w2)) rfl ?_
  replace h := Option.bind_eq_some_iff.mp h
  obtain ⟨w3, ew3, h⟩ := h
  refine tb_e_na rfl (Or.inl ⟨_, rfl⟩) ew3 ?_
  replace h := Option.bind_eq_some_iff.mp h
  obtain ⟨w4, ew4, h⟩ := h
  refine tb_e_pR rfl ew4 ?_
  refine tb_Es (k := 2) (st' := (12, [(0, .ref a0)], [.int 10, .ref a0], w4)) rfl ?_
  replace h := Option.bind_eq_some_iff.mp h
  obtain ⟨w5, ew5, h⟩ := h
  refine tb_e_na rfl (Or.inl ⟨_, rfl⟩) ew5 ?_
  replace h := Option.bind_eq_some_iff.mp h
  obtain ⟨w6, ew6, h⟩ := h
  refine tb_e_pR rfl ew6 ?_
  obtain rfl := Option.some.inj h
  subst hr
  exact tb_Er rfl rfl
/-! TannerBunting$Past.<init>()V -/
def fb_p_init (a0 : Nat) (w : tb_Hp) : Option (tb_Hp) := (tb_na 6 20 w).bind fun w1 => (tb_pR 13 2 a0 w.1.length w1).bind fun w2 => some w2
set_option maxHeartbeats 4000000 in
set_option maxRecDepth 20000 in
theorem dc_p_init {a0 : Nat} {w : tb_Hp} {o : tb_Hp} (h : fb_p_init a0 w = some o) : tb_Ev tb_P 0 7 (0, tb_ent [.ref a0], [], w) (none, o) := by
  unfold fb_p_init at h
  obtain ⟨r, hr⟩ : ∃ r : Option Value × tb_Hp, r = (none, o) := ⟨_, rfl⟩
  rw [← hr]
  show tb_Ev tb_P 0 7 (0, [(0, .ref a0)], [], w) r
  refine tb_Es (k := 1) (st' := (1, [(0, .ref a0)], [.ref a0], w)) rfl ?_
  refine tb_e_ob rfl rfl ?_
  refine tb_Es (k := 2) (st' := (4, [(0, .ref a0)], [.int 20, .ref a0], w)) rfl ?_
  replace h := Option.bind_eq_some_iff.mp h
  obtain ⟨w1, ew1, h⟩ := h
  refine tb_e_na rfl (Or.inr ⟨_, rfl⟩) ew1 ?_
  replace h := Option.bind_eq_some_iff.mp h
  obtain ⟨w2, ew2, h⟩ := h
  refine tb_e_pR rfl ew2 ?_
  obtain rfl := Option.some.inj h
  subst hr
  exact tb_Er rfl rfl
/-! TannerBunting$Judge.<init>()V -/
def fb_jg_init (a0 : Nat) (w : tb_Hp) : Option (tb_Hp) := (tb_na 2 64 w).bind fun w1 => (tb_pR 11 0 a0 w.1.length w1).bind fun w2 => some w2
set_option maxHeartbeats 4000000 in
set_option maxRecDepth 20000 in
theorem dc_jg_init {a0 : Nat} {w : tb_Hp} {o : tb_Hp} (h : fb_jg_init a0 w = some o) : tb_Ev tb_P 0 8 (0, tb_ent [.ref a0], [], w) (none, o) := by
  unfold fb_jg_init at h
  obtain ⟨r, hr⟩ : ∃ r : Option Value × tb_Hp, r = (none, o) := ⟨_, rfl⟩
  rw [← hr]
  show tb_Ev tb_P 0 8 (0, [(0, .ref a0)], [], w) r
  refine tb_Es (k := 1) (st' := (1, [(0, .ref a0)], [.ref a0], w)) rfl ?_
  refine tb_e_ob rfl rfl ?_
  refine tb_Es (k := 2) (st' := (4, [(0, .ref a0)], [.int 64, .ref a0], w)) rfl ?_
  replace h := Option.bind_eq_some_iff.mp h
  obtain ⟨w1, ew1, h⟩ := h
  refine tb_e_na rfl (Or.inl ⟨_, rfl⟩) ew1 ?_
  replace h := Option.bind_eq_some_iff.mp h
  obtain ⟨w2, ew2, h⟩ := h
  refine tb_e_pR rfl ew2 ?_
  obtain rfl := Option.some.inj h
  subst hr
  exact tb_Er rfl rfl
/-! TannerBunting$Text.addFour(I)V -/
def fl_t_addFour_2 : Nat → Nat → Int32 → Int32 → tb_Hp → Option (tb_Hp)
  | 0, _, _, _, _ => none
  | n + 1, v0, v1, v2, w => (if v2 < 0 then some (w) else (tb_gI 19 0 v0 w).bind fun x1 => (if x1 < 0 then fl_t_addFour_2 n v0 v1 (v2 + (-8)) w else (tb_gI 19 0 v0 w).bind fun x2 => (tb_gN 19 4 v0 w).bind fun p3 => (tb_al p3 w).bind fun x4 => (if x2 < x4 then (tb_gN 19 4 v0 w).bind fun p5 => (tb_gI 19 0 v0 w).bind fun x6 => (tb_tI p5 x6 (((Int32.toUInt32 v1 >>> (Int32.toUInt32 v2 &&& Int32.toUInt32 31)).toInt32) &&& 255) w).bind fun w7 => (tb_gI 19 0 v0 w7).bind fun x8 => (tb_pI 19 0 v0 (x8 + 1) w7).bind fun w9 => fl_t_addFour_2 n v0 v1 (v2 + (-8)) w9 else fl_t_addFour_2 n v0 v1 (v2 + (-8)) w)))
set_option maxHeartbeats 4000000 in
set_option maxRecDepth 20000 in
theorem dl_t_addFour_2 : ∀ (n : Nat) (v0 : Nat) (v1 : Int32) (v2 : Int32) (w : tb_Hp) (o : tb_Hp), fl_t_addFour_2 n v0 v1 v2 w = some o → ∀ (r : Option Value × tb_Hp), tb_Ev tb_P 0 13 (33, [], [], o) r → tb_Ev tb_P 0 13 (3, [(0, .ref v0), (1, .int v1), (2, .int v2)], [], w) r := by
  intro n
  induction n with
  | zero =>
    intro v0 v1 v2 w o h
    cases h
  | succ n ih =>
    intro v0 v1 v2 w o h r hx
    unfold fl_t_addFour_2 at h
    refine tb_Es (k := 1) (st' := (4, [(0, .ref v0), (1, .int v1), (2, .int v2)], [.int v2], w)) rfl ?_
    refine tb_b_ilt rfl (fun hc => ?_) (fun hc => ?_)
    · rw [if_pos hc] at h
      refine tb_Es (k := 1) (st' := (33, [], [], w)) rfl ?_
      obtain rfl := Option.some.inj h
      exact hx
    · rw [if_neg hc] at h
      refine tb_Es (k := 1) (st' := (6, [(0, .ref v0), (1, .int v1), (2, .int v2)], [.ref v0], w)) rfl ?_
      replace h := Option.bind_eq_some_iff.mp h
      obtain ⟨x1, ex1, h⟩ := h
      refine tb_e_gI rfl ex1 ?_
      refine tb_b_ilt rfl (fun hc => ?_) (fun hc => ?_)
      · rw [if_pos hc] at h
        refine tb_Es (k := 3) (st' := (3, [(0, .ref v0), (1, .int v1), (2, .int (v2 + (-8)))], [], w)) rfl ?_
        exact ih v0 v1 (v2 + (-8)) w _ h r hx
      · rw [if_neg hc] at h
        refine tb_Es (k := 1) (st' := (9, [(0, .ref v0), (1, .int v1), (2, .int v2)], [.ref v0], w)) rfl ?_
        replace h := Option.bind_eq_some_iff.mp h
        obtain ⟨x2, ex2, h⟩ := h
        refine tb_e_gI rfl ex2 ?_
        refine tb_Es (k := 1) (st' := (11, [(0, .ref v0), (1, .int v1), (2, .int v2)], [.ref v0, .int x2], w)) rfl ?_
        replace h := Option.bind_eq_some_iff.mp h
        obtain ⟨p3, ep3, h⟩ := h
        refine tb_e_gN rfl ep3 ?_
        replace h := Option.bind_eq_some_iff.mp h
        obtain ⟨x4, ex4, h⟩ := h
        refine tb_e_al rfl ex4 ?_
        refine tb_b_cge rfl (fun hc => ?_) (fun hc => ?_)
        · rw [if_pos hc] at h
          refine tb_Es (k := 1) (st' := (15, [(0, .ref v0), (1, .int v1), (2, .int v2)], [.ref v0], w)) rfl ?_
          replace h := Option.bind_eq_some_iff.mp h
          obtain ⟨p5, ep5, h⟩ := h
          refine tb_e_gN rfl ep5 ?_
          refine tb_Es (k := 1) (st' := (17, [(0, .ref v0), (1, .int v1), (2, .int v2)], [.ref v0, .ref p5], w)) rfl ?_
          replace h := Option.bind_eq_some_iff.mp h
          obtain ⟨x6, ex6, h⟩ := h
          refine tb_e_gI rfl ex6 ?_
          refine tb_Es (k := 5) (st' := (23, [(0, .ref v0), (1, .int v1), (2, .int v2)], [.int (((Int32.toUInt32 v1 >>> (Int32.toUInt32 v2 &&& Int32.toUInt32 31)).toInt32) &&& 255), .int x6, .ref p5], w)) rfl ?_
          replace h := Option.bind_eq_some_iff.mp h
          obtain ⟨w7, ew7, h⟩ := h
          refine tb_e_tI rfl ew7 ?_
          refine tb_Es (k := 2) (st' := (26, [(0, .ref v0), (1, .int v1), (2, .int v2)], [.ref v0, .ref v0], w7)) rfl ?_
          replace h := Option.bind_eq_some_iff.mp h
          obtain ⟨x8, ex8, h⟩ := h
          refine tb_e_gI rfl ex8 ?_
          refine tb_Es (k := 2) (st' := (29, [(0, .ref v0), (1, .int v1), (2, .int v2)], [.int (x8 + 1), .ref v0], w7)) rfl ?_
          replace h := Option.bind_eq_some_iff.mp h
          obtain ⟨w9, ew9, h⟩ := h
          refine tb_e_pI rfl ew9 ?_
          refine tb_Es (k := 3) (st' := (3, [(0, .ref v0), (1, .int v1), (2, .int (v2 + (-8)))], [], w9)) rfl ?_
          exact ih v0 v1 (v2 + (-8)) w9 _ h r hx
        · rw [if_neg hc] at h
          refine tb_Es (k := 3) (st' := (3, [(0, .ref v0), (1, .int v1), (2, .int (v2 + (-8)))], [], w)) rfl ?_
          exact ih v0 v1 (v2 + (-8)) w _ h r hx
def fb_t_addFour (a0 : Nat) (a1 : Int32) (w : tb_Hp) : Option (tb_Hp) := (fl_t_addFour_2 1048576 a0 a1 24 w).bind fun o10 => some o10
set_option maxHeartbeats 4000000 in
set_option maxRecDepth 20000 in
theorem dc_t_addFour {a0 : Nat} {a1 : Int32} {w : tb_Hp} {o : tb_Hp} (h : fb_t_addFour a0 a1 w = some o) : tb_Ev tb_P 0 13 (0, tb_ent [.ref a0, .int a1], [], w) (none, o) := by
  unfold fb_t_addFour at h
  obtain ⟨r, hr⟩ : ∃ r : Option Value × tb_Hp, r = (none, o) := ⟨_, rfl⟩
  rw [← hr]
  show tb_Ev tb_P 0 13 (0, [(0, .ref a0), (1, .int a1)], [], w) r
  refine tb_Es (k := 3) (st' := (3, [(0, .ref a0), (1, .int a1), (2, .int 24)], [], w)) rfl ?_
  replace h := Option.bind_eq_some_iff.mp h
  obtain ⟨o10, eo10, h⟩ := h
  refine dl_t_addFour_2 _ a0 a1 24 w _ eo10 r ?_
  obtain rfl := Option.some.inj h
  subst hr
  exact tb_Er rfl rfl
/-! TannerBunting.end(I)I -/
def fb_x_end (a0 : Nat) (a1 : Int32) (w : tb_Hp) : Option (Int32 × tb_Hp) := (if a1 < 0 then some (-1, w) else (tb_gN 21 0 a0 w).bind fun p1 => (tb_gI 19 0 p1 w).bind fun x2 => (if x2 < a1 then some (-1, w) else (tb_gN 21 0 a0 w).bind fun p3 => (tb_pI 19 0 p3 a1 w).bind fun w4 => some (a1, w4)))
set_option maxHeartbeats 4000000 in
set_option maxRecDepth 20000 in
theorem dc_x_end {a0 : Nat} {a1 : Int32} {w : tb_Hp} {o : Int32 × tb_Hp} (h : fb_x_end a0 a1 w = some o) : tb_Ev tb_P 0 14 (0, tb_ent [.ref a0, .int a1], [], w) (some (.int o.1), o.2) := by
  unfold fb_x_end at h
  obtain ⟨r, hr⟩ : ∃ r : Option Value × tb_Hp, r = (some (.int o.1), o.2) := ⟨_, rfl⟩
  rw [← hr]
  show tb_Ev tb_P 0 14 (0, [(0, .ref a0), (1, .int a1)], [], w) r
  refine tb_Es (k := 1) (st' := (1, [(0, .ref a0), (1, .int a1)], [.int a1], w)) rfl ?_
  refine tb_b_ilt rfl (fun hc => ?_) (fun hc => ?_)
  · rw [if_pos hc] at h
    refine tb_Es (k := 1) (st' := (8, [(0, .ref a0), (1, .int a1)], [.int (-1)], w)) rfl ?_
    obtain rfl := Option.some.inj h
    subst hr
    exact tb_Er rfl rfl
  · rw [if_neg hc] at h
    refine tb_Es (k := 2) (st' := (4, [(0, .ref a0), (1, .int a1)], [.ref a0, .int a1], w)) rfl ?_
    replace h := Option.bind_eq_some_iff.mp h
    obtain ⟨p1, ep1, h⟩ := h
    refine tb_e_gN rfl ep1 ?_
    replace h := Option.bind_eq_some_iff.mp h
    obtain ⟨x2, ex2, h⟩ := h
    refine tb_e_gI rfl ex2 ?_
    refine tb_b_cle rfl (fun hc => ?_) (fun hc => ?_)
    · rw [if_pos hc] at h
      refine tb_Es (k := 1) (st' := (8, [(0, .ref a0), (1, .int a1)], [.int (-1)], w)) rfl ?_
      obtain rfl := Option.some.inj h
      subst hr
      exact tb_Er rfl rfl
    · rw [if_neg hc] at h
      refine tb_Es (k := 1) (st' := (10, [(0, .ref a0), (1, .int a1)], [.ref a0], w)) rfl ?_
      replace h := Option.bind_eq_some_iff.mp h
      obtain ⟨p3, ep3, h⟩ := h
      refine tb_e_gN rfl ep3 ?_
      refine tb_Es (k := 1) (st' := (12, [(0, .ref a0), (1, .int a1)], [.int a1, .ref p3], w)) rfl ?_
      replace h := Option.bind_eq_some_iff.mp h
      obtain ⟨w4, ew4, h⟩ := h
      refine tb_e_pI rfl ew4 ?_
      refine tb_Es (k := 1) (st' := (14, [(0, .ref a0), (1, .int a1)], [.int a1], w4)) rfl ?_
      obtain rfl := Option.some.inj h
      subst hr
      exact tb_Er rfl rfl
/-! java/util/Arrays.fill([II)V -/
def fl_ar_fill_5 : Nat → Nat → Int32 → Int32 → Int32 → tb_Hp → Option (tb_Hp)
  | 0, _, _, _, _, _ => none
  | n + 1, v0, v1, v2, v3, w => (if v2 < v3 then (tb_tI v0 v2 v1 w).bind fun w2 => fl_ar_fill_5 n v0 v1 (v2 + 1) v3 w2 else some (w))
set_option maxHeartbeats 4000000 in
set_option maxRecDepth 20000 in
theorem dl_ar_fill_5 : ∀ (n : Nat) (v0 : Nat) (v1 : Int32) (v2 : Int32) (v3 : Int32) (w : tb_Hp) (o : tb_Hp), fl_ar_fill_5 n v0 v1 v2 v3 w = some o → ∀ (r : Option Value × tb_Hp), tb_Ev tb_P 0 18 (16, [], [], o) r → tb_Ev tb_P 0 18 (6, [(0, .ref v0), (1, .int v1), (2, .int v2), (3, .int v3)], [], w) r := by
  intro n
  induction n with
  | zero =>
    intro v0 v1 v2 v3 w o h
    cases h
  | succ n ih =>
    intro v0 v1 v2 v3 w o h r hx
    unfold fl_ar_fill_5 at h
    refine tb_Es (k := 2) (st' := (8, [(0, .ref v0), (1, .int v1), (2, .int v2), (3, .int v3)], [.int v3, .int v2], w)) rfl ?_
    refine tb_b_cge rfl (fun hc => ?_) (fun hc => ?_)
    · rw [if_pos hc] at h
      refine tb_Es (k := 3) (st' := (12, [(0, .ref v0), (1, .int v1), (2, .int v2), (3, .int v3)], [.int v1, .int v2, .ref v0], w)) rfl ?_
      replace h := Option.bind_eq_some_iff.mp h
      obtain ⟨w2, ew2, h⟩ := h
      refine tb_e_tI rfl ew2 ?_
      refine tb_Es (k := 3) (st' := (6, [(0, .ref v0), (1, .int v1), (2, .int (v2 + 1)), (3, .int v3)], [], w2)) rfl ?_
      exact ih v0 v1 (v2 + 1) v3 w2 _ h r hx
    · rw [if_neg hc] at h
      refine tb_Es (k := 1) (st' := (16, [], [], w)) rfl ?_
      obtain rfl := Option.some.inj h
      exact hx
def fb_ar_fill (a0 : Nat) (a1 : Int32) (w : tb_Hp) : Option (tb_Hp) := (tb_al a0 w).bind fun x1 => (fl_ar_fill_5 1048576 a0 a1 0 x1 w).bind fun o3 => some o3
set_option maxHeartbeats 4000000 in
set_option maxRecDepth 20000 in
theorem dc_ar_fill {a0 : Nat} {a1 : Int32} {w : tb_Hp} {o : tb_Hp} (h : fb_ar_fill a0 a1 w = some o) : tb_Ev tb_P 0 18 (0, tb_ent [.ref a0, .int a1], [], w) (none, o) := by
  unfold fb_ar_fill at h
  obtain ⟨r, hr⟩ : ∃ r : Option Value × tb_Hp, r = (none, o) := ⟨_, rfl⟩
  rw [← hr]
  show tb_Ev tb_P 0 18 (0, [(0, .ref a0), (1, .int a1)], [], w) r
  refine tb_Es (k := 3) (st' := (3, [(2, .int 0), (0, .ref a0), (1, .int a1)], [.ref a0], w)) rfl ?_
  replace h := Option.bind_eq_some_iff.mp h
  obtain ⟨x1, ex1, h⟩ := h
  refine tb_e_al rfl ex1 ?_
  refine tb_Es (k := 2) (st' := (6, [(0, .ref a0), (1, .int a1), (2, .int 0), (3, .int x1)], [], w)) rfl ?_
  replace h := Option.bind_eq_some_iff.mp h
  obtain ⟨o3, eo3, h⟩ := h
  refine dl_ar_fill_5 _ a0 a1 0 x1 w _ eo3 r ?_
  obtain rfl := Option.some.inj h
  subst hr
  exact tb_Er rfl rfl
/-! TannerBunting$Text.byteAt(I)I -/
def fb_t_byteAt (a0 : Nat) (a1 : Int32) (w : tb_Hp) : Option (Int32 × tb_Hp) := (if a1 < 0 then some (-1, w) else (tb_gI 19 0 a0 w).bind fun x1 => (if a1 < x1 then (tb_gN 19 4 a0 w).bind fun p2 => (tb_al p2 w).bind fun x3 => (if a1 < x3 then (tb_gN 19 4 a0 w).bind fun p4 => (tb_lI [1, 9] p4 a1 w).bind fun x5 => some (x5, w) else some (-1, w)) else some (-1, w)))
set_option maxHeartbeats 4000000 in
set_option maxRecDepth 20000 in
theorem dc_t_byteAt {a0 : Nat} {a1 : Int32} {w : tb_Hp} {o : Int32 × tb_Hp} (h : fb_t_byteAt a0 a1 w = some o) : tb_Ev tb_P 0 20 (0, tb_ent [.ref a0, .int a1], [], w) (some (.int o.1), o.2) := by
  unfold fb_t_byteAt at h
  obtain ⟨r, hr⟩ : ∃ r : Option Value × tb_Hp, r = (some (.int o.1), o.2) := ⟨_, rfl⟩
  rw [← hr]
  show tb_Ev tb_P 0 20 (0, [(0, .ref a0), (1, .int a1)], [], w) r
  refine tb_Es (k := 1) (st' := (1, [(0, .ref a0), (1, .int a1)], [.int a1], w)) rfl ?_
  refine tb_b_ilt rfl (fun hc => ?_) (fun hc => ?_)
  · rw [if_pos hc] at h
    refine tb_Es (k := 1) (st' := (17, [(0, .ref a0), (1, .int a1)], [.int (-1)], w)) rfl ?_
    obtain rfl := Option.some.inj h
    subst hr
    exact tb_Er rfl rfl
  · rw [if_neg hc] at h
    refine tb_Es (k := 2) (st' := (4, [(0, .ref a0), (1, .int a1)], [.ref a0, .int a1], w)) rfl ?_
    replace h := Option.bind_eq_some_iff.mp h
    obtain ⟨x1, ex1, h⟩ := h
    refine tb_e_gI rfl ex1 ?_
    refine tb_b_cge rfl (fun hc => ?_) (fun hc => ?_)
    · rw [if_pos hc] at h
      refine tb_Es (k := 2) (st' := (8, [(0, .ref a0), (1, .int a1)], [.ref a0, .int a1], w)) rfl ?_
      replace h := Option.bind_eq_some_iff.mp h
      obtain ⟨p2, ep2, h⟩ := h
      refine tb_e_gN rfl ep2 ?_
      replace h := Option.bind_eq_some_iff.mp h
      obtain ⟨x3, ex3, h⟩ := h
      refine tb_e_al rfl ex3 ?_
      refine tb_b_cge rfl (fun hc => ?_) (fun hc => ?_)
      · rw [if_pos hc] at h
        refine tb_Es (k := 1) (st' := (12, [(0, .ref a0), (1, .int a1)], [.ref a0], w)) rfl ?_
        replace h := Option.bind_eq_some_iff.mp h
        obtain ⟨p4, ep4, h⟩ := h
        refine tb_e_gN rfl ep4 ?_
        refine tb_Es (k := 1) (st' := (14, [(0, .ref a0), (1, .int a1)], [.int a1, .ref p4], w)) rfl ?_
        replace h := Option.bind_eq_some_iff.mp h
        obtain ⟨x5, ex5, h⟩ := h
        refine tb_e_lI rfl (Or.inl ⟨rfl, rfl⟩) ex5 ?_
        refine tb_Es (k := 1) (st' := (17, [(0, .ref a0), (1, .int a1)], [.int x5], w)) rfl ?_
        obtain rfl := Option.some.inj h
        subst hr
        exact tb_Er rfl rfl
      · rw [if_neg hc] at h
        refine tb_Es (k := 1) (st' := (17, [(0, .ref a0), (1, .int a1)], [.int (-1)], w)) rfl ?_
        obtain rfl := Option.some.inj h
        subst hr
        exact tb_Er rfl rfl
    · rw [if_neg hc] at h
      refine tb_Es (k := 1) (st' := (17, [(0, .ref a0), (1, .int a1)], [.int (-1)], w)) rfl ?_
      obtain rfl := Option.some.inj h
      subst hr
      exact tb_Er rfl rfl
/-! TannerBunting$Text.isDigit(I)Z -/
def fb_t_isDigit (a0 : Int32) (w : tb_Hp) : Option (Int32 × tb_Hp) := (if a0 < 48 then some (0, w) else (if a0 ≤ 57 then some (1, w) else some (0, w)))
set_option maxHeartbeats 4000000 in
set_option maxRecDepth 20000 in
theorem dc_t_isDigit {a0 : Int32} {w : tb_Hp} {o : Int32 × tb_Hp} (h : fb_t_isDigit a0 w = some o) : tb_Ev tb_P 0 21 (0, tb_ent [.int a0], [], w) (some (.int o.1), o.2) := by
  unfold fb_t_isDigit at h
  obtain ⟨r, hr⟩ : ∃ r : Option Value × tb_Hp, r = (some (.int o.1), o.2) := ⟨_, rfl⟩
  rw [← hr]
  show tb_Ev tb_P 0 21 (0, [(0, .int a0)], [], w) r
  refine tb_Es (k := 2) (st' := (2, [(0, .int a0)], [.int 48, .int a0], w)) rfl ?_
  refine tb_b_clt rfl (fun hc => ?_) (fun hc => ?_)
  · rw [if_pos hc] at h
    refine tb_Es (k := 1) (st' := (9, [(0, .int a0)], [.int 0], w)) rfl ?_
    obtain rfl := Option.some.inj h
    subst hr
    exact tb_Er rfl rfl
  · rw [if_neg hc] at h
    refine tb_Es (k := 2) (st' := (5, [(0, .int a0)], [.int 57, .int a0], w)) rfl ?_
    refine tb_b_cgt rfl (fun hc => ?_) (fun hc => ?_)
    · rw [if_pos hc] at h
      refine tb_Es (k := 2) (st' := (9, [(0, .int a0)], [.int 1], w)) rfl ?_
      obtain rfl := Option.some.inj h
      subst hr
      exact tb_Er rfl rfl
    · rw [if_neg hc] at h
      refine tb_Es (k := 1) (st' := (9, [(0, .int a0)], [.int 0], w)) rfl ?_
      obtain rfl := Option.some.inj h
      subst hr
      exact tb_Er rfl rfl
/-! TannerBunting$Text.addToken(III)V -/
def fb_t_addToken (a0 : Nat) (a1 : Int32) (a2 : Int32) (a3 : Int32) (w : tb_Hp) : Option (tb_Hp) := (tb_gI 19 8 a0 w).bind fun x1 => (if x1 < 0 then some w else (tb_gI 19 8 a0 w).bind fun x2 => (tb_gN 19 5 a0 w).bind fun p3 => (tb_al p3 w).bind fun x4 => (if x2 < x4 then (tb_gN 19 5 a0 w).bind fun p5 => (tb_gI 19 8 a0 w).bind fun x6 => (tb_tI p5 x6 a1 w).bind fun w7 => (tb_gN 19 6 a0 w7).bind fun p8 => (tb_gI 19 8 a0 w7).bind fun x9 => (tb_tI p8 x9 a2 w7).bind fun w10 => (tb_gN 19 7 a0 w10).bind fun p11 => (tb_gI 19 8 a0 w10).bind fun x12 => (tb_tI p11 x12 a3 w10).bind fun w13 => (tb_gI 19 8 a0 w13).bind fun x14 => (tb_pI 19 8 a0 (x14 + 1) w13).bind fun w15 => some w15 else some w))
set_option maxHeartbeats 4000000 in
set_option maxRecDepth 20000 in
theorem dc_t_addToken {a0 : Nat} {a1 : Int32} {a2 : Int32} {a3 : Int32} {w : tb_Hp} {o : tb_Hp} (h : fb_t_addToken a0 a1 a2 a3 w = some o) : tb_Ev tb_P 0 23 (0, tb_ent [.ref a0, .int a1, .int a2, .int a3], [], w) (none, o) := by
  unfold fb_t_addToken at h
  obtain ⟨r, hr⟩ : ∃ r : Option Value × tb_Hp, r = (none, o) := ⟨_, rfl⟩
  rw [← hr]
  show tb_Ev tb_P 0 23 (0, [(0, .ref a0), (1, .int a1), (2, .int a2), (3, .int a3)], [], w) r
  refine tb_Es (k := 1) (st' := (1, [(0, .ref a0), (1, .int a1), (2, .int a2), (3, .int a3)], [.ref a0], w)) rfl ?_
  replace h := Option.bind_eq_some_iff.mp h
  obtain ⟨x1, ex1, h⟩ := h
  refine tb_e_gI rfl ex1 ?_
  refine tb_b_ilt rfl (fun hc => ?_) (fun hc => ?_)
  · rw [if_pos hc] at h
    obtain rfl := Option.some.inj h
    subst hr
    exact tb_Er rfl rfl
  · rw [if_neg hc] at h
    refine tb_Es (k := 1) (st' := (4, [(0, .ref a0), (1, .int a1), (2, .int a2), (3, .int a3)], [.ref a0], w)) rfl ?_
    replace h := Option.bind_eq_some_iff.mp h
    obtain ⟨x2, ex2, h⟩ := h
    refine tb_e_gI rfl ex2 ?_
    refine tb_Es (k := 1) (st' := (6, [(0, .ref a0), (1, .int a1), (2, .int a2), (3, .int a3)], [.ref a0, .int x2], w)) rfl ?_
    replace h := Option.bind_eq_some_iff.mp h
    obtain ⟨p3, ep3, h⟩ := h
    refine tb_e_gN rfl ep3 ?_
    replace h := Option.bind_eq_some_iff.mp h
    obtain ⟨x4, ex4, h⟩ := h
    refine tb_e_al rfl ex4 ?_
    refine tb_b_cge rfl (fun hc => ?_) (fun hc => ?_)
    · rw [if_pos hc] at h
      refine tb_Es (k := 1) (st' := (10, [(0, .ref a0), (1, .int a1), (2, .int a2), (3, .int a3)], [.ref a0], w)) rfl ?_
      replace h := Option.bind_eq_some_iff.mp h
      obtain ⟨p5, ep5, h⟩ := h
      refine tb_e_gN rfl ep5 ?_
      refine tb_Es (k := 1) (st' := (12, [(0, .ref a0), (1, .int a1), (2, .int a2), (3, .int a3)], [.ref a0, .ref p5], w)) rfl ?_
      replace h := Option.bind_eq_some_iff.mp h
      obtain ⟨x6, ex6, h⟩ := h
      refine tb_e_gI rfl ex6 ?_
      refine tb_Es (k := 1) (st' := (14, [(0, .ref a0), (1, .int a1), (2, .int a2), (3, .int a3)], [.int a1, .int x6, .ref p5], w)) rfl ?_
      replace h := Option.bind_eq_some_iff.mp h
      obtain ⟨w7, ew7, h⟩ := h
      refine tb_e_tI rfl ew7 ?_
      refine tb_Es (k := 1) (st' := (16, [(0, .ref a0), (1, .int a1), (2, .int a2), (3, .int a3)], [.ref a0], w7)) rfl ?_
      replace h := Option.bind_eq_some_iff.mp h
      obtain ⟨p8, ep8, h⟩ := h
      refine tb_e_gN rfl ep8 ?_
      refine tb_Es (k := 1) (st' := (18, [(0, .ref a0), (1, .int a1), (2, .int a2), (3, .int a3)], [.ref a0, .ref p8], w7)) rfl ?_
      replace h := Option.bind_eq_some_iff.mp h
      obtain ⟨x9, ex9, h⟩ := h
      refine tb_e_gI rfl ex9 ?_
      refine tb_Es (k := 1) (st' := (20, [(0, .ref a0), (1, .int a1), (2, .int a2), (3, .int a3)], [.int a2, .int x9, .ref p8], w7)) rfl ?_
      replace h := Option.bind_eq_some_iff.mp h
      obtain ⟨w10, ew10, h⟩ := h
      refine tb_e_tI rfl ew10 ?_
      refine tb_Es (k := 1) (st' := (22, [(0, .ref a0), (1, .int a1), (2, .int a2), (3, .int a3)], [.ref a0], w10)) rfl ?_
      replace h := Option.bind_eq_some_iff.mp h
      obtain ⟨p11, ep11, h⟩ := h
      refine tb_e_gN rfl ep11 ?_
      refine tb_Es (k := 1) (st' := (24, [(0, .ref a0), (1, .int a1), (2, .int a2), (3, .int a3)], [.ref a0, .ref p11], w10)) rfl ?_
      replace h := Option.bind_eq_some_iff.mp h
      obtain ⟨x12, ex12, h⟩ := h
      refine tb_e_gI rfl ex12 ?_
      refine tb_Es (k := 1) (st' := (26, [(0, .ref a0), (1, .int a1), (2, .int a2), (3, .int a3)], [.int a3, .int x12, .ref p11], w10)) rfl ?_
      replace h := Option.bind_eq_some_iff.mp h
      obtain ⟨w13, ew13, h⟩ := h
      refine tb_e_tI rfl ew13 ?_
      refine tb_Es (k := 2) (st' := (29, [(0, .ref a0), (1, .int a1), (2, .int a2), (3, .int a3)], [.ref a0, .ref a0], w13)) rfl ?_
      replace h := Option.bind_eq_some_iff.mp h
      obtain ⟨x14, ex14, h⟩ := h
      refine tb_e_gI rfl ex14 ?_
      refine tb_Es (k := 2) (st' := (32, [(0, .ref a0), (1, .int a1), (2, .int a2), (3, .int a3)], [.int (x14 + 1), .ref a0], w13)) rfl ?_
      replace h := Option.bind_eq_some_iff.mp h
      obtain ⟨w15, ew15, h⟩ := h
      refine tb_e_pI rfl ew15 ?_
      obtain rfl := Option.some.inj h
      subst hr
      exact tb_Er rfl rfl
    · rw [if_neg hc] at h
      obtain rfl := Option.some.inj h
      subst hr
      exact tb_Er rfl rfl
/-! TannerBunting$Text.isLetter(I)Z -/
def fb_t_isLetter (a0 : Int32) (w : tb_Hp) : Option (Int32 × tb_Hp) := (if a0 < 97 then some (0, w) else (if a0 ≤ 122 then some (1, w) else some (0, w)))
set_option maxHeartbeats 4000000 in
set_option maxRecDepth 20000 in
theorem dc_t_isLetter {a0 : Int32} {w : tb_Hp} {o : Int32 × tb_Hp} (h : fb_t_isLetter a0 w = some o) : tb_Ev tb_P 0 24 (0, tb_ent [.int a0], [], w) (some (.int o.1), o.2) := by
  unfold fb_t_isLetter at h
  obtain ⟨r, hr⟩ : ∃ r : Option Value × tb_Hp, r = (some (.int o.1), o.2) := ⟨_, rfl⟩
  rw [← hr]
  show tb_Ev tb_P 0 24 (0, [(0, .int a0)], [], w) r
  refine tb_Es (k := 2) (st' := (2, [(0, .int a0)], [.int 97, .int a0], w)) rfl ?_
  refine tb_b_clt rfl (fun hc => ?_) (fun hc => ?_)
  · rw [if_pos hc] at h
    refine tb_Es (k := 1) (st' := (9, [(0, .int a0)], [.int 0], w)) rfl ?_
    obtain rfl := Option.some.inj h
    subst hr
    exact tb_Er rfl rfl
  · rw [if_neg hc] at h
    refine tb_Es (k := 2) (st' := (5, [(0, .int a0)], [.int 122, .int a0], w)) rfl ?_
    refine tb_b_cgt rfl (fun hc => ?_) (fun hc => ?_)
    · rw [if_pos hc] at h
      refine tb_Es (k := 2) (st' := (9, [(0, .int a0)], [.int 1], w)) rfl ?_
      obtain rfl := Option.some.inj h
      subst hr
      exact tb_Er rfl rfl
    · rw [if_neg hc] at h
      refine tb_Es (k := 1) (st' := (9, [(0, .int a0)], [.int 0], w)) rfl ?_
      obtain rfl := Option.some.inj h
      subst hr
      exact tb_Er rfl rfl
/-! TannerBunting$Text.spellingOf(I)Ljava/lang/String; -/
def fb_t_spellingOf (a0 : Int32) (w : tb_Hp) : Option (Nat × tb_Hp) := (if a0 = 20 then some (0, w) else (if a0 = 21 then some (1, w) else (if a0 = 22 then some (2, w) else (if a0 = 23 then some (3, w) else (if a0 = 24 then some (4, w) else (if a0 = 25 then some (5, w) else (if a0 = 26 then some (6, w) else (if a0 = 27 then some (7, w) else (if a0 = 28 then some (8, w) else (if a0 = 29 then some (9, w) else (if a0 = 30 then some (10, w) else (if a0 = 31 then some (11, w) else (if a0 = 32 then some (12, w) else (if a0 = 33 then some (13, w) else (if a0 = 34 then some (14, w) else (if a0 = 35 then some (15, w) else (if a0 = 36 then some (16, w) else (if a0 = 37 then some (17, w) else (if a0 = 38 then some (18, w) else some (19, w))))))))))))))))))))
set_option maxHeartbeats 4000000 in
set_option maxRecDepth 20000 in
theorem dc_t_spellingOf {a0 : Int32} {w : tb_Hp} {o : Nat × tb_Hp} (h : fb_t_spellingOf a0 w = some o) : tb_Ev tb_P 0 26 (0, tb_ent [.int a0], [], w) (some (.retAddr o.1), o.2) := by
  unfold fb_t_spellingOf at h
  obtain ⟨r, hr⟩ : ∃ r : Option Value × tb_Hp, r = (some (.retAddr o.1), o.2) := ⟨_, rfl⟩
  rw [← hr]
  show tb_Ev tb_P 0 26 (0, [(0, .int a0)], [], w) r
  refine tb_Es (k := 1) (st' := (1, [(0, .int a0)], [.int a0], w)) rfl ?_
  refine tb_w_tab rfl (by decide) ?_
  refine tb_w_one (k := 20) (by decide) (fun hc => ?_) (fun hc => ?_)
  · rw [if_pos hc] at h
    refine tb_Es (k := 1) (st' := (3, [(0, .int a0)], [.retAddr 0], w)) rfl ?_
    obtain rfl := Option.some.inj h
    subst hr
    exact tb_Er rfl rfl
  rw [if_neg hc] at h
  refine tb_w_one (k := 21) (by decide) (fun hc => ?_) (fun hc => ?_)
  · rw [if_pos hc] at h
    refine tb_Es (k := 1) (st' := (5, [(0, .int a0)], [.retAddr 1], w)) rfl ?_
    obtain rfl := Option.some.inj h
    subst hr
    exact tb_Er rfl rfl
  rw [if_neg hc] at h
  refine tb_w_one (k := 22) (by decide) (fun hc => ?_) (fun hc => ?_)
  · rw [if_pos hc] at h
    refine tb_Es (k := 1) (st' := (7, [(0, .int a0)], [.retAddr 2], w)) rfl ?_
    obtain rfl := Option.some.inj h
    subst hr
    exact tb_Er rfl rfl
  rw [if_neg hc] at h
  refine tb_w_one (k := 23) (by decide) (fun hc => ?_) (fun hc => ?_)
  · rw [if_pos hc] at h
    refine tb_Es (k := 1) (st' := (9, [(0, .int a0)], [.retAddr 3], w)) rfl ?_
    obtain rfl := Option.some.inj h
    subst hr
    exact tb_Er rfl rfl
  rw [if_neg hc] at h
  refine tb_w_one (k := 24) (by decide) (fun hc => ?_) (fun hc => ?_)
  · rw [if_pos hc] at h
    refine tb_Es (k := 1) (st' := (11, [(0, .int a0)], [.retAddr 4], w)) rfl ?_
    obtain rfl := Option.some.inj h
    subst hr
    exact tb_Er rfl rfl
  rw [if_neg hc] at h
  refine tb_w_one (k := 25) (by decide) (fun hc => ?_) (fun hc => ?_)
  · rw [if_pos hc] at h
    refine tb_Es (k := 1) (st' := (13, [(0, .int a0)], [.retAddr 5], w)) rfl ?_
    obtain rfl := Option.some.inj h
    subst hr
    exact tb_Er rfl rfl
  rw [if_neg hc] at h
  refine tb_w_one (k := 26) (by decide) (fun hc => ?_) (fun hc => ?_)
  · rw [if_pos hc] at h
    refine tb_Es (k := 1) (st' := (15, [(0, .int a0)], [.retAddr 6], w)) rfl ?_
    obtain rfl := Option.some.inj h
    subst hr
    exact tb_Er rfl rfl
  rw [if_neg hc] at h
  refine tb_w_one (k := 27) (by decide) (fun hc => ?_) (fun hc => ?_)
  · rw [if_pos hc] at h
    refine tb_Es (k := 1) (st' := (17, [(0, .int a0)], [.retAddr 7], w)) rfl ?_
    obtain rfl := Option.some.inj h
    subst hr
    exact tb_Er rfl rfl
  rw [if_neg hc] at h
  refine tb_w_one (k := 28) (by decide) (fun hc => ?_) (fun hc => ?_)
  · rw [if_pos hc] at h
    refine tb_Es (k := 1) (st' := (19, [(0, .int a0)], [.retAddr 8], w)) rfl ?_
    obtain rfl := Option.some.inj h
    subst hr
    exact tb_Er rfl rfl
  rw [if_neg hc] at h
  refine tb_w_one (k := 29) (by decide) (fun hc => ?_) (fun hc => ?_)
  · rw [if_pos hc] at h
    refine tb_Es (k := 1) (st' := (21, [(0, .int a0)], [.retAddr 9], w)) rfl ?_
    obtain rfl := Option.some.inj h
    subst hr
    exact tb_Er rfl rfl
  rw [if_neg hc] at h
  refine tb_w_one (k := 30) (by decide) (fun hc => ?_) (fun hc => ?_)
  · rw [if_pos hc] at h
    refine tb_Es (k := 1) (st' := (23, [(0, .int a0)], [.retAddr 10], w)) rfl ?_
    obtain rfl := Option.some.inj h
    subst hr
    exact tb_Er rfl rfl
  rw [if_neg hc] at h
  refine tb_w_one (k := 31) (by decide) (fun hc => ?_) (fun hc => ?_)
  · rw [if_pos hc] at h
    refine tb_Es (k := 1) (st' := (25, [(0, .int a0)], [.retAddr 11], w)) rfl ?_
    obtain rfl := Option.some.inj h
    subst hr
    exact tb_Er rfl rfl
  rw [if_neg hc] at h
  refine tb_w_one (k := 32) (by decide) (fun hc => ?_) (fun hc => ?_)
  · rw [if_pos hc] at h
    refine tb_Es (k := 1) (st' := (27, [(0, .int a0)], [.retAddr 12], w)) rfl ?_
    obtain rfl := Option.some.inj h
    subst hr
    exact tb_Er rfl rfl
  rw [if_neg hc] at h
  refine tb_w_one (k := 33) (by decide) (fun hc => ?_) (fun hc => ?_)
  · rw [if_pos hc] at h
    refine tb_Es (k := 1) (st' := (29, [(0, .int a0)], [.retAddr 13], w)) rfl ?_
    obtain rfl := Option.some.inj h
    subst hr
    exact tb_Er rfl rfl
  rw [if_neg hc] at h
  refine tb_w_one (k := 34) (by decide) (fun hc => ?_) (fun hc => ?_)
  · rw [if_pos hc] at h
    refine tb_Es (k := 1) (st' := (31, [(0, .int a0)], [.retAddr 14], w)) rfl ?_
    obtain rfl := Option.some.inj h
    subst hr
    exact tb_Er rfl rfl
  rw [if_neg hc] at h
  refine tb_w_one (k := 35) (by decide) (fun hc => ?_) (fun hc => ?_)
  · rw [if_pos hc] at h
    refine tb_Es (k := 1) (st' := (33, [(0, .int a0)], [.retAddr 15], w)) rfl ?_
    obtain rfl := Option.some.inj h
    subst hr
    exact tb_Er rfl rfl
  rw [if_neg hc] at h
  refine tb_w_one (k := 36) (by decide) (fun hc => ?_) (fun hc => ?_)
  · rw [if_pos hc] at h
    refine tb_Es (k := 1) (st' := (35, [(0, .int a0)], [.retAddr 16], w)) rfl ?_
    obtain rfl := Option.some.inj h
    subst hr
    exact tb_Er rfl rfl
  rw [if_neg hc] at h
  refine tb_w_one (k := 37) (by decide) (fun hc => ?_) (fun hc => ?_)
  · rw [if_pos hc] at h
    refine tb_Es (k := 1) (st' := (37, [(0, .int a0)], [.retAddr 17], w)) rfl ?_
    obtain rfl := Option.some.inj h
    subst hr
    exact tb_Er rfl rfl
  rw [if_neg hc] at h
  refine tb_w_one (k := 38) (by decide) (fun hc => ?_) (fun hc => ?_)
  · rw [if_pos hc] at h
    refine tb_Es (k := 1) (st' := (39, [(0, .int a0)], [.retAddr 18], w)) rfl ?_
    obtain rfl := Option.some.inj h
    subst hr
    exact tb_Er rfl rfl
  rw [if_neg hc] at h
  refine tb_w_end ?_
  refine tb_Es (k := 1) (st' := (41, [(0, .int a0)], [.retAddr 19], w)) rfl ?_
  obtain rfl := Option.some.inj h
  subst hr
  exact tb_Er rfl rfl
/-! TannerBunting$Text.signOf(I)I -/
def fb_t_signOf (a0 : Int32) (w : tb_Hp) : Option (Int32 × tb_Hp) := (if a0 = 37 then some (11, w) else (if a0 = 42 then some (9, w) else (if a0 = 43 then some (7, w) else (if a0 = 45 then some (8, w) else (if a0 = 47 then some (10, w) else (if a0 = 59 then some (4, w) else (if a0 = 60 then some (12, w) else (if a0 = 61 then some (14, w) else (if a0 = 62 then some (16, w) else (if a0 = 91 then some (5, w) else (if a0 = 93 then some (6, w) else some (1, w))))))))))))
set_option maxHeartbeats 4000000 in
set_option maxRecDepth 20000 in
theorem dc_t_signOf {a0 : Int32} {w : tb_Hp} {o : Int32 × tb_Hp} (h : fb_t_signOf a0 w = some o) : tb_Ev tb_P 0 29 (0, tb_ent [.int a0], [], w) (some (.int o.1), o.2) := by
  unfold fb_t_signOf at h
  obtain ⟨r, hr⟩ : ∃ r : Option Value × tb_Hp, r = (some (.int o.1), o.2) := ⟨_, rfl⟩
  rw [← hr]
  show tb_Ev tb_P 0 29 (0, [(0, .int a0)], [], w) r
  refine tb_Es (k := 1) (st' := (1, [(0, .int a0)], [.int a0], w)) rfl ?_
  refine tb_w_lks rfl ?_
  refine tb_w_one (k := 37) (by decide) (fun hc => ?_) (fun hc => ?_)
  · rw [if_pos hc] at h
    refine tb_Es (k := 1) (st' := (17, [(0, .int a0)], [.int 11], w)) rfl ?_
    obtain rfl := Option.some.inj h
    subst hr
    exact tb_Er rfl rfl
  rw [if_neg hc] at h
  refine tb_w_one (k := 42) (by decide) (fun hc => ?_) (fun hc => ?_)
  · rw [if_pos hc] at h
    refine tb_Es (k := 1) (st' := (13, [(0, .int a0)], [.int 9], w)) rfl ?_
    obtain rfl := Option.some.inj h
    subst hr
    exact tb_Er rfl rfl
  rw [if_neg hc] at h
  refine tb_w_one (k := 43) (by decide) (fun hc => ?_) (fun hc => ?_)
  · rw [if_pos hc] at h
    refine tb_Es (k := 1) (st' := (9, [(0, .int a0)], [.int 7], w)) rfl ?_
    obtain rfl := Option.some.inj h
    subst hr
    exact tb_Er rfl rfl
  rw [if_neg hc] at h
  refine tb_w_one (k := 45) (by decide) (fun hc => ?_) (fun hc => ?_)
  · rw [if_pos hc] at h
    refine tb_Es (k := 1) (st' := (11, [(0, .int a0)], [.int 8], w)) rfl ?_
    obtain rfl := Option.some.inj h
    subst hr
    exact tb_Er rfl rfl
  rw [if_neg hc] at h
  refine tb_w_one (k := 47) (by decide) (fun hc => ?_) (fun hc => ?_)
  · rw [if_pos hc] at h
    refine tb_Es (k := 1) (st' := (15, [(0, .int a0)], [.int 10], w)) rfl ?_
    obtain rfl := Option.some.inj h
    subst hr
    exact tb_Er rfl rfl
  rw [if_neg hc] at h
  refine tb_w_one (k := 59) (by decide) (fun hc => ?_) (fun hc => ?_)
  · rw [if_pos hc] at h
    refine tb_Es (k := 1) (st' := (3, [(0, .int a0)], [.int 4], w)) rfl ?_
    obtain rfl := Option.some.inj h
    subst hr
    exact tb_Er rfl rfl
  rw [if_neg hc] at h
  refine tb_w_one (k := 60) (by decide) (fun hc => ?_) (fun hc => ?_)
  · rw [if_pos hc] at h
    refine tb_Es (k := 1) (st' := (19, [(0, .int a0)], [.int 12], w)) rfl ?_
    obtain rfl := Option.some.inj h
    subst hr
    exact tb_Er rfl rfl
  rw [if_neg hc] at h
  refine tb_w_one (k := 61) (by decide) (fun hc => ?_) (fun hc => ?_)
  · rw [if_pos hc] at h
    refine tb_Es (k := 1) (st' := (21, [(0, .int a0)], [.int 14], w)) rfl ?_
    obtain rfl := Option.some.inj h
    subst hr
    exact tb_Er rfl rfl
  rw [if_neg hc] at h
  refine tb_w_one (k := 62) (by decide) (fun hc => ?_) (fun hc => ?_)
  · rw [if_pos hc] at h
    refine tb_Es (k := 1) (st' := (23, [(0, .int a0)], [.int 16], w)) rfl ?_
    obtain rfl := Option.some.inj h
    subst hr
    exact tb_Er rfl rfl
  rw [if_neg hc] at h
  refine tb_w_one (k := 91) (by decide) (fun hc => ?_) (fun hc => ?_)
  · rw [if_pos hc] at h
    refine tb_Es (k := 1) (st' := (5, [(0, .int a0)], [.int 5], w)) rfl ?_
    obtain rfl := Option.some.inj h
    subst hr
    exact tb_Er rfl rfl
  rw [if_neg hc] at h
  refine tb_w_one (k := 93) (by decide) (fun hc => ?_) (fun hc => ?_)
  · rw [if_pos hc] at h
    refine tb_Es (k := 1) (st' := (7, [(0, .int a0)], [.int 6], w)) rfl ?_
    obtain rfl := Option.some.inj h
    subst hr
    exact tb_Er rfl rfl
  rw [if_neg hc] at h
  refine tb_w_end ?_
  refine tb_Es (k := 1) (st' := (25, [(0, .int a0)], [.int 1], w)) rfl ?_
  obtain rfl := Option.some.inj h
  subst hr
  exact tb_Er rfl rfl
/-! TannerBunting$Text.advance()V -/
def fj_t_advance_j34 (v0 : Nat) (v1 : Int32) (s0 : Int32) (s1 : Nat) (w : tb_Hp) : Option (tb_Hp) := (tb_pI 19 1 s1 s0 w).bind fun w4 => (if v1 = 0 then (tb_pI 19 2 v0 0 w4).bind fun w5 => some w5 else (tb_gN 19 7 v0 w4).bind fun p6 => (tb_gI 19 9 v0 w4).bind fun x7 => (tb_lI [1, 9] p6 x7 w4).bind fun x8 => (tb_pI 19 2 v0 x8 w4).bind fun w9 => some w9)
set_option maxHeartbeats 4000000 in
set_option maxRecDepth 20000 in
theorem dj_t_advance_j34 (v0 : Nat) (v1 : Int32) (s0 : Int32) (s1 : Nat) (w : tb_Hp) (o : tb_Hp) (h : fj_t_advance_j34 v0 v1 s0 s1 w = some o) (r : Option Value × tb_Hp) (hr : r = (none, o)) : tb_Ev tb_P 0 30 (36, [(0, .ref v0), (1, .int v1)], [.int s0, .ref s1], w) r := by
  unfold fj_t_advance_j34 at h
  replace h := Option.bind_eq_some_iff.mp h
  obtain ⟨w4, ew4, h⟩ := h
  refine tb_e_pI rfl ew4 ?_
  refine tb_Es (k := 2) (st' := (39, [(0, .ref v0), (1, .int v1)], [.int v1, .ref v0], w4)) rfl ?_
  refine tb_b_ieq rfl (fun hc => ?_) (fun hc => ?_)
  · rw [if_pos hc] at h
    refine tb_Es (k := 1) (st' := (47, [(0, .ref v0), (1, .int v1)], [.int 0, .ref v0], w4)) rfl ?_
    replace h := Option.bind_eq_some_iff.mp h
    obtain ⟨w5, ew5, h⟩ := h
    refine tb_e_pI rfl ew5 ?_
    obtain rfl := Option.some.inj h
    subst hr
    exact tb_Er rfl rfl
  · rw [if_neg hc] at h
    refine tb_Es (k := 1) (st' := (41, [(0, .ref v0), (1, .int v1)], [.ref v0, .ref v0], w4)) rfl ?_
    replace h := Option.bind_eq_some_iff.mp h
    obtain ⟨p6, ep6, h⟩ := h
    refine tb_e_gN rfl ep6 ?_
    refine tb_Es (k := 1) (st' := (43, [(0, .ref v0), (1, .int v1)], [.ref v0, .ref p6, .ref v0], w4)) rfl ?_
    replace h := Option.bind_eq_some_iff.mp h
    obtain ⟨x7, ex7, h⟩ := h
    refine tb_e_gI rfl ex7 ?_
    replace h := Option.bind_eq_some_iff.mp h
    obtain ⟨x8, ex8, h⟩ := h
    refine tb_e_lI rfl (Or.inl ⟨rfl, rfl⟩) ex8 ?_
    refine tb_Es (k := 1) (st' := (47, [(0, .ref v0), (1, .int v1)], [.int x8, .ref v0], w4)) rfl ?_
    replace h := Option.bind_eq_some_iff.mp h
    obtain ⟨w9, ew9, h⟩ := h
    refine tb_e_pI rfl ew9 ?_
    obtain rfl := Option.some.inj h
    subst hr
    exact tb_Er rfl rfl
def fj_t_advance_j23 (v0 : Nat) (s0 : Int32) (w : tb_Hp) : Option (tb_Hp) := (if s0 = 0 then fj_t_advance_j34 v0 s0 0 v0 w else (tb_gN 19 5 v0 w).bind fun p10 => (tb_gI 19 9 v0 w).bind fun x11 => (tb_lI [1, 9] p10 x11 w).bind fun x12 => fj_t_advance_j34 v0 s0 x12 v0 w)
set_option maxHeartbeats 4000000 in
set_option maxRecDepth 20000 in
theorem dj_t_advance_j23 (v0 : Nat) (s0 : Int32) (w : tb_Hp) (o : tb_Hp) (h : fj_t_advance_j23 v0 s0 w = some o) (r : Option Value × tb_Hp) (hr : r = (none, o)) : tb_Ev tb_P 0 30 (24, [(0, .ref v0)], [.int s0], w) r := by
  unfold fj_t_advance_j23 at h
  refine tb_Es (k := 3) (st' := (27, [(1, .int s0), (0, .ref v0)], [.int s0, .ref v0], w)) rfl ?_
  refine tb_b_ieq rfl (fun hc => ?_) (fun hc => ?_)
  · rw [if_pos hc] at h
    refine tb_Es (k := 2) (st' := (36, [(0, .ref v0), (1, .int s0)], [.int 0, .ref v0], w)) rfl ?_
    exact dj_t_advance_j34 v0 s0 0 v0 w _ h r hr
  · rw [if_neg hc] at h
    refine tb_Es (k := 1) (st' := (29, [(1, .int s0), (0, .ref v0)], [.ref v0, .ref v0], w)) rfl ?_
    replace h := Option.bind_eq_some_iff.mp h
    obtain ⟨p10, ep10, h⟩ := h
    refine tb_e_gN rfl ep10 ?_
    refine tb_Es (k := 1) (st' := (31, [(1, .int s0), (0, .ref v0)], [.ref v0, .ref p10, .ref v0], w)) rfl ?_
    replace h := Option.bind_eq_some_iff.mp h
    obtain ⟨x11, ex11, h⟩ := h
    refine tb_e_gI rfl ex11 ?_
    replace h := Option.bind_eq_some_iff.mp h
    obtain ⟨x12, ex12, h⟩ := h
    refine tb_e_lI rfl (Or.inl ⟨rfl, rfl⟩) ex12 ?_
    refine tb_Es (k := 2) (st' := (36, [(0, .ref v0), (1, .int s0)], [.int x12, .ref v0], w)) rfl ?_
    exact dj_t_advance_j34 v0 s0 x12 v0 w _ h r hr
def fb_t_advance (a0 : Nat) (w : tb_Hp) : Option (tb_Hp) := (tb_gI 19 9 a0 w).bind fun x1 => (tb_pI 19 9 a0 (x1 + 1) w).bind fun w2 => (tb_gI 19 9 a0 w2).bind fun x3 => (if x3 < 0 then fj_t_advance_j23 a0 0 w2 else (tb_gI 19 9 a0 w2).bind fun x13 => (tb_gI 19 8 a0 w2).bind fun x14 => (if x13 < x14 then (tb_gI 19 9 a0 w2).bind fun x15 => (tb_gN 19 5 a0 w2).bind fun p16 => (tb_al p16 w2).bind fun x17 => (if x15 < x17 then fj_t_advance_j23 a0 1 w2 else fj_t_advance_j23 a0 0 w2) else fj_t_advance_j23 a0 0 w2))
set_option maxHeartbeats 4000000 in
set_option maxRecDepth 20000 in
theorem dc_t_advance {a0 : Nat} {w : tb_Hp} {o : tb_Hp} (h : fb_t_advance a0 w = some o) : tb_Ev tb_P 0 30 (0, tb_ent [.ref a0], [], w) (none, o) := by
  unfold fb_t_advance at h
  obtain ⟨r, hr⟩ : ∃ r : Option Value × tb_Hp, r = (none, o) := ⟨_, rfl⟩
  rw [← hr]
  show tb_Ev tb_P 0 30 (0, [(0, .ref a0)], [], w) r
  refine tb_Es (k := 2) (st' := (2, [(0, .ref a0)], [.ref a0, .ref a0], w)) rfl ?_
  replace h := Option.bind_eq_some_iff.mp h
  obtain ⟨x1, ex1, h⟩ := h
  refine tb_e_gI rfl ex1 ?_
  refine tb_Es (k := 2) (st' := (5, [(0, .ref a0)], [.int (x1 + 1), .ref a0], w)) rfl ?_
  replace h := Option.bind_eq_some_iff.mp h
  obtain ⟨w2, ew2, h⟩ := h
  refine tb_e_pI rfl ew2 ?_
  refine tb_Es (k := 1) (st' := (7, [(0, .ref a0)], [.ref a0], w2)) rfl ?_
  replace h := Option.bind_eq_some_iff.mp h
  obtain ⟨x3, ex3, h⟩ := h
  refine tb_e_gI rfl ex3 ?_
  refine tb_b_ilt rfl (fun hc => ?_) (fun hc => ?_)
  · rw [if_pos hc] at h
    refine tb_Es (k := 2) (st' := (24, [(0, .ref a0)], [.int 0], w2)) rfl ?_
    exact dj_t_advance_j23 a0 0 w2 _ h r hr
  · rw [if_neg hc] at h
    refine tb_Es (k := 1) (st' := (10, [(0, .ref a0)], [.ref a0], w2)) rfl ?_
    replace h := Option.bind_eq_some_iff.mp h
    obtain ⟨x13, ex13, h⟩ := h
    refine tb_e_gI rfl ex13 ?_
    refine tb_Es (k := 1) (st' := (12, [(0, .ref a0)], [.ref a0, .int x13], w2)) rfl ?_
    replace h := Option.bind_eq_some_iff.mp h
    obtain ⟨x14, ex14, h⟩ := h
    refine tb_e_gI rfl ex14 ?_
    refine tb_b_cge rfl (fun hc => ?_) (fun hc => ?_)
    · rw [if_pos hc] at h
      refine tb_Es (k := 1) (st' := (15, [(0, .ref a0)], [.ref a0], w2)) rfl ?_
      replace h := Option.bind_eq_some_iff.mp h
      obtain ⟨x15, ex15, h⟩ := h
      refine tb_e_gI rfl ex15 ?_
      refine tb_Es (k := 1) (st' := (17, [(0, .ref a0)], [.ref a0, .int x15], w2)) rfl ?_
      replace h := Option.bind_eq_some_iff.mp h
      obtain ⟨p16, ep16, h⟩ := h
      refine tb_e_gN rfl ep16 ?_
      replace h := Option.bind_eq_some_iff.mp h
      obtain ⟨x17, ex17, h⟩ := h
      refine tb_e_al rfl ex17 ?_
      refine tb_b_cge rfl (fun hc => ?_) (fun hc => ?_)
      · rw [if_pos hc] at h
        refine tb_Es (k := 3) (st' := (24, [(0, .ref a0)], [.int 1], w2)) rfl ?_
        exact dj_t_advance_j23 a0 1 w2 _ h r hr
      · rw [if_neg hc] at h
        refine tb_Es (k := 2) (st' := (24, [(0, .ref a0)], [.int 0], w2)) rfl ?_
        exact dj_t_advance_j23 a0 0 w2 _ h r hr
    · rw [if_neg hc] at h
      refine tb_Es (k := 2) (st' := (24, [(0, .ref a0)], [.int 0], w2)) rfl ?_
      exact dj_t_advance_j23 a0 0 w2 _ h r hr
/-! TannerBunting$Text.fail(I)V -/
def fj_t_fail_j25 (v0 : Nat) (w : tb_Hp) : Option (tb_Hp) := (tb_gI 19 8 v0 w).bind fun x3 => (tb_pI 19 9 v0 x3 w).bind fun w4 => (tb_pI 19 1 v0 0 w4).bind fun w5 => some w5
set_option maxHeartbeats 4000000 in
set_option maxRecDepth 20000 in
theorem dj_t_fail_j25 (v0 : Nat) (w : tb_Hp) (o : tb_Hp) (h : fj_t_fail_j25 v0 w = some o) (r : Option Value × tb_Hp) (hr : r = (none, o)) : tb_Ev tb_P 0 32 (26, [(0, .ref v0)], [], w) r := by
  unfold fj_t_fail_j25 at h
  refine tb_Es (k := 2) (st' := (28, [(0, .ref v0)], [.ref v0, .ref v0], w)) rfl ?_
  replace h := Option.bind_eq_some_iff.mp h
  obtain ⟨x3, ex3, h⟩ := h
  refine tb_e_gI rfl ex3 ?_
  replace h := Option.bind_eq_some_iff.mp h
  obtain ⟨w4, ew4, h⟩ := h
  refine tb_e_pI rfl ew4 ?_
  refine tb_Es (k := 2) (st' := (32, [(0, .ref v0)], [.int 0, .ref v0], w4)) rfl ?_
  replace h := Option.bind_eq_some_iff.mp h
  obtain ⟨w5, ew5, h⟩ := h
  refine tb_e_pI rfl ew5 ?_
  obtain rfl := Option.some.inj h
  subst hr
  exact tb_Er rfl rfl
def fb_t_fail (a0 : Nat) (a1 : Int32) (w : tb_Hp) : Option (tb_Hp) := (tb_gI 19 3 a0 w).bind fun x1 => (if x1 = 0 then (tb_gI 19 9 a0 w).bind fun x2 => (if x2 < 0 then fj_t_fail_j25 a0 w else (tb_gI 19 9 a0 w).bind fun x6 => (tb_gN 19 6 a0 w).bind fun p7 => (tb_al p7 w).bind fun x8 => (if x6 < x8 then (tb_gN 19 6 a0 w).bind fun p9 => (tb_gI 19 9 a0 w).bind fun x10 => (tb_lI [1, 9] p9 x10 w).bind fun x11 => (tb_pI 19 3 a0 ((1 + (8 * x11)) + a1) w).bind fun w12 => fj_t_fail_j25 a0 w12 else fj_t_fail_j25 a0 w)) else fj_t_fail_j25 a0 w)
set_option maxHeartbeats 4000000 in
set_option maxRecDepth 20000 in
theorem dc_t_fail {a0 : Nat} {a1 : Int32} {w : tb_Hp} {o : tb_Hp} (h : fb_t_fail a0 a1 w = some o) : tb_Ev tb_P 0 32 (0, tb_ent [.ref a0, .int a1], [], w) (none, o) := by
  unfold fb_t_fail at h
  obtain ⟨r, hr⟩ : ∃ r : Option Value × tb_Hp, r = (none, o) := ⟨_, rfl⟩
  rw [← hr]
  show tb_Ev tb_P 0 32 (0, [(0, .ref a0), (1, .int a1)], [], w) r
  refine tb_Es (k := 1) (st' := (1, [(0, .ref a0), (1, .int a1)], [.ref a0], w)) rfl ?_
  replace h := Option.bind_eq_some_iff.mp h
  obtain ⟨x1, ex1, h⟩ := h
  refine tb_e_gI rfl ex1 ?_
  refine tb_b_ine rfl (fun hc => ?_) (fun hc => ?_)
  · rw [if_pos hc] at h
    refine tb_Es (k := 1) (st' := (4, [(0, .ref a0), (1, .int a1)], [.ref a0], w)) rfl ?_
    replace h := Option.bind_eq_some_iff.mp h
    obtain ⟨x2, ex2, h⟩ := h
    refine tb_e_gI rfl ex2 ?_
    refine tb_b_ilt rfl (fun hc => ?_) (fun hc => ?_)
    · rw [if_pos hc] at h
      refine tb_Es (k := 1) (st' := (26, [(0, .ref a0)], [], w)) rfl ?_
      exact dj_t_fail_j25 a0 w _ h r hr
    · rw [if_neg hc] at h
      refine tb_Es (k := 1) (st' := (7, [(0, .ref a0), (1, .int a1)], [.ref a0], w)) rfl ?_
      replace h := Option.bind_eq_some_iff.mp h
      obtain ⟨x6, ex6, h⟩ := h
      refine tb_e_gI rfl ex6 ?_
      refine tb_Es (k := 1) (st' := (9, [(0, .ref a0), (1, .int a1)], [.ref a0, .int x6], w)) rfl ?_
      replace h := Option.bind_eq_some_iff.mp h
      obtain ⟨p7, ep7, h⟩ := h
      refine tb_e_gN rfl ep7 ?_
      replace h := Option.bind_eq_some_iff.mp h
      obtain ⟨x8, ex8, h⟩ := h
      refine tb_e_al rfl ex8 ?_
      refine tb_b_cge rfl (fun hc => ?_) (fun hc => ?_)
      · rw [if_pos hc] at h
        refine tb_Es (k := 4) (st' := (16, [(0, .ref a0), (1, .int a1)], [.ref a0, .int 8, .int 1, .ref a0], w)) rfl ?_
        replace h := Option.bind_eq_some_iff.mp h
        obtain ⟨p9, ep9, h⟩ := h
        refine tb_e_gN rfl ep9 ?_
        refine tb_Es (k := 1) (st' := (18, [(0, .ref a0), (1, .int a1)], [.ref a0, .ref p9, .int 8, .int 1, .ref a0], w)) rfl ?_
        replace h := Option.bind_eq_some_iff.mp h
        obtain ⟨x10, ex10, h⟩ := h
        refine tb_e_gI rfl ex10 ?_
        replace h := Option.bind_eq_some_iff.mp h
        obtain ⟨x11, ex11, h⟩ := h
        refine tb_e_lI rfl (Or.inl ⟨rfl, rfl⟩) ex11 ?_
        refine tb_Es (k := 4) (st' := (24, [(0, .ref a0), (1, .int a1)], [.int ((1 + (8 * x11)) + a1), .ref a0], w)) rfl ?_
        replace h := Option.bind_eq_some_iff.mp h
        obtain ⟨w12, ew12, h⟩ := h
        refine tb_e_pI rfl ew12 ?_
        refine tb_Es (k := 1) (st' := (26, [(0, .ref a0)], [], w12)) rfl ?_
        exact dj_t_fail_j25 a0 w12 _ h r hr
      · rw [if_neg hc] at h
        refine tb_Es (k := 1) (st' := (26, [(0, .ref a0)], [], w)) rfl ?_
        exact dj_t_fail_j25 a0 w _ h r hr
  · rw [if_neg hc] at h
    refine tb_Es (k := 1) (st' := (26, [(0, .ref a0)], [], w)) rfl ?_
    exact dj_t_fail_j25 a0 w _ h r hr
/-! TannerBunting.within(III)Z -/
def fb_x_within (a0 : Int32) (a1 : Int32) (a2 : Int32) (w : tb_Hp) : Option (Int32 × tb_Hp) := (if a0 < a1 then some (0, w) else (if a0 ≤ a2 then some (1, w) else some (0, w)))
set_option maxHeartbeats 4000000 in
set_option maxRecDepth 20000 in
theorem dc_x_within {a0 : Int32} {a1 : Int32} {a2 : Int32} {w : tb_Hp} {o : Int32 × tb_Hp} (h : fb_x_within a0 a1 a2 w = some o) : tb_Ev tb_P 0 34 (0, tb_ent [.int a0, .int a1, .int a2], [], w) (some (.int o.1), o.2) := by
  unfold fb_x_within at h
  obtain ⟨r, hr⟩ : ∃ r : Option Value × tb_Hp, r = (some (.int o.1), o.2) := ⟨_, rfl⟩
  rw [← hr]
  show tb_Ev tb_P 0 34 (0, [(0, .int a0), (1, .int a1), (2, .int a2)], [], w) r
  refine tb_Es (k := 2) (st' := (2, [(0, .int a0), (1, .int a1), (2, .int a2)], [.int a1, .int a0], w)) rfl ?_
  refine tb_b_clt rfl (fun hc => ?_) (fun hc => ?_)
  · rw [if_pos hc] at h
    refine tb_Es (k := 1) (st' := (9, [(0, .int a0), (1, .int a1), (2, .int a2)], [.int 0], w)) rfl ?_
    obtain rfl := Option.some.inj h
    subst hr
    exact tb_Er rfl rfl
  · rw [if_neg hc] at h
    refine tb_Es (k := 2) (st' := (5, [(0, .int a0), (1, .int a1), (2, .int a2)], [.int a2, .int a0], w)) rfl ?_
    refine tb_b_cgt rfl (fun hc => ?_) (fun hc => ?_)
    · rw [if_pos hc] at h
      refine tb_Es (k := 2) (st' := (9, [(0, .int a0), (1, .int a1), (2, .int a2)], [.int 1], w)) rfl ?_
      obtain rfl := Option.some.inj h
      subst hr
      exact tb_Er rfl rfl
    · rw [if_neg hc] at h
      refine tb_Es (k := 1) (st' := (9, [(0, .int a0), (1, .int a1), (2, .int a2)], [.int 0], w)) rfl ?_
      obtain rfl := Option.some.inj h
      subst hr
      exact tb_Er rfl rfl
/-! TannerBunting$Street.houses()I -/
def fb_s_houses (a0 : Nat) (w : tb_Hp) : Option (Int32 × tb_Hp) := (tb_gI 17 0 a0 w).bind fun x1 => some (2 * x1, w)
set_option maxHeartbeats 4000000 in
set_option maxRecDepth 20000 in
theorem dc_s_houses {a0 : Nat} {w : tb_Hp} {o : Int32 × tb_Hp} (h : fb_s_houses a0 w = some o) : tb_Ev tb_P 0 36 (0, tb_ent [.ref a0], [], w) (some (.int o.1), o.2) := by
  unfold fb_s_houses at h
  obtain ⟨r, hr⟩ : ∃ r : Option Value × tb_Hp, r = (some (.int o.1), o.2) := ⟨_, rfl⟩
  rw [← hr]
  show tb_Ev tb_P 0 36 (0, [(0, .ref a0)], [], w) r
  refine tb_Es (k := 2) (st' := (2, [(0, .ref a0)], [.ref a0, .int 2], w)) rfl ?_
  replace h := Option.bind_eq_some_iff.mp h
  obtain ⟨x1, ex1, h⟩ := h
  refine tb_e_gI rfl ex1 ?_
  refine tb_Es (k := 1) (st' := (4, [(0, .ref a0)], [.int (2 * x1)], w)) rfl ?_
  obtain rfl := Option.some.inj h
  subst hr
  exact tb_Er rfl rfl
/-! TannerBunting$Street.isHouse(I)Z -/
def fb_s_isHouse (a0 : Nat) (a1 : Int32) (w : tb_Hp) : Option (Int32 × tb_Hp) := (if a1 < 0 then some (0, w) else (tb_gI 17 0 a0 w).bind fun x1 => (if a1 < (2 * x1) then (if a1 < 10 then some (1, w) else some (0, w)) else some (0, w)))
set_option maxHeartbeats 4000000 in
set_option maxRecDepth 20000 in
theorem dc_s_isHouse {a0 : Nat} {a1 : Int32} {w : tb_Hp} {o : Int32 × tb_Hp} (h : fb_s_isHouse a0 a1 w = some o) : tb_Ev tb_P 0 38 (0, tb_ent [.ref a0, .int a1], [], w) (some (.int o.1), o.2) := by
  unfold fb_s_isHouse at h
  obtain ⟨r, hr⟩ : ∃ r : Option Value × tb_Hp, r = (some (.int o.1), o.2) := ⟨_, rfl⟩
  rw [← hr]
  show tb_Ev tb_P 0 38 (0, [(0, .ref a0), (1, .int a1)], [], w) r
  refine tb_Es (k := 1) (st' := (1, [(0, .ref a0), (1, .int a1)], [.int a1], w)) rfl ?_
  refine tb_b_ilt rfl (fun hc => ?_) (fun hc => ?_)
  · rw [if_pos hc] at h
    refine tb_Es (k := 1) (st' := (14, [(0, .ref a0), (1, .int a1)], [.int 0], w)) rfl ?_
    obtain rfl := Option.some.inj h
    subst hr
    exact tb_Er rfl rfl
  · rw [if_neg hc] at h
    refine tb_Es (k := 3) (st' := (5, [(0, .ref a0), (1, .int a1)], [.ref a0, .int 2, .int a1], w)) rfl ?_
    replace h := Option.bind_eq_some_iff.mp h
    obtain ⟨x1, ex1, h⟩ := h
    refine tb_e_gI rfl ex1 ?_
    refine tb_Es (k := 1) (st' := (7, [(0, .ref a0), (1, .int a1)], [.int (2 * x1), .int a1], w)) rfl ?_
    refine tb_b_cge rfl (fun hc => ?_) (fun hc => ?_)
    · rw [if_pos hc] at h
      refine tb_Es (k := 2) (st' := (10, [(0, .ref a0), (1, .int a1)], [.int 10, .int a1], w)) rfl ?_
      refine tb_b_cge rfl (fun hc => ?_) (fun hc => ?_)
      · rw [if_pos hc] at h
        refine tb_Es (k := 2) (st' := (14, [(0, .ref a0), (1, .int a1)], [.int 1], w)) rfl ?_
        obtain rfl := Option.some.inj h
        subst hr
        exact tb_Er rfl rfl
      · rw [if_neg hc] at h
        refine tb_Es (k := 1) (st' := (14, [(0, .ref a0), (1, .int a1)], [.int 0], w)) rfl ?_
        obtain rfl := Option.some.inj h
        subst hr
        exact tb_Er rfl rfl
    · rw [if_neg hc] at h
      refine tb_Es (k := 1) (st' := (14, [(0, .ref a0), (1, .int a1)], [.int 0], w)) rfl ?_
      obtain rfl := Option.some.inj h
      subst hr
      exact tb_Er rfl rfl
/-! java/lang/Math.max(II)I -/
def fb_ma_max (a0 : Int32) (a1 : Int32) (w : tb_Hp) : Option (Int32 × tb_Hp) := (if a0 < a1 then some (a1, w) else some (a0, w))
set_option maxHeartbeats 4000000 in
set_option maxRecDepth 20000 in
theorem dc_ma_max {a0 : Int32} {a1 : Int32} {w : tb_Hp} {o : Int32 × tb_Hp} (h : fb_ma_max a0 a1 w = some o) : tb_Ev tb_P 0 42 (0, tb_ent [.int a0, .int a1], [], w) (some (.int o.1), o.2) := by
  unfold fb_ma_max at h
  obtain ⟨r, hr⟩ : ∃ r : Option Value × tb_Hp, r = (some (.int o.1), o.2) := ⟨_, rfl⟩
  rw [← hr]
  show tb_Ev tb_P 0 42 (0, [(0, .int a0), (1, .int a1)], [], w) r
  refine tb_Es (k := 2) (st' := (2, [(0, .int a0), (1, .int a1)], [.int a1, .int a0], w)) rfl ?_
  refine tb_b_clt rfl (fun hc => ?_) (fun hc => ?_)
  · rw [if_pos hc] at h
    refine tb_Es (k := 1) (st' := (6, [(0, .int a0), (1, .int a1)], [.int a1], w)) rfl ?_
    obtain rfl := Option.some.inj h
    subst hr
    exact tb_Er rfl rfl
  · rw [if_neg hc] at h
    refine tb_Es (k := 2) (st' := (6, [(0, .int a0), (1, .int a1)], [.int a0], w)) rfl ?_
    obtain rfl := Option.some.inj h
    subst hr
    exact tb_Er rfl rfl
/-! TannerBunting$Street.copyFrom(LTannerBunting$Street;)V -/
def fb_s_copyFrom (a0 : Nat) (a1 : Nat) (w : tb_Hp) : Option (tb_Hp) := (tb_gI 17 0 a1 w).bind fun x1 => (tb_pI 17 0 a0 x1 w).bind fun w2 => (tb_gI 17 1 a1 w2).bind fun x3 => (tb_pI 17 1 a0 x3 w2).bind fun w4 => (tb_gI 17 2 a1 w4).bind fun x5 => (tb_pI 17 2 a0 x5 w4).bind fun w6 => (tb_gI 17 3 a1 w6).bind fun x7 => (tb_pI 17 3 a0 x7 w6).bind fun w8 => (tb_gI 17 4 a1 w8).bind fun x9 => (tb_pI 17 4 a0 x9 w8).bind fun w10 => (tb_gI 17 5 a1 w10).bind fun x11 => (tb_pI 17 5 a0 x11 w10).bind fun w12 => (tb_gN 17 6 a1 w12).bind fun p13 => (tb_gN 17 6 a0 w12).bind fun p14 => (tb_cy 10 0 p14 0 p13 w12).bind fun w15 => (tb_gN 17 7 a1 w15).bind fun p16 => (tb_gN 17 7 a0 w15).bind fun p17 => (tb_cy 10 0 p17 0 p16 w15).bind fun w18 => (tb_gN 17 8 a1 w18).bind fun p19 => (tb_gN 17 8 a0 w18).bind fun p20 => (tb_cy 8 0 p20 0 p19 w18).bind fun w21 => (tb_gN 17 9 a1 w21).bind fun p22 => (tb_gN 17 9 a0 w21).bind fun p23 => (tb_cy 8 0 p23 0 p22 w21).bind fun w24 => (tb_gN 17 10 a1 w24).bind fun p25 => (tb_gN 17 10 a0 w24).bind fun p26 => (tb_cy 8 0 p26 0 p25 w24).bind fun w27 => some w27
set_option maxHeartbeats 4000000 in
set_option maxRecDepth 20000 in
theorem dc_s_copyFrom {a0 : Nat} {a1 : Nat} {w : tb_Hp} {o : tb_Hp} (h : fb_s_copyFrom a0 a1 w = some o) : tb_Ev tb_P 0 45 (0, tb_ent [.ref a0, .ref a1], [], w) (none, o) := by
  unfold fb_s_copyFrom at h
  obtain ⟨r, hr⟩ : ∃ r : Option Value × tb_Hp, r = (none, o) := ⟨_, rfl⟩
  rw [← hr]
  show tb_Ev tb_P 0 45 (0, [(0, .ref a0), (1, .ref a1)], [], w) r
  refine tb_Es (k := 2) (st' := (2, [(0, .ref a0), (1, .ref a1)], [.ref a1, .ref a0], w)) rfl ?_
  replace h := Option.bind_eq_some_iff.mp h
  obtain ⟨x1, ex1, h⟩ := h
  refine tb_e_gI rfl ex1 ?_
  replace h := Option.bind_eq_some_iff.mp h
  obtain ⟨w2, ew2, h⟩ := h
  refine tb_e_pI rfl ew2 ?_
  refine tb_Es (k := 2) (st' := (6, [(0, .ref a0), (1, .ref a1)], [.ref a1, .ref a0], w2)) rfl ?_
  replace h := Option.bind_eq_some_iff.mp h
  obtain ⟨x3, ex3, h⟩ := h
  refine tb_e_gI rfl ex3 ?_
  replace h := Option.bind_eq_some_iff.mp h
  obtain ⟨w4, ew4, h⟩ := h
  refine tb_e_pI rfl ew4 ?_
  refine tb_Es (k := 2) (st' := (10, [(0, .ref a0), (1, .ref a1)], [.ref a1, .ref a0], w4)) rfl ?_
  replace h := Option.bind_eq_some_iff.mp h
  obtain ⟨x5, ex5, h⟩ := h
  refine tb_e_gI rfl ex5 ?_
  replace h := Option.bind_eq_some_iff.mp h
  obtain ⟨w6, ew6, h⟩ := h
  refine tb_e_pI rfl ew6 ?_
  refine tb_Es (k := 2) (st' := (14, [(0, .ref a0), (1, .ref a1)], [.ref a1, .ref a0], w6)) rfl ?_
  replace h := Option.bind_eq_some_iff.mp h
  obtain ⟨x7, ex7, h⟩ := h
  refine tb_e_gI rfl ex7 ?_
  replace h := Option.bind_eq_some_iff.mp h
  obtain ⟨w8, ew8, h⟩ := h
  refine tb_e_pI rfl ew8 ?_
  refine tb_Es (k := 2) (st' := (18, [(0, .ref a0), (1, .ref a1)], [.ref a1, .ref a0], w8)) rfl ?_
  replace h := Option.bind_eq_some_iff.mp h
  obtain ⟨x9, ex9, h⟩ := h
  refine tb_e_gI rfl ex9 ?_
  replace h := Option.bind_eq_some_iff.mp h
  obtain ⟨w10, ew10, h⟩ := h
  refine tb_e_pI rfl ew10 ?_
  refine tb_Es (k := 2) (st' := (22, [(0, .ref a0), (1, .ref a1)], [.ref a1, .ref a0], w10)) rfl ?_
  replace h := Option.bind_eq_some_iff.mp h
  obtain ⟨x11, ex11, h⟩ := h
  refine tb_e_gI rfl ex11 ?_
  replace h := Option.bind_eq_some_iff.mp h
  obtain ⟨w12, ew12, h⟩ := h
  refine tb_e_pI rfl ew12 ?_
  refine tb_Es (k := 1) (st' := (25, [(0, .ref a0), (1, .ref a1)], [.ref a1], w12)) rfl ?_
  replace h := Option.bind_eq_some_iff.mp h
  obtain ⟨p13, ep13, h⟩ := h
  refine tb_e_gN rfl ep13 ?_
  refine tb_Es (k := 2) (st' := (28, [(0, .ref a0), (1, .ref a1)], [.ref a0, .int 0, .ref p13], w12)) rfl ?_
  replace h := Option.bind_eq_some_iff.mp h
  obtain ⟨p14, ep14, h⟩ := h
  refine tb_e_gN rfl ep14 ?_
  refine tb_Es (k := 2) (st' := (31, [(0, .ref a0), (1, .ref a1)], [.int 10, .int 0, .ref p14, .int 0, .ref p13], w12)) rfl ?_
  replace h := Option.bind_eq_some_iff.mp h
  obtain ⟨w15, ew15, h⟩ := h
  refine tb_e_cy rfl rfl ew15 ?_
  refine tb_Es (k := 1) (st' := (33, [(0, .ref a0), (1, .ref a1)], [.ref a1], w15)) rfl ?_
  replace h := Option.bind_eq_some_iff.mp h
  obtain ⟨p16, ep16, h⟩ := h
  refine tb_e_gN rfl ep16 ?_
  refine tb_Es (k := 2) (st' := (36, [(0, .ref a0), (1, .ref a1)], [.ref a0, .int 0, .ref p16], w15)) rfl ?_
  replace h := Option.bind_eq_some_iff.mp h
  obtain ⟨p17, ep17, h⟩ := h
  refine tb_e_gN rfl ep17 ?_
  refine tb_Es (k := 2) (st' := (39, [(0, .ref a0), (1, .ref a1)], [.int 10, .int 0, .ref p17, .int 0, .ref p16], w15)) rfl ?_
  replace h := Option.bind_eq_some_iff.mp h
  obtain ⟨w18, ew18, h⟩ := h
  refine tb_e_cy rfl rfl ew18 ?_
  refine tb_Es (k := 1) (st' := (41, [(0, .ref a0), (1, .ref a1)], [.ref a1], w18)) rfl ?_
  replace h := Option.bind_eq_some_iff.mp h
  obtain ⟨p19, ep19, h⟩ := h
  refine tb_e_gN rfl ep19 ?_
  refine tb_Es (k := 2) (st' := (44, [(0, .ref a0), (1, .ref a1)], [.ref a0, .int 0, .ref p19], w18)) rfl ?_
  replace h := Option.bind_eq_some_iff.mp h
  obtain ⟨p20, ep20, h⟩ := h
  refine tb_e_gN rfl ep20 ?_
  refine tb_Es (k := 2) (st' := (47, [(0, .ref a0), (1, .ref a1)], [.int 8, .int 0, .ref p20, .int 0, .ref p19], w18)) rfl ?_
  replace h := Option.bind_eq_some_iff.mp h
  obtain ⟨w21, ew21, h⟩ := h
  refine tb_e_cy rfl rfl ew21 ?_
  refine tb_Es (k := 1) (st' := (49, [(0, .ref a0), (1, .ref a1)], [.ref a1], w21)) rfl ?_
  replace h := Option.bind_eq_some_iff.mp h
  obtain ⟨p22, ep22, h⟩ := h
  refine tb_e_gN rfl ep22 ?_
  refine tb_Es (k := 2) (st' := (52, [(0, .ref a0), (1, .ref a1)], [.ref a0, .int 0, .ref p22], w21)) rfl ?_
  replace h := Option.bind_eq_some_iff.mp h
  obtain ⟨p23, ep23, h⟩ := h
  refine tb_e_gN rfl ep23 ?_
  refine tb_Es (k := 2) (st' := (55, [(0, .ref a0), (1, .ref a1)], [.int 8, .int 0, .ref p23, .int 0, .ref p22], w21)) rfl ?_
  replace h := Option.bind_eq_some_iff.mp h
  obtain ⟨w24, ew24, h⟩ := h
  refine tb_e_cy rfl rfl ew24 ?_
  refine tb_Es (k := 1) (st' := (57, [(0, .ref a0), (1, .ref a1)], [.ref a1], w24)) rfl ?_
  replace h := Option.bind_eq_some_iff.mp h
  obtain ⟨p25, ep25, h⟩ := h
  refine tb_e_gN rfl ep25 ?_
  refine tb_Es (k := 2) (st' := (60, [(0, .ref a0), (1, .ref a1)], [.ref a0, .int 0, .ref p25], w24)) rfl ?_
  replace h := Option.bind_eq_some_iff.mp h
  obtain ⟨p26, ep26, h⟩ := h
  refine tb_e_gN rfl ep26 ?_
  refine tb_Es (k := 2) (st' := (63, [(0, .ref a0), (1, .ref a1)], [.int 8, .int 0, .ref p26, .int 0, .ref p25], w24)) rfl ?_
  replace h := Option.bind_eq_some_iff.mp h
  obtain ⟨w27, ew27, h⟩ := h
  refine tb_e_cy rfl rfl ew27 ?_
  obtain rfl := Option.some.inj h
  subst hr
  exact tb_Er rfl rfl
