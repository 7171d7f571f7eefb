/-! TannerBunting$Notes.lastYear()I -/
def fl_n_lastYear_4 : Nat → Nat → Int32 → Int32 → tb_Hp → Option (Int32 × tb_Hp)
  | 0, _, _, _, _ => none
  | n + 1, v0, v1, v2, w => (tb_gI 12 0 v0 w).bind fun x1 => (if v2 < x1 then (if v2 < 10 then (tb_gN 12 1 v0 w).bind fun p2 => (tb_lI [1, 9] p2 v2 w).bind fun x3 => (fb_ma_max v1 x3 w).bind fun x4 => fl_n_lastYear_4 n v0 x4.1 (v2 + 1) x4.2 else some ((v1, w))) else some ((v1, w)))
set_option maxHeartbeats 4000000 in
set_option maxRecDepth 20000 in
theorem dl_n_lastYear_4 : ∀ (n : Nat) (v0 : Nat) (v1 : Int32) (v2 : Int32) (w : tb_Hp) (o : Int32 × tb_Hp), fl_n_lastYear_4 n v0 v1 v2 w = some o → ∀ (r : Option Value × tb_Hp), tb_Ev tb_P 1 141 (22, [(1, .int o.1)], [], o.2) r → tb_Ev tb_P 1 141 (5, [(0, .ref v0), (1, .int v1), (2, .int v2)], [], w) r := by
  intro n
  induction n with
  | zero =>
    intro v0 v1 v2 w o h
    cases h
  | succ n ih =>
    intro v0 v1 v2 w o h r hx
    unfold fl_n_lastYear_4 at h
    refine tb_Es (k := 2) (st' := (7, [(0, .ref v0), (1, .int v1), (2, .int v2)], [.ref v0, .int v2], w)) rfl ?_
    replace h := Option.bind_eq_some_iff.mp h
    obtain ⟨x1, ex1, h⟩ := h
    refine tb_e_gI rfl ex1 ?_
    refine tb_b_cge rfl (fun hc => ?_) (fun hc => ?_)
    · rw [if_pos hc] at h
      refine tb_Es (k := 2) (st' := (11, [(0, .ref v0), (1, .int v1), (2, .int v2)], [.int 10, .int v2], w)) rfl ?_
      refine tb_b_cge rfl (fun hc => ?_) (fun hc => ?_)
      · rw [if_pos hc] at h
        refine tb_Es (k := 2) (st' := (14, [(0, .ref v0), (1, .int v1), (2, .int v2)], [.ref v0, .int v1], w)) rfl ?_
        replace h := Option.bind_eq_some_iff.mp h
        obtain ⟨p2, ep2, h⟩ := h
        refine tb_e_gN rfl ep2 ?_
        refine tb_Es (k := 1) (st' := (16, [(0, .ref v0), (1, .int v1), (2, .int v2)], [.int v2, .ref p2, .int v1], w)) rfl ?_
        replace h := Option.bind_eq_some_iff.mp h
        obtain ⟨x3, ex3, h⟩ := h
        refine tb_e_lI rfl (Or.inl ⟨rfl, rfl⟩) ex3 ?_
        replace h := Option.bind_eq_some_iff.mp h
        obtain ⟨x4, ex4, h⟩ := h
        have hcall := ex4
        refine tb_e_cs (v := some (.int x4.1)) rfl rfl rfl (Nat.le_of_ble_eq_true rfl) rfl (Nat.le_of_ble_eq_true rfl) ((dc_ma_max hcall).up (by decide)) ?_
        refine tb_Es (k := 4) (st' := (5, [(0, .ref v0), (1, .int x4.1), (2, .int (v2 + 1))], [], x4.2)) rfl ?_
        exact ih v0 x4.1 (v2 + 1) x4.2 _ h r hx
      · rw [if_neg hc] at h
        refine tb_Es (k := 1) (st' := (22, [(1, .int v1)], [], w)) rfl ?_
        obtain rfl := Option.some.inj h
        exact hx
    · rw [if_neg hc] at h
      refine tb_Es (k := 1) (st' := (22, [(1, .int v1)], [], w)) rfl ?_
      obtain rfl := Option.some.inj h
      exact hx
def fb_n_lastYear (a0 : Nat) (w : tb_Hp) : Option (Int32 × tb_Hp) := (fl_n_lastYear_4 1048576 a0 (-1) 0 w).bind fun o5 => some (o5.1, o5.2)
set_option maxHeartbeats 4000000 in
set_option maxRecDepth 20000 in
theorem dc_n_lastYear {a0 : Nat} {w : tb_Hp} {o : Int32 × tb_Hp} (h : fb_n_lastYear a0 w = some o) : tb_Ev tb_P 1 141 (0, tb_ent [.ref a0], [], w) (some (.int o.1), o.2) := by
  unfold fb_n_lastYear at h
  obtain ⟨r, hr⟩ : ∃ r : Option Value × tb_Hp, r = (some (.int o.1), o.2) := ⟨_, rfl⟩
  rw [← hr]
  show tb_Ev tb_P 1 141 (0, [(0, .ref a0)], [], w) r
  refine tb_Es (k := 5) (st' := (5, [(0, .ref a0), (1, .int (-1)), (2, .int 0)], [], w)) rfl ?_
  replace h := Option.bind_eq_some_iff.mp h
  obtain ⟨o5, eo5, h⟩ := h
  refine dl_n_lastYear_4 _ a0 (-1) 0 w _ eo5 r ?_
  refine tb_Es (k := 1) (st' := (23, [(1, .int o5.1)], [.int o5.1], o5.2)) rfl ?_
  obtain rfl := Option.some.inj h
  subst hr
  exact tb_Er rfl rfl
/-! TannerBunting.note(III)I -/
def fj_x_note_j29 (v0 : Nat) (v1 : Int32) (v2 : Int32) (v3 : Int32) (s0 : Int32) (w : tb_Hp) : Option (Int32 × tb_Hp) := (if s0 = 0 then some (-2, w) else (tb_gN 21 5 v0 w).bind fun p5 => (tb_gN 15 2 p5 w).bind fun p6 => (tb_gI 12 0 p6 w).bind fun x7 => (if x7 < 10 then (tb_gN 21 5 v0 w).bind fun p8 => (tb_gN 15 2 p8 w).bind fun p9 => (tb_on 12 p9 w (fb_n_add p9 v1 v2 v3 w)).bind fun x10 => (tb_gN 21 5 v0 x10).bind fun p11 => (tb_gN 15 2 p11 x10).bind fun p12 => (tb_gI 12 0 p12 x10).bind fun x13 => some (x13, x10) else some (-2, w)))
set_option maxHeartbeats 4000000 in
set_option maxRecDepth 20000 in
theorem dj_x_note_j29 (v0 : Nat) (v1 : Int32) (v2 : Int32) (v3 : Int32) (s0 : Int32) (w : tb_Hp) (o : Int32 × tb_Hp) (h : fj_x_note_j29 v0 v1 v2 v3 s0 w = some o) (r : Option Value × tb_Hp) (hr : r = (some (.int o.1), o.2)) : tb_Ev tb_P 1 152 (30, [(0, .ref v0), (1, .int v1), (2, .int v2), (3, .int v3)], [.int s0], w) r := by
  unfold fj_x_note_j29 at h
  refine tb_Es (k := 2) (st' := (32, [(4, .int s0), (0, .ref v0), (1, .int v1), (2, .int v2), (3, .int v3)], [.int s0], w)) rfl ?_
  refine tb_b_ieq rfl (fun hc => ?_) (fun hc => ?_)
  · rw [if_pos hc] at h
    refine tb_Es (k := 1) (st' := (40, [(4, .int s0), (0, .ref v0), (1, .int v1), (2, .int v2), (3, .int v3)], [.int (-2)], w)) rfl ?_
    obtain rfl := Option.some.inj h
    subst hr
    exact tb_Er rfl rfl
  · rw [if_neg hc] at h
    refine tb_Es (k := 1) (st' := (34, [(4, .int s0), (0, .ref v0), (1, .int v1), (2, .int v2), (3, .int v3)], [.ref v0], w)) rfl ?_
    replace h := Option.bind_eq_some_iff.mp h
    obtain ⟨p5, ep5, h⟩ := h
    refine tb_e_gN rfl ep5 ?_
    replace h := Option.bind_eq_some_iff.mp h
    obtain ⟨p6, ep6, h⟩ := h
    refine tb_e_gN rfl ep6 ?_
    replace h := Option.bind_eq_some_iff.mp h
    obtain ⟨x7, ex7, h⟩ := h
    refine tb_e_gI rfl ex7 ?_
    refine tb_Es (k := 1) (st' := (38, [(4, .int s0), (0, .ref v0), (1, .int v1), (2, .int v2), (3, .int v3)], [.int 10, .int x7], w)) rfl ?_
    refine tb_b_clt rfl (fun hc => ?_) (fun hc => ?_)
    · rw [if_pos hc] at h
      refine tb_Es (k := 1) (st' := (42, [(4, .int s0), (0, .ref v0), (1, .int v1), (2, .int v2), (3, .int v3)], [.ref v0], w)) rfl ?_
      replace h := Option.bind_eq_some_iff.mp h
      obtain ⟨p8, ep8, h⟩ := h
      refine tb_e_gN rfl ep8 ?_
      replace h := Option.bind_eq_some_iff.mp h
      obtain ⟨p9, ep9, h⟩ := h
      refine tb_e_gN rfl ep9 ?_
      refine tb_Es (k := 3) (st' := (47, [(4, .int s0), (0, .ref v0), (1, .int v1), (2, .int v2), (3, .int v3)], [.int v3, .int v2, .int v1, .ref p9], w)) rfl ?_
      replace h := Option.bind_eq_some_iff.mp h
      obtain ⟨x10, ex10, h⟩ := h
      obtain ⟨hkx10, hcall⟩ := tb_on_some ex10
      refine tb_e_cv (v := none) rfl (Or.inl ⟨_, rfl⟩) rfl rfl (Nat.le_of_ble_eq_true rfl) rfl (Nat.le_of_ble_eq_true rfl) hkx10 ((dc_n_add hcall).up (by decide)) ?_
      refine tb_Es (k := 1) (st' := (49, [(4, .int s0), (0, .ref v0), (1, .int v1), (2, .int v2), (3, .int v3)], [.ref v0], x10)) rfl ?_
      replace h := Option.bind_eq_some_iff.mp h
      obtain ⟨p11, ep11, h⟩ := h
      refine tb_e_gN rfl ep11 ?_
      replace h := Option.bind_eq_some_iff.mp h
      obtain ⟨p12, ep12, h⟩ := h
      refine tb_e_gN rfl ep12 ?_
      replace h := Option.bind_eq_some_iff.mp h
      obtain ⟨x13, ex13, h⟩ := h
      refine tb_e_gI rfl ex13 ?_
      obtain rfl := Option.some.inj h
      subst hr
      exact tb_Er rfl rfl
    · rw [if_neg hc] at h
      refine tb_Es (k := 1) (st' := (40, [(4, .int s0), (0, .ref v0), (1, .int v1), (2, .int v2), (3, .int v3)], [.int (-2)], w)) rfl ?_
      obtain rfl := Option.some.inj h
      subst hr
      exact tb_Er rfl rfl
def fb_x_note (a0 : Nat) (a1 : Int32) (a2 : Int32) (a3 : Int32) (w : tb_Hp) : Option (Int32 × tb_Hp) := (if a1 = (-1) then (tb_gN 21 5 a0 w).bind fun p1 => (tb_gN 15 2 p1 w).bind fun p2 => (tb_pI 12 0 p2 0 w).bind fun w3 => some (0, w3) else (fb_x_within a1 0 60 w).bind fun x4 => (if x4.1 = 0 then fj_x_note_j29 a0 a1 a2 a3 0 x4.2 else (tb_gN 21 5 a0 x4.2).bind fun p14 => (tb_gN 15 0 p14 x4.2).bind fun p15 => (tb_on 17 p15 x4.2 (fb_s_isHouse p15 a2 x4.2)).bind fun x16 => (if x16.1 = 0 then fj_x_note_j29 a0 a1 a2 a3 0 x16.2 else (fb_x_within a3 0 1 x16.2).bind fun x17 => (if x17.1 = 0 then fj_x_note_j29 a0 a1 a2 a3 0 x17.2 else fj_x_note_j29 a0 a1 a2 a3 1 x17.2))))
set_option maxHeartbeats 4000000 in
set_option maxRecDepth 20000 in
theorem dc_x_note {a0 : Nat} {a1 : Int32} {a2 : Int32} {a3 : Int32} {w : tb_Hp} {o : Int32 × tb_Hp} (h : fb_x_note a0 a1 a2 a3 w = some o) : tb_Ev tb_P 1 152 (0, tb_ent [.ref a0, .int a1, .int a2, .int a3], [], w) (some (.int o.1), o.2) := by
  unfold fb_x_note at h
  obtain ⟨r, hr⟩ : ∃ r : Option Value × tb_Hp, r = (some (.int o.1), o.2) := ⟨_, rfl⟩
  rw [← hr]
  show tb_Ev tb_P 1 152 (0, [(0, .ref a0), (1, .int a1), (2, .int a2), (3, .int a3)], [], w) r
  refine tb_Es (k := 2) (st' := (2, [(0, .ref a0), (1, .int a1), (2, .int a2), (3, .int a3)], [.int (-1), .int a1], w)) rfl ?_
  refine tb_b_cne rfl (fun hc => ?_) (fun hc => ?_)
  · rw [if_pos hc] at h
    refine tb_Es (k := 1) (st' := (4, [(0, .ref a0), (1, .int a1), (2, .int a2), (3, .int a3)], [.ref a0], w)) rfl ?_
    replace h := Option.bind_eq_some_iff.mp h
    obtain ⟨p1, ep1, h⟩ := h
    refine tb_e_gN rfl ep1 ?_
    replace h := Option.bind_eq_some_iff.mp h
    obtain ⟨p2, ep2, h⟩ := h
    refine tb_e_gN rfl ep2 ?_
    refine tb_Es (k := 1) (st' := (7, [(0, .ref a0), (1, .int a1), (2, .int a2), (3, .int a3)], [.int 0, .ref p2], w)) rfl ?_
    replace h := Option.bind_eq_some_iff.mp h
    obtain ⟨w3, ew3, h⟩ := h
    refine tb_e_pI rfl ew3 ?_
    refine tb_Es (k := 1) (st' := (9, [(0, .ref a0), (1, .int a1), (2, .int a2), (3, .int a3)], [.int 0], w3)) rfl ?_
    obtain rfl := Option.some.inj h
    subst hr
    exact tb_Er rfl rfl
  · rw [if_neg hc] at h
    refine tb_Es (k := 3) (st' := (13, [(0, .ref a0), (1, .int a1), (2, .int a2), (3, .int a3)], [.int 60, .int 0, .int a1], w)) rfl ?_
    replace h := Option.bind_eq_some_iff.mp h
    obtain ⟨x4, ex4, h⟩ := h
    have hcall := ex4
    refine tb_e_cs (v := some (.int x4.1)) rfl rfl rfl (Nat.le_of_ble_eq_true rfl) rfl (Nat.le_of_ble_eq_true rfl) ((dc_x_within hcall).up (by decide)) ?_
    refine tb_b_ieq rfl (fun hc => ?_) (fun hc => ?_)
    · rw [if_pos hc] at h
      refine tb_Es (k := 2) (st' := (30, [(0, .ref a0), (1, .int a1), (2, .int a2), (3, .int a3)], [.int 0], x4.2)) rfl ?_
      exact dj_x_note_j29 a0 a1 a2 a3 0 x4.2 _ h r hr
    · rw [if_neg hc] at h
      refine tb_Es (k := 1) (st' := (16, [(0, .ref a0), (1, .int a1), (2, .int a2), (3, .int a3)], [.ref a0], x4.2)) rfl ?_
      replace h := Option.bind_eq_some_iff.mp h
      obtain ⟨p14, ep14, h⟩ := h
      refine tb_e_gN rfl ep14 ?_
      replace h := Option.bind_eq_some_iff.mp h
      obtain ⟨p15, ep15, h⟩ := h
      refine tb_e_gN rfl ep15 ?_
      refine tb_Es (k := 1) (st' := (19, [(0, .ref a0), (1, .int a1), (2, .int a2), (3, .int a3)], [.int a2, .ref p15], x4.2)) rfl ?_
      replace h := Option.bind_eq_some_iff.mp h
      obtain ⟨x16, ex16, h⟩ := h
      obtain ⟨hkx16, hcall⟩ := tb_on_some ex16
      refine tb_e_cv (v := some (.int x16.1)) rfl (Or.inl ⟨_, rfl⟩) rfl rfl (Nat.le_of_ble_eq_true rfl) rfl (Nat.le_of_ble_eq_true rfl) hkx16 ((dc_s_isHouse hcall).up (by decide)) ?_
      refine tb_b_ieq rfl (fun hc => ?_) (fun hc => ?_)
      · rw [if_pos hc] at h
        refine tb_Es (k := 2) (st' := (30, [(0, .ref a0), (1, .int a1), (2, .int a2), (3, .int a3)], [.int 0], x16.2)) rfl ?_
        exact dj_x_note_j29 a0 a1 a2 a3 0 x16.2 _ h r hr
      · rw [if_neg hc] at h
        refine tb_Es (k := 3) (st' := (24, [(0, .ref a0), (1, .int a1), (2, .int a2), (3, .int a3)], [.int 1, .int 0, .int a3], x16.2)) rfl ?_
        replace h := Option.bind_eq_some_iff.mp h
        obtain ⟨x17, ex17, h⟩ := h
        have hcall := ex17
        refine tb_e_cs (v := some (.int x17.1)) rfl rfl rfl (Nat.le_of_ble_eq_true rfl) rfl (Nat.le_of_ble_eq_true rfl) ((dc_x_within hcall).up (by decide)) ?_
        refine tb_b_ieq rfl (fun hc => ?_) (fun hc => ?_)
        · rw [if_pos hc] at h
          refine tb_Es (k := 2) (st' := (30, [(0, .ref a0), (1, .int a1), (2, .int a2), (3, .int a3)], [.int 0], x17.2)) rfl ?_
          exact dj_x_note_j29 a0 a1 a2 a3 0 x17.2 _ h r hr
        · rw [if_neg hc] at h
          refine tb_Es (k := 3) (st' := (30, [(0, .ref a0), (1, .int a1), (2, .int a2), (3, .int a3)], [.int 1], x17.2)) rfl ?_
          exact dj_x_note_j29 a0 a1 a2 a3 1 x17.2 _ h r hr
/-! TannerBunting$Story.mostAlike(I)I -/
def fb_so_mostAlike (a0 : Nat) (a1 : Int32) (w : tb_Hp) : Option (Int32 × tb_Hp) := (if a1 < 0 then (tb_gI 16 0 a0 w).bind fun x1 => some (x1, w) else (tb_gN 16 4 a0 w).bind fun p2 => (tb_al p2 w).bind fun x3 => (if a1 < x3 then (tb_gN 16 4 a0 w).bind fun p4 => (tb_lI [1, 9] p4 a1 w).bind fun x5 => (tb_gI 16 0 a0 w).bind fun x6 => (tb_gN 16 4 a0 w).bind fun p7 => (tb_lI [1, 9] p7 a1 w).bind fun x8 => (fb_ma_max x5 (x6 - x8) w).bind fun x9 => some (x9.1, x9.2) else (tb_gI 16 0 a0 w).bind fun x10 => some (x10, w)))
set_option maxHeartbeats 4000000 in
set_option maxRecDepth 20000 in
theorem dc_so_mostAlike {a0 : Nat} {a1 : Int32} {w : tb_Hp} {o : Int32 × tb_Hp} (h : fb_so_mostAlike a0 a1 w = some o) : tb_Ev tb_P 1 159 (0, tb_ent [.ref a0, .int a1], [], w) (some (.int o.1), o.2) := by
  unfold fb_so_mostAlike at h
  obtain ⟨r, hr⟩ : ∃ r : Option Value × tb_Hp, r = (some (.int o.1), o.2) := ⟨_, rfl⟩
  rw [← hr]
  show tb_Ev tb_P 1 159 (0, [(0, .ref a0), (1, .int a1)], [], w) r
  refine tb_Es (k := 1) (st' := (1, [(0, .ref a0), (1, .int a1)], [.int a1], w)) rfl ?_
  refine tb_b_ilt rfl (fun hc => ?_) (fun hc => ?_)
  · rw [if_pos hc] at h
    refine tb_Es (k := 1) (st' := (8, [(0, .ref a0), (1, .int a1)], [.ref a0], w)) rfl ?_
    replace h := Option.bind_eq_some_iff.mp h
    obtain ⟨x1, ex1, h⟩ := h
    refine tb_e_gI rfl ex1 ?_
    obtain rfl := Option.some.inj h
    subst hr
    exact tb_Er rfl rfl
  · rw [if_neg hc] at h
    refine tb_Es (k := 2) (st' := (4, [(0, .ref a0), (1, .int a1)], [.ref a0, .int a1], w)) rfl ?_
    replace h := Option.bind_eq_some_iff.mp h
    obtain ⟨p2, ep2, h⟩ := h
    refine tb_e_gN rfl ep2 ?_
    replace h := Option.bind_eq_some_iff.mp h
    obtain ⟨x3, ex3, h⟩ := h
    refine tb_e_al rfl ex3 ?_
    refine tb_b_clt rfl (fun hc => ?_) (fun hc => ?_)
    · rw [if_pos hc] at h
      refine tb_Es (k := 1) (st' := (11, [(0, .ref a0), (1, .int a1)], [.ref a0], w)) rfl ?_
      replace h := Option.bind_eq_some_iff.mp h
      obtain ⟨p4, ep4, h⟩ := h
      refine tb_e_gN rfl ep4 ?_
      refine tb_Es (k := 1) (st' := (13, [(0, .ref a0), (1, .int a1)], [.int a1, .ref p4], w)) rfl ?_
      replace h := Option.bind_eq_some_iff.mp h
      obtain ⟨x5, ex5, h⟩ := h
      refine tb_e_lI rfl (Or.inl ⟨rfl, rfl⟩) ex5 ?_
      refine tb_Es (k := 1) (st' := (15, [(0, .ref a0), (1, .int a1)], [.ref a0, .int x5], w)) rfl ?_
      replace h := Option.bind_eq_some_iff.mp h
      obtain ⟨x6, ex6, h⟩ := h
      refine tb_e_gI rfl ex6 ?_
      refine tb_Es (k := 1) (st' := (17, [(0, .ref a0), (1, .int a1)], [.ref a0, .int x6, .int x5], w)) rfl ?_
      replace h := Option.bind_eq_some_iff.mp h
      obtain ⟨p7, ep7, h⟩ := h
      refine tb_e_gN rfl ep7 ?_
      refine tb_Es (k := 1) (st' := (19, [(0, .ref a0), (1, .int a1)], [.int a1, .ref p7, .int x6, .int x5], w)) rfl ?_
      replace h := Option.bind_eq_some_iff.mp h
      obtain ⟨x8, ex8, h⟩ := h
      refine tb_e_lI rfl (Or.inl ⟨rfl, rfl⟩) ex8 ?_
      refine tb_Es (k := 1) (st' := (21, [(0, .ref a0), (1, .int a1)], [.int (x6 - x8), .int x5], w)) rfl ?_
      replace h := Option.bind_eq_some_iff.mp h
      obtain ⟨x9, ex9, h⟩ := h
      have hcall := ex9
      refine tb_e_cs (v := some (.int x9.1)) rfl rfl rfl (Nat.le_of_ble_eq_true rfl) rfl (Nat.le_of_ble_eq_true rfl) ((dc_ma_max hcall).up (by decide)) ?_
      obtain rfl := Option.some.inj h
      subst hr
      exact tb_Er rfl rfl
    · rw [if_neg hc] at h
      refine tb_Es (k := 1) (st' := (8, [(0, .ref a0), (1, .int a1)], [.ref a0], w)) rfl ?_
      replace h := Option.bind_eq_some_iff.mp h
      obtain ⟨x10, ex10, h⟩ := h
      refine tb_e_gI rfl ex10 ?_
      obtain rfl := Option.some.inj h
      subst hr
      exact tb_Er rfl rfl
/-! TannerBunting$Scene.copyFrom(LTannerBunting$Scene;)V -/
def fb_sc_copyFrom (a0 : Nat) (a1 : Nat) (w : tb_Hp) : Option (tb_Hp) := (tb_gN 15 0 a0 w).bind fun p1 => (tb_gN 15 0 a1 w).bind fun p2 => (tb_on 17 p1 w (fb_s_copyFrom p1 p2 w)).bind fun x3 => (tb_gN 15 1 a0 x3).bind fun p4 => (tb_gN 15 1 a1 x3).bind fun p5 => (tb_on 17 p4 x3 (fb_s_copyFrom p4 p5 x3)).bind fun x6 => (tb_gN 15 2 a0 x6).bind fun p7 => (tb_gN 15 2 a1 x6).bind fun p8 => (tb_on 12 p7 x6 (fb_n_copyFrom p7 p8 x6)).bind fun x9 => (tb_gI 15 3 a1 x9).bind fun x10 => (tb_pI 15 3 a0 x10 x9).bind fun w11 => (tb_gI 15 4 a1 w11).bind fun x12 => (tb_pI 15 4 a0 x12 w11).bind fun w13 => some w13
set_option maxHeartbeats 4000000 in
set_option maxRecDepth 20000 in
theorem dc_sc_copyFrom {a0 : Nat} {a1 : Nat} {w : tb_Hp} {o : tb_Hp} (h : fb_sc_copyFrom a0 a1 w = some o) : tb_Ev tb_P 1 167 (0, tb_ent [.ref a0, .ref a1], [], w) (none, o) := by
  unfold fb_sc_copyFrom at h
  obtain ⟨r, hr⟩ : ∃ r : Option Value × tb_Hp, r = (none, o) := ⟨_, rfl⟩
  rw [← hr]
  show tb_Ev tb_P 1 167 (0, [(0, .ref a0), (1, .ref a1)], [], w) r
  refine tb_Es (k := 1) (st' := (1, [(0, .ref a0), (1, .ref a1)], [.ref a0], w)) rfl ?_
  replace h := Option.bind_eq_some_iff.mp h
  obtain ⟨p1, ep1, h⟩ := h
  refine tb_e_gN rfl ep1 ?_
  refine tb_Es (k := 1) (st' := (3, [(0, .ref a0), (1, .ref a1)], [.ref a1, .ref p1], w)) rfl ?_
  replace h := Option.bind_eq_some_iff.mp h
  obtain ⟨p2, ep2, h⟩ := h
  refine tb_e_gN rfl ep2 ?_
  replace h := Option.bind_eq_some_iff.mp h
  obtain ⟨x3, ex3, h⟩ := h
  obtain ⟨hkx3, hcall⟩ := tb_on_some ex3
  refine tb_e_cv (v := none) rfl (Or.inl ⟨_, rfl⟩) rfl rfl (Nat.le_of_ble_eq_true rfl) rfl (Nat.le_of_ble_eq_true rfl) hkx3 ((dc_s_copyFrom hcall).up (by decide)) ?_
  refine tb_Es (k := 1) (st' := (6, [(0, .ref a0), (1, .ref a1)], [.ref a0], x3)) rfl ?_
  replace h := Option.bind_eq_some_iff.mp h
  obtain ⟨p4, ep4, h⟩ := h
  refine tb_e_gN rfl ep4 ?_
  refine tb_Es (k := 1) (st' := (8, [(0, .ref a0), (1, .ref a1)], [.ref a1, .ref p4], x3)) rfl ?_
  replace h := Option.bind_eq_some_iff.mp h
  obtain ⟨p5, ep5, h⟩ := h
  refine tb_e_gN rfl ep5 ?_
  replace h := Option.bind_eq_some_iff.mp h
  obtain ⟨x6, ex6, h⟩ := h
  obtain ⟨hkx6, hcall⟩ := tb_on_some ex6
  refine tb_e_cv (v := none) rfl (Or.inl ⟨_, rfl⟩) rfl rfl (Nat.le_of_ble_eq_true rfl) rfl (Nat.le_of_ble_eq_true rfl) hkx6 ((dc_s_copyFrom hcall).up (by decide)) ?_
  refine tb_Es (k := 1) (st' := (11, [(0, .ref a0), (1, .ref a1)], [.ref a0], x6)) rfl ?_
  replace h := Option.bind_eq_some_iff.mp h
  obtain ⟨p7, ep7, h⟩ := h
  refine tb_e_gN rfl ep7 ?_
  refine tb_Es (k := 1) (st' := (13, [(0, .ref a0), (1, .ref a1)], [.ref a1, .ref p7], x6)) rfl ?_
  replace h := Option.bind_eq_some_iff.mp h
  obtain ⟨p8, ep8, h⟩ := h
  refine tb_e_gN rfl ep8 ?_
  replace h := Option.bind_eq_some_iff.mp h
  obtain ⟨x9, ex9, h⟩ := h
  obtain ⟨hkx9, hcall⟩ := tb_on_some ex9
  refine tb_e_cv (v := none) rfl (Or.inl ⟨_, rfl⟩) rfl rfl (Nat.le_of_ble_eq_true rfl) rfl (Nat.le_of_ble_eq_true rfl) hkx9 ((dc_n_copyFrom hcall).up (by decide)) ?_
  refine tb_Es (k := 2) (st' := (17, [(0, .ref a0), (1, .ref a1)], [.ref a1, .ref a0], x9)) rfl ?_
  replace h := Option.bind_eq_some_iff.mp h
  obtain ⟨x10, ex10, h⟩ := h
  refine tb_e_gI rfl ex10 ?_
  replace h := Option.bind_eq_some_iff.mp h
  obtain ⟨w11, ew11, h⟩ := h
  refine tb_e_pI rfl ew11 ?_
  refine tb_Es (k := 2) (st' := (21, [(0, .ref a0), (1, .ref a1)], [.ref a1, .ref a0], w11)) rfl ?_
  replace h := Option.bind_eq_some_iff.mp h
  obtain ⟨x12, ex12, h⟩ := h
  refine tb_e_gI rfl ex12 ?_
  replace h := Option.bind_eq_some_iff.mp h
  obtain ⟨w13, ew13, h⟩ := h
  refine tb_e_pI rfl ew13 ?_
  obtain rfl := Option.some.inj h
  subst hr
  exact tb_Er rfl rfl
/-! TannerBuntingModel.feed(IIIII)I -/
def fb_m_feed (a0 : Nat) (a1 : Int32) (a2 : Int32) (a3 : Int32) (a4 : Int32) (a5 : Int32) (w : tb_Hp) : Option (Int32 × tb_Hp) := (tb_gI 22 1 a0 w).bind fun x1 => (if 400 < (x1 + 20) then some (-1, w) else (tb_on 22 a0 w (fb_m_four a0 a1 w)).bind fun x2 => (tb_on 22 a0 x2 (fb_m_four a0 a2 x2)).bind fun x3 => (tb_on 22 a0 x3 (fb_m_four a0 a3 x3)).bind fun x4 => (tb_on 22 a0 x4 (fb_m_four a0 a4 x4)).bind fun x5 => (tb_on 22 a0 x5 (fb_m_four a0 a5 x5)).bind fun x6 => (tb_gI 22 1 a0 x6).bind fun x7 => some (x7, x6))
set_option maxHeartbeats 4000000 in
set_option maxRecDepth 20000 in
theorem dc_m_feed {a0 : Nat} {a1 : Int32} {a2 : Int32} {a3 : Int32} {a4 : Int32} {a5 : Int32} {w : tb_Hp} {o : Int32 × tb_Hp} (h : fb_m_feed a0 a1 a2 a3 a4 a5 w = some o) : tb_Ev tb_P 1 171 (0, tb_ent [.ref a0, .int a1, .int a2, .int a3, .int a4, .int a5], [], w) (some (.int o.1), o.2) := by
  unfold fb_m_feed at h
  obtain ⟨r, hr⟩ : ∃ r : Option Value × tb_Hp, r = (some (.int o.1), o.2) := ⟨_, rfl⟩
  rw [← hr]
  show tb_Ev tb_P 1 171 (0, [(0, .ref a0), (1, .int a1), (2, .int a2), (3, .int a3), (4, .int a4), (5, .int a5)], [], w) r
  refine tb_Es (k := 1) (st' := (1, [(0, .ref a0), (1, .int a1), (2, .int a2), (3, .int a3), (4, .int a4), (5, .int a5)], [.ref a0], w)) rfl ?_
  replace h := Option.bind_eq_some_iff.mp h
  obtain ⟨x1, ex1, h⟩ := h
  refine tb_e_gI rfl ex1 ?_
  refine tb_Es (k := 3) (st' := (5, [(0, .ref a0), (1, .int a1), (2, .int a2), (3, .int a3), (4, .int a4), (5, .int a5)], [.int 400, .int (x1 + 20)], w)) rfl ?_
  refine tb_b_cle rfl (fun hc => ?_) (fun hc => ?_)
  · rw [if_pos hc] at h
    refine tb_Es (k := 1) (st' := (7, [(0, .ref a0), (1, .int a1), (2, .int a2), (3, .int a3), (4, .int a4), (5, .int a5)], [.int (-1)], w)) rfl ?_
    obtain rfl := Option.some.inj h
    subst hr
    exact tb_Er rfl rfl
  · rw [if_neg hc] at h
    refine tb_Es (k := 2) (st' := (10, [(0, .ref a0), (1, .int a1), (2, .int a2), (3, .int a3), (4, .int a4), (5, .int a5)], [.int a1, .ref a0], w)) rfl ?_
    replace h := Option.bind_eq_some_iff.mp h
    obtain ⟨x2, ex2, h⟩ := h
    obtain ⟨hkx2, hcall⟩ := tb_on_some ex2
    refine tb_e_cv (v := none) rfl (Or.inl ⟨_, rfl⟩) rfl rfl (Nat.le_of_ble_eq_true rfl) rfl (Nat.le_of_ble_eq_true rfl) hkx2 ((dc_m_four hcall).up (by decide)) ?_
    refine tb_Es (k := 2) (st' := (13, [(0, .ref a0), (1, .int a1), (2, .int a2), (3, .int a3), (4, .int a4), (5, .int a5)], [.int a2, .ref a0], x2)) rfl ?_
    replace h := Option.bind_eq_some_iff.mp h
    obtain ⟨x3, ex3, h⟩ := h
    obtain ⟨hkx3, hcall⟩ := tb_on_some ex3
    refine tb_e_cv (v := none) rfl (Or.inl ⟨_, rfl⟩) rfl rfl (Nat.le_of_ble_eq_true rfl) rfl (Nat.le_of_ble_eq_true rfl) hkx3 ((dc_m_four hcall).up (by decide)) ?_
    refine tb_Es (k := 2) (st' := (16, [(0, .ref a0), (1, .int a1), (2, .int a2), (3, .int a3), (4, .int a4), (5, .int a5)], [.int a3, .ref a0], x3)) rfl ?_
    replace h := Option.bind_eq_some_iff.mp h
    obtain ⟨x4, ex4, h⟩ := h
    obtain ⟨hkx4, hcall⟩ := tb_on_some ex4
    refine tb_e_cv (v := none) rfl (Or.inl ⟨_, rfl⟩) rfl rfl (Nat.le_of_ble_eq_true rfl) rfl (Nat.le_of_ble_eq_true rfl) hkx4 ((dc_m_four hcall).up (by decide)) ?_
    refine tb_Es (k := 2) (st' := (19, [(0, .ref a0), (1, .int a1), (2, .int a2), (3, .int a3), (4, .int a4), (5, .int a5)], [.int a4, .ref a0], x4)) rfl ?_
    replace h := Option.bind_eq_some_iff.mp h
    obtain ⟨x5, ex5, h⟩ := h
    obtain ⟨hkx5, hcall⟩ := tb_on_some ex5
    refine tb_e_cv (v := none) rfl (Or.inl ⟨_, rfl⟩) rfl rfl (Nat.le_of_ble_eq_true rfl) rfl (Nat.le_of_ble_eq_true rfl) hkx5 ((dc_m_four hcall).up (by decide)) ?_
    refine tb_Es (k := 2) (st' := (22, [(0, .ref a0), (1, .int a1), (2, .int a2), (3, .int a3), (4, .int a4), (5, .int a5)], [.int a5, .ref a0], x5)) rfl ?_
    replace h := Option.bind_eq_some_iff.mp h
    obtain ⟨x6, ex6, h⟩ := h
    obtain ⟨hkx6, hcall⟩ := tb_on_some ex6
    refine tb_e_cv (v := none) rfl (Or.inl ⟨_, rfl⟩) rfl rfl (Nat.le_of_ble_eq_true rfl) rfl (Nat.le_of_ble_eq_true rfl) hkx6 ((dc_m_four hcall).up (by decide)) ?_
    refine tb_Es (k := 1) (st' := (24, [(0, .ref a0), (1, .int a1), (2, .int a2), (3, .int a3), (4, .int a4), (5, .int a5)], [.ref a0], x6)) rfl ?_
    replace h := Option.bind_eq_some_iff.mp h
    obtain ⟨x7, ex7, h⟩ := h
    refine tb_e_gI rfl ex7 ?_
    obtain rfl := Option.some.inj h
    subst hr
    exact tb_Er rfl rfl
/-! TannerBuntingModel.isWord(J)Z -/
def fl_m_isWord_7 : Nat → Nat → Int64 → Int64 → Int32 → tb_Hp → Option (Int64 × Int64 × Int32 × tb_Hp)
  | 0, _, _, _, _, _ => none
  | n + 1, v0, v1, v3, v5, w => (tb_gI 22 8 v0 w).bind fun x2 => (tb_on 22 v0 w (fb_m_isLetter v0 (x2 + v5) w)).bind fun x3 => (if x3.1 = 0 then some ((v1, v3, v5, x3.2)) else (if v5 < 8 then (tb_gN 22 0 v0 x3.2).bind fun p4 => (tb_gI 22 8 v0 x3.2).bind fun x5 => (tb_lI [0, 3] p4 (x5 + v5) x3.2).bind fun x6 => fl_m_isWord_7 n v0 v1 ((v3 <<< (Int32.toInt64 8 &&& 63)) ||| (Int32.toInt64 x6)) (v5 + 1) x3.2 else fl_m_isWord_7 n v0 v1 v3 (v5 + 1) x3.2))
set_option maxHeartbeats 4000000 in
set_option maxRecDepth 20000 in
theorem dl_m_isWord_7 : ∀ (n : Nat) (v0 : Nat) (v1 : Int64) (v3 : Int64) (v5 : Int32) (w : tb_Hp) (o : Int64 × Int64 × Int32 × tb_Hp), fl_m_isWord_7 n v0 v1 v3 v5 w = some o → ∀ (r : Option Value × tb_Hp), tb_Ev tb_P 1 179 (34, [(1, .long o.1), (3, .long o.2.1), (5, .int o.2.2.1)], [], o.2.2.2) r → tb_Ev tb_P 1 179 (8, [(0, .ref v0), (1, .long v1), (3, .long v3), (5, .int v5)], [], w) r := by
  intro n
  induction n with
  | zero =>
    intro v0 v1 v3 v5 w o h
    cases h
  | succ n ih =>
    intro v0 v1 v3 v5 w o h r hx
    unfold fl_m_isWord_7 at h
    refine tb_Es (k := 2) (st' := (10, [(0, .ref v0), (1, .long v1), (3, .long v3), (5, .int v5)], [.ref v0, .ref v0], w)) rfl ?_
    replace h := Option.bind_eq_some_iff.mp h
    obtain ⟨x2, ex2, h⟩ := h
    refine tb_e_gI rfl ex2 ?_
    refine tb_Es (k := 2) (st' := (13, [(0, .ref v0), (1, .long v1), (3, .long v3), (5, .int v5)], [.int (x2 + v5), .ref v0], w)) rfl ?_
    replace h := Option.bind_eq_some_iff.mp h
    obtain ⟨x3, ex3, h⟩ := h
    obtain ⟨hkx3, hcall⟩ := tb_on_some ex3
    refine tb_e_cv (v := some (.int x3.1)) rfl (Or.inl ⟨_, rfl⟩) rfl rfl (Nat.le_of_ble_eq_true rfl) rfl (Nat.le_of_ble_eq_true rfl) hkx3 ((dc_m_isLetter hcall).up (by decide)) ?_
    refine tb_b_ieq rfl (fun hc => ?_) (fun hc => ?_)
    · rw [if_pos hc] at h
      refine tb_Es (k := 1) (st' := (34, [(1, .long v1), (3, .long v3), (5, .int v5)], [], x3.2)) rfl ?_
      obtain rfl := Option.some.inj h
      exact hx
    · rw [if_neg hc] at h
      refine tb_Es (k := 2) (st' := (17, [(0, .ref v0), (1, .long v1), (3, .long v3), (5, .int v5)], [.int 8, .int v5], x3.2)) rfl ?_
      refine tb_b_cge rfl (fun hc => ?_) (fun hc => ?_)
      · rw [if_pos hc] at h
        refine tb_Es (k := 4) (st' := (22, [(0, .ref v0), (1, .long v1), (3, .long v3), (5, .int v5)], [.ref v0, .long (v3 <<< (Int32.toInt64 8 &&& 63))], x3.2)) rfl ?_
        replace h := Option.bind_eq_some_iff.mp h
        obtain ⟨p4, ep4, h⟩ := h
        refine tb_e_gN rfl ep4 ?_
        refine tb_Es (k := 1) (st' := (24, [(0, .ref v0), (1, .long v1), (3, .long v3), (5, .int v5)], [.ref v0, .ref p4, .long (v3 <<< (Int32.toInt64 8 &&& 63))], x3.2)) rfl ?_
        replace h := Option.bind_eq_some_iff.mp h
        obtain ⟨x5, ex5, h⟩ := h
        refine tb_e_gI rfl ex5 ?_
        refine tb_Es (k := 2) (st' := (27, [(0, .ref v0), (1, .long v1), (3, .long v3), (5, .int v5)], [.int (x5 + v5), .ref p4, .long (v3 <<< (Int32.toInt64 8 &&& 63))], x3.2)) rfl ?_
        replace h := Option.bind_eq_some_iff.mp h
        obtain ⟨x6, ex6, h⟩ := h
        refine tb_e_lI rfl (Or.inr ⟨rfl, rfl⟩) ex6 ?_
        refine tb_Es (k := 6) (st' := (8, [(0, .ref v0), (1, .long v1), (3, .long ((v3 <<< (Int32.toInt64 8 &&& 63)) ||| (Int32.toInt64 x6))), (5, .int (v5 + 1))], [], x3.2)) rfl ?_
        exact ih v0 v1 ((v3 <<< (Int32.toInt64 8 &&& 63)) ||| (Int32.toInt64 x6)) (v5 + 1) x3.2 _ h r hx
      · rw [if_neg hc] at h
        refine tb_Es (k := 3) (st' := (8, [(0, .ref v0), (1, .long v1), (3, .long v3), (5, .int (v5 + 1))], [], x3.2)) rfl ?_
        exact ih v0 v1 v3 (v5 + 1) x3.2 _ h r hx
def fb_m_isWord (a0 : Nat) (a1 : Int64) (w : tb_Hp) : Option (Int32 × tb_Hp) := (tb_on 22 a0 w (fb_m_see a0 w)).bind fun x1 => (fl_m_isWord_7 1048576 a0 a1 0 0 x1.2).bind fun o7 => (if 0 < o7.2.2.1 then (if o7.2.2.1 < 9 then (if (lg_cmp o7.2.1 o7.1) = 0 then some (1, o7.2.2.2) else some (0, o7.2.2.2)) else some (0, o7.2.2.2)) else some (0, o7.2.2.2))
set_option maxHeartbeats 4000000 in
set_option maxRecDepth 20000 in
theorem dc_m_isWord {a0 : Nat} {a1 : Int64} {w : tb_Hp} {o : Int32 × tb_Hp} (h : fb_m_isWord a0 a1 w = some o) : tb_Ev tb_P 1 179 (0, tb_ent [.ref a0, .long a1], [], w) (some (.int o.1), o.2) := by
  unfold fb_m_isWord at h
  obtain ⟨r, hr⟩ : ∃ r : Option Value × tb_Hp, r = (some (.int o.1), o.2) := ⟨_, rfl⟩
  rw [← hr]
  show tb_Ev tb_P 1 179 (0, [(0, .ref a0), (1, .long a1)], [], w) r
  refine tb_Es (k := 1) (st' := (1, [(0, .ref a0), (1, .long a1)], [.ref a0], w)) rfl ?_
  replace h := Option.bind_eq_some_iff.mp h
  obtain ⟨x1, ex1, h⟩ := h
  obtain ⟨hkx1, hcall⟩ := tb_on_some ex1
  refine tb_e_cv (v := some (.int x1.1)) rfl (Or.inl ⟨_, rfl⟩) rfl rfl (Nat.le_of_ble_eq_true rfl) rfl (Nat.le_of_ble_eq_true rfl) hkx1 ((dc_m_see hcall).up (by decide)) ?_
  refine tb_Es (k := 6) (st' := (8, [(0, .ref a0), (1, .long a1), (3, .long 0), (5, .int 0)], [], x1.2)) rfl ?_
  replace h := Option.bind_eq_some_iff.mp h
  obtain ⟨o7, eo7, h⟩ := h
  refine dl_m_isWord_7 _ a0 a1 0 0 x1.2 _ eo7 r ?_
  refine tb_Es (k := 1) (st' := (35, [(1, .long o7.1), (3, .long o7.2.1), (5, .int o7.2.2.1)], [.int o7.2.2.1], o7.2.2.2)) rfl ?_
  refine tb_b_ile rfl (fun hc => ?_) (fun hc => ?_)
  · rw [if_pos hc] at h
    refine tb_Es (k := 2) (st' := (38, [(1, .long o7.1), (3, .long o7.2.1), (5, .int o7.2.2.1)], [.int 9, .int o7.2.2.1], o7.2.2.2)) rfl ?_
    refine tb_b_cge rfl (fun hc => ?_) (fun hc => ?_)
    · rw [if_pos hc] at h
      refine tb_Es (k := 3) (st' := (42, [(1, .long o7.1), (3, .long o7.2.1), (5, .int o7.2.2.1)], [.int (lg_cmp o7.2.1 o7.1)], o7.2.2.2)) rfl ?_
      refine tb_b_ine rfl (fun hc => ?_) (fun hc => ?_)
      · rw [if_pos hc] at h
        refine tb_Es (k := 2) (st' := (46, [(1, .long o7.1), (3, .long o7.2.1), (5, .int o7.2.2.1)], [.int 1], o7.2.2.2)) rfl ?_
        obtain rfl := Option.some.inj h
        subst hr
        exact tb_Er rfl rfl
      · rw [if_neg hc] at h
        refine tb_Es (k := 1) (st' := (46, [(1, .long o7.1), (3, .long o7.2.1), (5, .int o7.2.2.1)], [.int 0], o7.2.2.2)) rfl ?_
        obtain rfl := Option.some.inj h
        subst hr
        exact tb_Er rfl rfl
    · rw [if_neg hc] at h
      refine tb_Es (k := 1) (st' := (46, [(1, .long o7.1), (3, .long o7.2.1), (5, .int o7.2.2.1)], [.int 0], o7.2.2.2)) rfl ?_
      obtain rfl := Option.some.inj h
      subst hr
      exact tb_Er rfl rfl
  · rw [if_neg hc] at h
    refine tb_Es (k := 1) (st' := (46, [(1, .long o7.1), (3, .long o7.2.1), (5, .int o7.2.2.1)], [.int 0], o7.2.2.2)) rfl ?_
    obtain rfl := Option.some.inj h
    subst hr
    exact tb_Er rfl rfl
/-! TannerBuntingModel.passWord()V -/
def fl_m_passWord_0 : Nat → Nat → tb_Hp → Option (tb_Hp)
  | 0, _, _ => none
  | n + 1, v0, w => (tb_gI 22 8 v0 w).bind fun x1 => (tb_on 22 v0 w (fb_m_isLetter v0 x1 w)).bind fun x2 => (if x2.1 = 0 then some (x2.2) else (tb_gI 22 8 v0 x2.2).bind fun x3 => (tb_pI 22 8 v0 (x3 + 1) x2.2).bind fun w4 => fl_m_passWord_0 n v0 w4)
set_option maxHeartbeats 4000000 in
set_option maxRecDepth 20000 in
theorem dl_m_passWord_0 : ∀ (n : Nat) (v0 : Nat) (w : tb_Hp) (o : tb_Hp), fl_m_passWord_0 n v0 w = some o → ∀ (r : Option Value × tb_Hp), tb_Ev tb_P 1 184 (14, [], [], o) r → tb_Ev tb_P 1 184 (1, [(0, .ref v0)], [], w) r := by
  intro n
  induction n with
  | zero =>
    intro v0 w o h
    cases h
  | succ n ih =>
    intro v0 w o h r hx
    unfold fl_m_passWord_0 at h
    refine tb_Es (k := 2) (st' := (3, [(0, .ref v0)], [.ref v0, .ref v0], w)) rfl ?_
    replace h := Option.bind_eq_some_iff.mp h
    obtain ⟨x1, ex1, h⟩ := h
    refine tb_e_gI rfl ex1 ?_
    replace h := Option.bind_eq_some_iff.mp h
    obtain ⟨x2, ex2, h⟩ := h
    obtain ⟨hkx2, hcall⟩ := tb_on_some ex2
    refine tb_e_cv (v := some (.int x2.1)) rfl (Or.inl ⟨_, rfl⟩) rfl rfl (Nat.le_of_ble_eq_true rfl) rfl (Nat.le_of_ble_eq_true rfl) hkx2 ((dc_m_isLetter hcall).up (by decide)) ?_
    refine tb_b_ieq rfl (fun hc => ?_) (fun hc => ?_)
    · rw [if_pos hc] at h
      refine tb_Es (k := 1) (st' := (14, [], [], x2.2)) rfl ?_
      obtain rfl := Option.some.inj h
      exact hx
    · rw [if_neg hc] at h
      refine tb_Es (k := 2) (st' := (8, [(0, .ref v0)], [.ref v0, .ref v0], x2.2)) rfl ?_
      replace h := Option.bind_eq_some_iff.mp h
      obtain ⟨x3, ex3, h⟩ := h
      refine tb_e_gI rfl ex3 ?_
      refine tb_Es (k := 2) (st' := (11, [(0, .ref v0)], [.int (x3 + 1), .ref v0], x2.2)) rfl ?_
      replace h := Option.bind_eq_some_iff.mp h
      obtain ⟨w4, ew4, h⟩ := h
      refine tb_e_pI rfl ew4 ?_
      refine tb_Es (k := 2) (st' := (1, [(0, .ref v0)], [], w4)) rfl ?_
      exact ih v0 w4 _ h r hx
def fb_m_passWord (a0 : Nat) (w : tb_Hp) : Option (tb_Hp) := (fl_m_passWord_0 1048576 a0 w).bind fun o5 => some o5
set_option maxHeartbeats 4000000 in
set_option maxRecDepth 20000 in
theorem dc_m_passWord {a0 : Nat} {w : tb_Hp} {o : tb_Hp} (h : fb_m_passWord a0 w = some o) : tb_Ev tb_P 1 184 (0, tb_ent [.ref a0], [], w) (none, o) := by
  unfold fb_m_passWord at h
  obtain ⟨r, hr⟩ : ∃ r : Option Value × tb_Hp, r = (none, o) := ⟨_, rfl⟩
  rw [← hr]
  show tb_Ev tb_P 1 184 (0, [(0, .ref a0)], [], w) r
  refine tb_Es (k := 1) (st' := (1, [(0, .ref a0)], [], w)) rfl ?_
  replace h := Option.bind_eq_some_iff.mp h
  obtain ⟨o5, eo5, h⟩ := h
  refine dl_m_passWord_0 _ a0 w _ eo5 r ?_
  obtain rfl := Option.some.inj h
  subst hr
  exact tb_Er rfl rfl
/-! TannerBuntingModel.numberHere(II)Z -/
def fj_m_numberHere_j42 (k : Nat → Int32 → Int32 → Int32 → Int32 → tb_Hp → Option (Nat × Int32 × Int32 × Int32 × Int32 × tb_Hp)) (v0 : Nat) (v1 : Int32) (v2 : Int32) (v3 : Int32) (v4 : Int32) (w : tb_Hp) : Option (Nat × Int32 × Int32 × Int32 × Int32 × tb_Hp) := (tb_gI 22 8 v0 w).bind fun x13 => (tb_pI 22 8 v0 (x13 + 1) w).bind fun w14 => k v0 v1 v2 v3 v4 w14
set_option maxHeartbeats 4000000 in
set_option maxRecDepth 20000 in
theorem dj_m_numberHere_j42 (k : Nat → Int32 → Int32 → Int32 → Int32 → tb_Hp → Option (Nat × Int32 × Int32 × Int32 × Int32 × tb_Hp)) (v0 : Nat) (v1 : Int32) (v2 : Int32) (v3 : Int32) (v4 : Int32) (w : tb_Hp) (o : Nat × Int32 × Int32 × Int32 × Int32 × tb_Hp) (h : fj_m_numberHere_j42 k v0 v1 v2 v3 v4 w = some o) (r : Option Value × tb_Hp) (hx : tb_Ev tb_P 1 186 (52, [(0, .ref o.1), (1, .int o.2.1), (2, .int o.2.2.1), (3, .int o.2.2.2.1), (4, .int o.2.2.2.2.1)], [], o.2.2.2.2.2) r) (hk : ∀ (v0 : Nat) (v1 : Int32) (v2 : Int32) (v3 : Int32) (v4 : Int32) (w : tb_Hp), k v0 v1 v2 v3 v4 w = some o → tb_Ev tb_P 1 186 (20, [(0, .ref v0), (1, .int v1), (2, .int v2), (3, .int v3), (4, .int v4)], [], w) r) : tb_Ev tb_P 1 186 (44, [(0, .ref v0), (1, .int v1), (2, .int v2), (3, .int v3), (4, .int v4)], [], w) r := by
  unfold fj_m_numberHere_j42 at h
  refine tb_Es (k := 2) (st' := (46, [(0, .ref v0), (1, .int v1), (2, .int v2), (3, .int v3), (4, .int v4)], [.ref v0, .ref v0], w)) rfl ?_
  replace h := Option.bind_eq_some_iff.mp h
  obtain ⟨x13, ex13, h⟩ := h
  refine tb_e_gI rfl ex13 ?_
  refine tb_Es (k := 2) (st' := (49, [(0, .ref v0), (1, .int v1), (2, .int v2), (3, .int v3), (4, .int v4)], [.int (x13 + 1), .ref v0], w)) rfl ?_
  replace h := Option.bind_eq_some_iff.mp h
  obtain ⟨w14, ew14, h⟩ := h
  refine tb_e_pI rfl ew14 ?_
  refine tb_Es (k := 2) (st' := (20, [(0, .ref v0), (1, .int v1), (2, .int v2), (3, .int v3), (4, .int v4)], [], w14)) rfl ?_
  exact hk v0 v1 v2 v3 v4 w14 h
def fl_m_numberHere_19 : Nat → Nat → Int32 → Int32 → Int32 → Int32 → tb_Hp → Option (Nat × Int32 × Int32 × Int32 × Int32 × tb_Hp)
  | 0, _, _, _, _, _, _ => none
  | n + 1, v0, v1, v2, v3, v4, w => (tb_gI 22 8 v0 w).bind fun x7 => (tb_on 22 v0 w (fb_m_isDigit v0 x7 w)).bind fun x8 => (if x8.1 = 0 then some ((v0, v1, v2, v3, v4, x8.2)) else (tb_gI 22 8 v0 x8.2).bind fun x9 => (if (x9 - v3) < 5 then (tb_gN 22 0 v0 x8.2).bind fun p10 => (tb_gI 22 8 v0 x8.2).bind fun x11 => (tb_lI [0, 3] p10 x11 x8.2).bind fun x12 => fj_m_numberHere_j42 (fl_m_numberHere_19 n) v0 v1 v2 v3 (((10 * v4) + x12) - 48) x8.2 else fj_m_numberHere_j42 (fl_m_numberHere_19 n) v0 v1 v2 v3 v4 x8.2))
set_option maxHeartbeats 4000000 in
set_option maxRecDepth 20000 in
theorem dl_m_numberHere_19 : ∀ (n : Nat) (v0 : Nat) (v1 : Int32) (v2 : Int32) (v3 : Int32) (v4 : Int32) (w : tb_Hp) (o : Nat × Int32 × Int32 × Int32 × Int32 × tb_Hp), fl_m_numberHere_19 n v0 v1 v2 v3 v4 w = some o → ∀ (r : Option Value × tb_Hp), tb_Ev tb_P 1 186 (52, [(0, .ref o.1), (1, .int o.2.1), (2, .int o.2.2.1), (3, .int o.2.2.2.1), (4, .int o.2.2.2.2.1)], [], o.2.2.2.2.2) r → tb_Ev tb_P 1 186 (20, [(0, .ref v0), (1, .int v1), (2, .int v2), (3, .int v3), (4, .int v4)], [], w) r := by
  intro n
  induction n with
  | zero =>
    intro v0 v1 v2 v3 v4 w o h
    cases h
  | succ n ih =>
    intro v0 v1 v2 v3 v4 w o h r hx
    unfold fl_m_numberHere_19 at h
    refine tb_Es (k := 2) (st' := (22, [(0, .ref v0), (1, .int v1), (2, .int v2), (3, .int v3), (4, .int v4)], [.ref v0, .ref v0], w)) rfl ?_
    replace h := Option.bind_eq_some_iff.mp h
    obtain ⟨x7, ex7, h⟩ := h
    refine tb_e_gI rfl ex7 ?_
    replace h := Option.bind_eq_some_iff.mp h
    obtain ⟨x8, ex8, h⟩ := h
    obtain ⟨hkx8, hcall⟩ := tb_on_some ex8
    refine tb_e_cv (v := some (.int x8.1)) rfl (Or.inl ⟨_, rfl⟩) rfl rfl (Nat.le_of_ble_eq_true rfl) rfl (Nat.le_of_ble_eq_true rfl) hkx8 ((dc_m_isDigit hcall).up (by decide)) ?_
    refine tb_b_ieq rfl (fun hc => ?_) (fun hc => ?_)
    · rw [if_pos hc] at h
      refine tb_Es (k := 1) (st' := (52, [(0, .ref v0), (1, .int v1), (2, .int v2), (3, .int v3), (4, .int v4)], [], x8.2)) rfl ?_
      obtain rfl := Option.some.inj h
      exact hx
    · rw [if_neg hc] at h
      refine tb_Es (k := 1) (st' := (26, [(0, .ref v0), (1, .int v1), (2, .int v2), (3, .int v3), (4, .int v4)], [.ref v0], x8.2)) rfl ?_
      replace h := Option.bind_eq_some_iff.mp h
      obtain ⟨x9, ex9, h⟩ := h
      refine tb_e_gI rfl ex9 ?_
      refine tb_Es (k := 3) (st' := (30, [(0, .ref v0), (1, .int v1), (2, .int v2), (3, .int v3), (4, .int v4)], [.int 5, .int (x9 - v3)], x8.2)) rfl ?_
      refine tb_b_cge rfl (fun hc => ?_) (fun hc => ?_)
      · rw [if_pos hc] at h
        refine tb_Es (k := 4) (st' := (35, [(0, .ref v0), (1, .int v1), (2, .int v2), (3, .int v3), (4, .int v4)], [.ref v0, .int (10 * v4)], x8.2)) rfl ?_
        replace h := Option.bind_eq_some_iff.mp h
        obtain ⟨p10, ep10, h⟩ := h
        refine tb_e_gN rfl ep10 ?_
        refine tb_Es (k := 1) (st' := (37, [(0, .ref v0), (1, .int v1), (2, .int v2), (3, .int v3), (4, .int v4)], [.ref v0, .ref p10, .int (10 * v4)], x8.2)) rfl ?_
        replace h := Option.bind_eq_some_iff.mp h
        obtain ⟨x11, ex11, h⟩ := h
        refine tb_e_gI rfl ex11 ?_
        replace h := Option.bind_eq_some_iff.mp h
        obtain ⟨x12, ex12, h⟩ := h
        refine tb_e_lI rfl (Or.inr ⟨rfl, rfl⟩) ex12 ?_
        refine tb_Es (k := 5) (st' := (44, [(0, .ref v0), (1, .int v1), (2, .int v2), (3, .int v3), (4, .int (((10 * v4) + x12) - 48))], [], x8.2)) rfl ?_
        exact dj_m_numberHere_j42 (fl_m_numberHere_19 n) v0 v1 v2 v3 (((10 * v4) + x12) - 48) x8.2 _ h r hx (fun v0_ v1_ v2_ v3_ v4_ w_ h_ => ih v0_ v1_ v2_ v3_ v4_ w_ _ h_ r hx)
      · rw [if_neg hc] at h
        refine tb_Es (k := 1) (st' := (44, [(0, .ref v0), (1, .int v1), (2, .int v2), (3, .int v3), (4, .int v4)], [], x8.2)) rfl ?_
        exact dj_m_numberHere_j42 (fl_m_numberHere_19 n) v0 v1 v2 v3 v4 x8.2 _ h r hx (fun v0_ v1_ v2_ v3_ v4_ w_ h_ => ih v0_ v1_ v2_ v3_ v4_ w_ _ h_ r hx)
def fj_m_numberHere_j66 (v0 : Nat) (v3 : Int32) (w : tb_Hp) : Option (Int32 × tb_Hp) := (tb_on 22 v0 w (fb_m_fails v0 1 v3 w)).bind fun x19 => (if x19.1 = 0 then some (0, x19.2) else some (1, x19.2))
set_option maxHeartbeats 4000000 in
set_option maxRecDepth 20000 in
theorem dj_m_numberHere_j66 (v0 : Nat) (v3 : Int32) (w : tb_Hp) (o : Int32 × tb_Hp) (h : fj_m_numberHere_j66 v0 v3 w = some o) (r : Option Value × tb_Hp) (hr : r = (some (.int o.1), o.2)) : tb_Ev tb_P 1 186 (70, [(0, .ref v0), (3, .int v3)], [], w) r := by
  unfold fj_m_numberHere_j66 at h
  refine tb_Es (k := 3) (st' := (73, [(0, .ref v0), (3, .int v3)], [.int v3, .int 1, .ref v0], w)) rfl ?_
  replace h := Option.bind_eq_some_iff.mp h
  obtain ⟨x19, ex19, h⟩ := h
  obtain ⟨hkx19, hcall⟩ := tb_on_some ex19
  refine tb_e_cv (v := some (.int x19.1)) rfl (Or.inl ⟨_, rfl⟩) rfl rfl (Nat.le_of_ble_eq_true rfl) rfl (Nat.le_of_ble_eq_true rfl) hkx19 ((dc_m_fails hcall).up (by decide)) ?_
  refine tb_b_ieq rfl (fun hc => ?_) (fun hc => ?_)
  · rw [if_pos hc] at h
    refine tb_Es (k := 1) (st' := (78, [(0, .ref v0), (3, .int v3)], [.int 0], x19.2)) rfl ?_
    obtain rfl := Option.some.inj h
    subst hr
    exact tb_Er rfl rfl
  · rw [if_neg hc] at h
    refine tb_Es (k := 2) (st' := (78, [(0, .ref v0), (3, .int v3)], [.int 1], x19.2)) rfl ?_
    obtain rfl := Option.some.inj h
    subst hr
    exact tb_Er rfl rfl
def fb_m_numberHere (a0 : Nat) (a1 : Int32) (a2 : Int32) (w : tb_Hp) : Option (Int32 × tb_Hp) := (tb_on 22 a0 w (fb_m_see a0 w)).bind fun x1 => (tb_gI 22 8 a0 x1.2).bind fun x2 => (tb_on 22 a0 x1.2 (fb_m_isDigit a0 x2 x1.2)).bind fun x3 => (if x3.1 = 0 then (tb_gI 22 8 a0 x3.2).bind fun x4 => (tb_on 22 a0 x3.2 (fb_m_fails a0 0 x4 x3.2)).bind fun x5 => tb_z x5.1 x5.2 else (tb_gI 22 8 a0 x3.2).bind fun x6 => (fl_m_numberHere_19 1048576 a0 a1 a2 x6 0 x3.2).bind fun o15 => (tb_pI 22 10 o15.1 o15.2.2.2.2.1 o15.2.2.2.2.2).bind fun w16 => (tb_gI 22 8 o15.1 w16).bind fun x17 => (if (x17 - o15.2.2.2.1) ≤ 5 then (fb_m_in (Int32.toInt64 o15.2.2.2.2.1) (Int32.toInt64 o15.2.1) (Int32.toInt64 o15.2.2.1) w16).bind fun x18 => (if x18.1 = 0 then fj_m_numberHere_j66 o15.1 o15.2.2.2.1 x18.2 else some (1, x18.2)) else fj_m_numberHere_j66 o15.1 o15.2.2.2.1 w16))
set_option maxHeartbeats 4000000 in
set_option maxRecDepth 20000 in
theorem dc_m_numberHere {a0 : Nat} {a1 : Int32} {a2 : Int32} {w : tb_Hp} {o : Int32 × tb_Hp} (h : fb_m_numberHere a0 a1 a2 w = some o) : tb_Ev tb_P 1 186 (0, tb_ent [.ref a0, .int a1, .int a2], [], w) (some (.int o.1), o.2) := by
  unfold fb_m_numberHere at h
  obtain ⟨r, hr⟩ : ∃ r : Option Value × tb_Hp, r = (some (.int o.1), o.2) := ⟨_, rfl⟩
  rw [← hr]
  show tb_Ev tb_P 1 186 (0, [(0, .ref a0), (1, .int a1), (2, .int a2)], [], w) r
  refine tb_Es (k := 1) (st' := (1, [(0, .ref a0), (1, .int a1), (2, .int a2)], [.ref a0], w)) rfl ?_
  replace h := Option.bind_eq_some_iff.mp h
  obtain ⟨x1, ex1, h⟩ := h
  obtain ⟨hkx1, hcall⟩ := tb_on_some ex1
  refine tb_e_cv (v := some (.int x1.1)) rfl (Or.inl ⟨_, rfl⟩) rfl rfl (Nat.le_of_ble_eq_true rfl) rfl (Nat.le_of_ble_eq_true rfl) hkx1 ((dc_m_see hcall).up (by decide)) ?_
  refine tb_Es (k := 3) (st' := (5, [(0, .ref a0), (1, .int a1), (2, .int a2)], [.ref a0, .ref a0], x1.2)) rfl ?_
  replace h := Option.bind_eq_some_iff.mp h
  obtain ⟨x2, ex2, h⟩ := h
  refine tb_e_gI rfl ex2 ?_
  replace h := Option.bind_eq_some_iff.mp h
  obtain ⟨x3, ex3, h⟩ := h
  obtain ⟨hkx3, hcall⟩ := tb_on_some ex3
  refine tb_e_cv (v := some (.int x3.1)) rfl (Or.inl ⟨_, rfl⟩) rfl rfl (Nat.le_of_ble_eq_true rfl) rfl (Nat.le_of_ble_eq_true rfl) hkx3 ((dc_m_isDigit hcall).up (by decide)) ?_
  refine tb_b_ine rfl (fun hc => ?_) (fun hc => ?_)
  · rw [if_pos hc] at h
    refine tb_Es (k := 3) (st' := (11, [(0, .ref a0), (1, .int a1), (2, .int a2)], [.ref a0, .int 0, .ref a0], x3.2)) rfl ?_
    replace h := Option.bind_eq_some_iff.mp h
    obtain ⟨x4, ex4, h⟩ := h
    refine tb_e_gI rfl ex4 ?_
    replace h := Option.bind_eq_some_iff.mp h
    obtain ⟨x5, ex5, h⟩ := h
    obtain ⟨hkx5, hcall⟩ := tb_on_some ex5
    refine tb_e_cv (v := some (.int x5.1)) rfl (Or.inl ⟨_, rfl⟩) rfl rfl (Nat.le_of_ble_eq_true rfl) rfl (Nat.le_of_ble_eq_true rfl) hkx5 ((dc_m_fails hcall).up (by decide)) ?_
    subst hr
    exact tb_r_z rfl h
  · rw [if_neg hc] at h
    refine tb_Es (k := 1) (st' := (15, [(0, .ref a0), (1, .int a1), (2, .int a2)], [.ref a0], x3.2)) rfl ?_
    replace h := Option.bind_eq_some_iff.mp h
    obtain ⟨x6, ex6, h⟩ := h
    refine tb_e_gI rfl ex6 ?_
    refine tb_Es (k := 4) (st' := (20, [(0, .ref a0), (1, .int a1), (2, .int a2), (3, .int x6), (4, .int 0)], [], x3.2)) rfl ?_
    replace h := Option.bind_eq_some_iff.mp h
    obtain ⟨o15, eo15, h⟩ := h
    refine dl_m_numberHere_19 _ a0 a1 a2 x6 0 x3.2 _ eo15 r ?_
    refine tb_Es (k := 2) (st' := (54, [(0, .ref o15.1), (1, .int o15.2.1), (2, .int o15.2.2.1), (3, .int o15.2.2.2.1), (4, .int o15.2.2.2.2.1)], [.int o15.2.2.2.2.1, .ref o15.1], o15.2.2.2.2.2)) rfl ?_
    replace h := Option.bind_eq_some_iff.mp h
    obtain ⟨w16, ew16, h⟩ := h
    refine tb_e_pI rfl ew16 ?_
    refine tb_Es (k := 1) (st' := (56, [(0, .ref o15.1), (1, .int o15.2.1), (2, .int o15.2.2.1), (3, .int o15.2.2.2.1), (4, .int o15.2.2.2.2.1)], [.ref o15.1], w16)) rfl ?_
    replace h := Option.bind_eq_some_iff.mp h
    obtain ⟨x17, ex17, h⟩ := h
    refine tb_e_gI rfl ex17 ?_
    refine tb_Es (k := 3) (st' := (60, [(0, .ref o15.1), (1, .int o15.2.1), (2, .int o15.2.2.1), (3, .int o15.2.2.2.1), (4, .int o15.2.2.2.2.1)], [.int 5, .int (x17 - o15.2.2.2.1)], w16)) rfl ?_
    refine tb_b_cgt rfl (fun hc => ?_) (fun hc => ?_)
    · rw [if_pos hc] at h
      refine tb_Es (k := 6) (st' := (67, [(0, .ref o15.1), (1, .int o15.2.1), (2, .int o15.2.2.1), (3, .int o15.2.2.2.1), (4, .int o15.2.2.2.2.1)], [.long (Int32.toInt64 o15.2.2.1), .long (Int32.toInt64 o15.2.1), .long (Int32.toInt64 o15.2.2.2.2.1)], w16)) rfl ?_
      replace h := Option.bind_eq_some_iff.mp h
      obtain ⟨x18, ex18, h⟩ := h
      have hcall := ex18
      refine tb_e_cs (v := some (.int x18.1)) rfl rfl rfl (Nat.le_of_ble_eq_true rfl) rfl (Nat.le_of_ble_eq_true rfl) ((dc_m_in hcall).up (by decide)) ?_
      refine tb_b_ine rfl (fun hc => ?_) (fun hc => ?_)
      · rw [if_pos hc] at h
        refine tb_Es (k := 1) (st' := (70, [(0, .ref o15.1), (3, .int o15.2.2.2.1)], [], x18.2)) rfl ?_
        exact dj_m_numberHere_j66 o15.1 o15.2.2.2.1 x18.2 _ h r hr
      · rw [if_neg hc] at h
        refine tb_Es (k := 2) (st' := (78, [(0, .ref o15.1), (1, .int o15.2.1), (2, .int o15.2.2.1), (3, .int o15.2.2.2.1), (4, .int o15.2.2.2.2.1)], [.int 1], x18.2)) rfl ?_
        obtain rfl := Option.some.inj h
        subst hr
        exact tb_Er rfl rfl
    · rw [if_neg hc] at h
      refine tb_Es (k := 1) (st' := (70, [(0, .ref o15.1), (3, .int o15.2.2.2.1)], [], w16)) rfl ?_
      exact dj_m_numberHere_j66 o15.1 o15.2.2.2.1 w16 _ h r hr
/-! TannerBuntingModel.makes(I)Z -/
def fb_m_makes (a0 : Nat) (a1 : Int32) (w : tb_Hp) : Option (Int32 × tb_Hp) := (tb_gI 22 12 a0 w).bind fun x1 => (if x1 = 60 then (tb_on 22 a0 w (fb_m_fails a0 3 a1 w)).bind fun x2 => tb_z x2.1 x2.2 else (tb_gI 22 12 a0 w).bind fun x3 => (tb_pI 22 12 a0 (x3 + 1) w).bind fun w4 => some (1, w4))
set_option maxHeartbeats 4000000 in
set_option maxRecDepth 20000 in
theorem dc_m_makes {a0 : Nat} {a1 : Int32} {w : tb_Hp} {o : Int32 × tb_Hp} (h : fb_m_makes a0 a1 w = some o) : tb_Ev tb_P 1 195 (0, tb_ent [.ref a0, .int a1], [], w) (some (.int o.1), o.2) := by
  unfold fb_m_makes at h
  obtain ⟨r, hr⟩ : ∃ r : Option Value × tb_Hp, r = (some (.int o.1), o.2) := ⟨_, rfl⟩
  rw [← hr]
  show tb_Ev tb_P 1 195 (0, [(0, .ref a0), (1, .int a1)], [], w) r
  refine tb_Es (k := 1) (st' := (1, [(0, .ref a0), (1, .int a1)], [.ref a0], w)) rfl ?_
  replace h := Option.bind_eq_some_iff.mp h
  obtain ⟨x1, ex1, h⟩ := h
  refine tb_e_gI rfl ex1 ?_
  refine tb_Es (k := 1) (st' := (3, [(0, .ref a0), (1, .int a1)], [.int 60, .int x1], w)) rfl ?_
  refine tb_b_cne rfl (fun hc => ?_) (fun hc => ?_)
  · rw [if_pos hc] at h
    refine tb_Es (k := 3) (st' := (7, [(0, .ref a0), (1, .int a1)], [.int a1, .int 3, .ref a0], w)) rfl ?_
    replace h := Option.bind_eq_some_iff.mp h
    obtain ⟨x2, ex2, h⟩ := h
    obtain ⟨hkx2, hcall⟩ := tb_on_some ex2
    refine tb_e_cv (v := some (.int x2.1)) rfl (Or.inl ⟨_, rfl⟩) rfl rfl (Nat.le_of_ble_eq_true rfl) rfl (Nat.le_of_ble_eq_true rfl) hkx2 ((dc_m_fails hcall).up (by decide)) ?_
    subst hr
    exact tb_r_z rfl h
  · rw [if_neg hc] at h
    refine tb_Es (k := 2) (st' := (11, [(0, .ref a0), (1, .int a1)], [.ref a0, .ref a0], w)) rfl ?_
    replace h := Option.bind_eq_some_iff.mp h
    obtain ⟨x3, ex3, h⟩ := h
    refine tb_e_gI rfl ex3 ?_
    refine tb_Es (k := 2) (st' := (14, [(0, .ref a0), (1, .int a1)], [.int (x3 + 1), .ref a0], w)) rfl ?_
    replace h := Option.bind_eq_some_iff.mp h
    obtain ⟨w4, ew4, h⟩ := h
    refine tb_e_pI rfl ew4 ?_
    refine tb_Es (k := 1) (st' := (16, [(0, .ref a0), (1, .int a1)], [.int 1], w4)) rfl ?_
    obtain rfl := Option.some.inj h
    subst hr
    exact tb_Er rfl rfl
/-! TannerBuntingModel.opens(I)Z -/
def fb_m_opens (a0 : Nat) (a1 : Int32) (w : tb_Hp) : Option (Int32 × tb_Hp) := (tb_gI 22 13 a0 w).bind fun x1 => (if x1 = 10 then (tb_gI 22 8 a0 w).bind fun x2 => (tb_on 22 a0 w (fb_m_fails a0 2 x2 w)).bind fun x3 => tb_z x3.1 x3.2 else (tb_gI 22 13 a0 w).bind fun x4 => (tb_pI 22 13 a0 (x4 + 1) w).bind fun w5 => (tb_gN 22 15 a0 w5).bind fun p6 => (tb_gI 22 16 a0 w5).bind fun x7 => (tb_tI p6 x7 a1 w5).bind fun w8 => (tb_gI 22 16 a0 w8).bind fun x9 => (tb_pI 22 16 a0 (x9 + 1) w8).bind fun w10 => some (1, w10))
set_option maxHeartbeats 4000000 in
set_option maxRecDepth 20000 in
theorem dc_m_opens {a0 : Nat} {a1 : Int32} {w : tb_Hp} {o : Int32 × tb_Hp} (h : fb_m_opens a0 a1 w = some o) : tb_Ev tb_P 1 201 (0, tb_ent [.ref a0, .int a1], [], w) (some (.int o.1), o.2) := by
  unfold fb_m_opens at h
  obtain ⟨r, hr⟩ : ∃ r : Option Value × tb_Hp, r = (some (.int o.1), o.2) := ⟨_, rfl⟩
  rw [← hr]
  show tb_Ev tb_P 1 201 (0, [(0, .ref a0), (1, .int a1)], [], w) r
  refine tb_Es (k := 1) (st' := (1, [(0, .ref a0), (1, .int a1)], [.ref a0], w)) rfl ?_
  replace h := Option.bind_eq_some_iff.mp h
  obtain ⟨x1, ex1, h⟩ := h
  refine tb_e_gI rfl ex1 ?_
  refine tb_Es (k := 1) (st' := (3, [(0, .ref a0), (1, .int a1)], [.int 10, .int x1], w)) rfl ?_
  refine tb_b_cne rfl (fun hc => ?_) (fun hc => ?_)
  · rw [if_pos hc] at h
    refine tb_Es (k := 3) (st' := (7, [(0, .ref a0), (1, .int a1)], [.ref a0, .int 2, .ref a0], w)) rfl ?_
    replace h := Option.bind_eq_some_iff.mp h
    obtain ⟨x2, ex2, h⟩ := h
    refine tb_e_gI rfl ex2 ?_
    replace h := Option.bind_eq_some_iff.mp h
    obtain ⟨x3, ex3, h⟩ := h
    obtain ⟨hkx3, hcall⟩ := tb_on_some ex3
    refine tb_e_cv (v := some (.int x3.1)) rfl (Or.inl ⟨_, rfl⟩) rfl rfl (Nat.le_of_ble_eq_true rfl) rfl (Nat.le_of_ble_eq_true rfl) hkx3 ((dc_m_fails hcall).up (by decide)) ?_
    subst hr
    exact tb_r_z rfl h
  · rw [if_neg hc] at h
    refine tb_Es (k := 2) (st' := (12, [(0, .ref a0), (1, .int a1)], [.ref a0, .ref a0], w)) rfl ?_
    replace h := Option.bind_eq_some_iff.mp h
    obtain ⟨x4, ex4, h⟩ := h
    refine tb_e_gI rfl ex4 ?_
    refine tb_Es (k := 2) (st' := (15, [(0, .ref a0), (1, .int a1)], [.int (x4 + 1), .ref a0], w)) rfl ?_
    replace h := Option.bind_eq_some_iff.mp h
    obtain ⟨w5, ew5, h⟩ := h
    refine tb_e_pI rfl ew5 ?_
    refine tb_Es (k := 1) (st' := (17, [(0, .ref a0), (1, .int a1)], [.ref a0], w5)) rfl ?_
    replace h := Option.bind_eq_some_iff.mp h
    obtain ⟨p6, ep6, h⟩ := h
    refine tb_e_gN rfl ep6 ?_
    refine tb_Es (k := 1) (st' := (19, [(0, .ref a0), (1, .int a1)], [.ref a0, .ref p6], w5)) rfl ?_
    replace h := Option.bind_eq_some_iff.mp h
    obtain ⟨x7, ex7, h⟩ := h
    refine tb_e_gI rfl ex7 ?_
    refine tb_Es (k := 1) (st' := (21, [(0, .ref a0), (1, .int a1)], [.int a1, .int x7, .ref p6], w5)) rfl ?_
    replace h := Option.bind_eq_some_iff.mp h
    obtain ⟨w8, ew8, h⟩ := h
    refine tb_e_tI rfl ew8 ?_
    refine tb_Es (k := 2) (st' := (24, [(0, .ref a0), (1, .int a1)], [.ref a0, .ref a0], w8)) rfl ?_
    replace h := Option.bind_eq_some_iff.mp h
    obtain ⟨x9, ex9, h⟩ := h
    refine tb_e_gI rfl ex9 ?_
    refine tb_Es (k := 2) (st' := (27, [(0, .ref a0), (1, .int a1)], [.int (x9 + 1), .ref a0], w8)) rfl ?_
    replace h := Option.bind_eq_some_iff.mp h
    obtain ⟨w10, ew10, h⟩ := h
    refine tb_e_pI rfl ew10 ?_
    refine tb_Es (k := 1) (st' := (29, [(0, .ref a0), (1, .int a1)], [.int 1], w10)) rfl ?_
    obtain rfl := Option.some.inj h
    subst hr
    exact tb_Er rfl rfl
/-! TannerBuntingModel.layDown(I)V -/
def fl_m_layDown_0 : Nat → Nat → Int32 → tb_Hp → Option (tb_Hp)
  | 0, _, _, _ => none
  | n + 1, v0, v1, w => (tb_gI 22 16 v0 w).bind fun x1 => (if 0 < x1 then (tb_gN 22 15 v0 w).bind fun p2 => (tb_gI 22 16 v0 w).bind fun x3 => (tb_lI [1, 9] p2 (x3 - 1) w).bind fun x4 => (fb_m_strength x4 w).bind fun x5 => (if x5.1 < v1 then some (x5.2) else (tb_gI 22 16 v0 x5.2).bind fun x6 => (tb_pI 22 16 v0 (x6 - 1) x5.2).bind fun w7 => (tb_gN 22 15 v0 w7).bind fun p8 => (tb_gI 22 16 v0 w7).bind fun x9 => (tb_lI [1, 9] p8 x9 w7).bind fun x10 => (tb_on 22 v0 w7 (fb_m_puts v0 x10 0 w7)).bind fun x11 => (tb_gN 22 15 v0 x11).bind fun p12 => (tb_gI 22 16 v0 x11).bind fun x13 => (tb_lI [1, 9] p12 x13 x11).bind fun x14 => (if x14 = 11 then (tb_gI 22 13 v0 x11).bind fun x15 => (tb_pI 22 13 v0 (x15 - 1) x11).bind fun w16 => fl_m_layDown_0 n v0 v1 w16 else fl_m_layDown_0 n v0 v1 x11)) else some (w))
set_option maxHeartbeats 4000000 in
set_option maxRecDepth 20000 in
theorem dl_m_layDown_0 : ∀ (n : Nat) (v0 : Nat) (v1 : Int32) (w : tb_Hp) (o : tb_Hp), fl_m_layDown_0 n v0 v1 w = some o → ∀ (r : Option Value × tb_Hp), tb_Ev tb_P 1 204 (43, [], [], o) r → tb_Ev tb_P 1 204 (1, [(0, .ref v0), (1, .int v1)], [], w) r := by
  intro n
  induction n with
  | zero =>
    intro v0 v1 w o h
    cases h
  | succ n ih =>
    intro v0 v1 w o h r hx
    unfold fl_m_layDown_0 at h
    refine tb_Es (k := 1) (st' := (2, [(0, .ref v0), (1, .int v1)], [.ref v0], w)) rfl ?_
    replace h := Option.bind_eq_some_iff.mp h
    obtain ⟨x1, ex1, h⟩ := h
    refine tb_e_gI rfl ex1 ?_
    refine tb_b_ile rfl (fun hc => ?_) (fun hc => ?_)
    · rw [if_pos hc] at h
      refine tb_Es (k := 1) (st' := (5, [(0, .ref v0), (1, .int v1)], [.ref v0], w)) rfl ?_
      replace h := Option.bind_eq_some_iff.mp h
      obtain ⟨p2, ep2, h⟩ := h
      refine tb_e_gN rfl ep2 ?_
      refine tb_Es (k := 1) (st' := (7, [(0, .ref v0), (1, .int v1)], [.ref v0, .ref p2], w)) rfl ?_
      replace h := Option.bind_eq_some_iff.mp h
      obtain ⟨x3, ex3, h⟩ := h
      refine tb_e_gI rfl ex3 ?_
      refine tb_Es (k := 2) (st' := (10, [(0, .ref v0), (1, .int v1)], [.int (x3 - 1), .ref p2], w)) rfl ?_
      replace h := Option.bind_eq_some_iff.mp h
      obtain ⟨x4, ex4, h⟩ := h
      refine tb_e_lI rfl (Or.inl ⟨rfl, rfl⟩) ex4 ?_
      replace h := Option.bind_eq_some_iff.mp h
      obtain ⟨x5, ex5, h⟩ := h
      have hcall := ex5
      refine tb_e_cs (v := some (.int x5.1)) rfl rfl rfl (Nat.le_of_ble_eq_true rfl) rfl (Nat.le_of_ble_eq_true rfl) ((dc_m_strength hcall).up (by decide)) ?_
      refine tb_Es (k := 1) (st' := (13, [(0, .ref v0), (1, .int v1)], [.int v1, .int x5.1], x5.2)) rfl ?_
      refine tb_b_clt rfl (fun hc => ?_) (fun hc => ?_)
      · rw [if_pos hc] at h
        refine tb_Es (k := 1) (st' := (43, [], [], x5.2)) rfl ?_
        obtain rfl := Option.some.inj h
        exact hx
      · rw [if_neg hc] at h
        refine tb_Es (k := 2) (st' := (16, [(0, .ref v0), (1, .int v1)], [.ref v0, .ref v0], x5.2)) rfl ?_
        replace h := Option.bind_eq_some_iff.mp h
        obtain ⟨x6, ex6, h⟩ := h
        refine tb_e_gI rfl ex6 ?_
        refine tb_Es (k := 2) (st' := (19, [(0, .ref v0), (1, .int v1)], [.int (x6 - 1), .ref v0], x5.2)) rfl ?_
        replace h := Option.bind_eq_some_iff.mp h
        obtain ⟨w7, ew7, h⟩ := h
        refine tb_e_pI rfl ew7 ?_
        refine tb_Es (k := 2) (st' := (22, [(0, .ref v0), (1, .int v1)], [.ref v0, .ref v0], w7)) rfl ?_
        replace h := Option.bind_eq_some_iff.mp h
        obtain ⟨p8, ep8, h⟩ := h
        refine tb_e_gN rfl ep8 ?_
        refine tb_Es (k := 1) (st' := (24, [(0, .ref v0), (1, .int v1)], [.ref v0, .ref p8, .ref v0], w7)) rfl ?_
        replace h := Option.bind_eq_some_iff.mp h
        obtain ⟨x9, ex9, h⟩ := h
        refine tb_e_gI rfl ex9 ?_
        replace h := Option.bind_eq_some_iff.mp h
        obtain ⟨x10, ex10, h⟩ := h
        refine tb_e_lI rfl (Or.inl ⟨rfl, rfl⟩) ex10 ?_
        refine tb_Es (k := 1) (st' := (27, [(0, .ref v0), (1, .int v1)], [.int 0, .int x10, .ref v0], w7)) rfl ?_
        replace h := Option.bind_eq_some_iff.mp h
        obtain ⟨x11, ex11, h⟩ := h
        obtain ⟨hkx11, hcall⟩ := tb_on_some ex11
        refine tb_e_cv (v := none) rfl (Or.inl ⟨_, rfl⟩) rfl rfl (Nat.le_of_ble_eq_true rfl) rfl (Nat.le_of_ble_eq_true rfl) hkx11 ((dc_m_puts hcall).up (by decide)) ?_
        refine tb_Es (k := 1) (st' := (29, [(0, .ref v0), (1, .int v1)], [.ref v0], x11)) rfl ?_
        replace h := Option.bind_eq_some_iff.mp h
        obtain ⟨p12, ep12, h⟩ := h
        refine tb_e_gN rfl ep12 ?_
        refine tb_Es (k := 1) (st' := (31, [(0, .ref v0), (1, .int v1)], [.ref v0, .ref p12], x11)) rfl ?_
        replace h := Option.bind_eq_some_iff.mp h
        obtain ⟨x13, ex13, h⟩ := h
        refine tb_e_gI rfl ex13 ?_
        replace h := Option.bind_eq_some_iff.mp h
        obtain ⟨x14, ex14, h⟩ := h
        refine tb_e_lI rfl (Or.inl ⟨rfl, rfl⟩) ex14 ?_
        refine tb_Es (k := 1) (st' := (34, [(0, .ref v0), (1, .int v1)], [.int 11, .int x14], x11)) rfl ?_
        refine tb_b_cne rfl (fun hc => ?_) (fun hc => ?_)
        · rw [if_pos hc] at h
          refine tb_Es (k := 2) (st' := (37, [(0, .ref v0), (1, .int v1)], [.ref v0, .ref v0], x11)) rfl ?_
          replace h := Option.bind_eq_some_iff.mp h
          obtain ⟨x15, ex15, h⟩ := h
          refine tb_e_gI rfl ex15 ?_
          refine tb_Es (k := 2) (st' := (40, [(0, .ref v0), (1, .int v1)], [.int (x15 - 1), .ref v0], x11)) rfl ?_
          replace h := Option.bind_eq_some_iff.mp h
          obtain ⟨w16, ew16, h⟩ := h
          refine tb_e_pI rfl ew16 ?_
          refine tb_Es (k := 2) (st' := (1, [(0, .ref v0), (1, .int v1)], [], w16)) rfl ?_
          exact ih v0 v1 w16 _ h r hx
        · rw [if_neg hc] at h
          refine tb_Es (k := 1) (st' := (1, [(0, .ref v0), (1, .int v1)], [], x11)) rfl ?_
          exact ih v0 v1 x11 _ h r hx
    · rw [if_neg hc] at h
      refine tb_Es (k := 1) (st' := (43, [], [], w)) rfl ?_
      obtain rfl := Option.some.inj h
      exact hx
def fb_m_layDown (a0 : Nat) (a1 : Int32) (w : tb_Hp) : Option (tb_Hp) := (fl_m_layDown_0 1048576 a0 a1 w).bind fun o17 => some o17
set_option maxHeartbeats 4000000 in
set_option maxRecDepth 20000 in
theorem dc_m_layDown {a0 : Nat} {a1 : Int32} {w : tb_Hp} {o : tb_Hp} (h : fb_m_layDown a0 a1 w = some o) : tb_Ev tb_P 1 204 (0, tb_ent [.ref a0, .int a1], [], w) (none, o) := by
  unfold fb_m_layDown at h
  obtain ⟨r, hr⟩ : ∃ r : Option Value × tb_Hp, r = (none, o) := ⟨_, rfl⟩
  rw [← hr]
  show tb_Ev tb_P 1 204 (0, [(0, .ref a0), (1, .int a1)], [], w) r
  refine tb_Es (k := 1) (st' := (1, [(0, .ref a0), (1, .int a1)], [], w)) rfl ?_
  replace h := Option.bind_eq_some_iff.mp h
  obtain ⟨o17, eo17, h⟩ := h
  refine dl_m_layDown_0 _ a0 a1 w _ eo17 r ?_
  obtain rfl := Option.some.inj h
  subst hr
  exact tb_Er rfl rfl
/-! TannerBuntingModel.begins()V -/
def fl_m_begins_15 : Nat → Nat → Int32 → tb_Hp → Option (Nat × tb_Hp)
  | 0, _, _, _ => none
  | n + 1, v0, v1, w => (if v1 < 10 then (tb_gN 22 20 v0 w).bind fun p7 => (tb_gN 22 20 v0 w).bind fun p8 => (tb_lI [1, 9] p8 (74 + v1) w).bind fun x9 => (tb_tI p7 (12 + v1) x9 w).bind fun w10 => (tb_gN 22 20 v0 w10).bind fun p11 => (tb_gN 22 20 v0 w10).bind fun p12 => (tb_lI [1, 9] p12 (84 + v1) w10).bind fun x13 => (tb_tI p11 (22 + v1) x13 w10).bind fun w14 => (tb_gN 22 20 v0 w14).bind fun p15 => (tb_tI p15 (32 + v1) 1 w14).bind fun w16 => fl_m_begins_15 n v0 (v1 + 1) w16 else some ((v0, w)))
set_option maxHeartbeats 4000000 in
set_option maxRecDepth 20000 in
theorem dl_m_begins_15 : ∀ (n : Nat) (v0 : Nat) (v1 : Int32) (w : tb_Hp) (o : Nat × tb_Hp), fl_m_begins_15 n v0 v1 w = some o → ∀ (r : Option Value × tb_Hp), tb_Ev tb_P 1 208 (53, [(0, .ref o.1)], [], o.2) r → tb_Ev tb_P 1 208 (16, [(0, .ref v0), (1, .int v1)], [], w) r := by
  intro n
  induction n with
  | zero =>
    intro v0 v1 w o h
    cases h
  | succ n ih =>
    intro v0 v1 w o h r hx
    unfold fl_m_begins_15 at h
    refine tb_Es (k := 2) (st' := (18, [(0, .ref v0), (1, .int v1)], [.int 10, .int v1], w)) rfl ?_
    refine tb_b_cge rfl (fun hc => ?_) (fun hc => ?_)
    · rw [if_pos hc] at h
      refine tb_Es (k := 1) (st' := (20, [(0, .ref v0), (1, .int v1)], [.ref v0], w)) rfl ?_
      replace h := Option.bind_eq_some_iff.mp h
      obtain ⟨p7, ep7, h⟩ := h
      refine tb_e_gN rfl ep7 ?_
      refine tb_Es (k := 4) (st' := (25, [(0, .ref v0), (1, .int v1)], [.ref v0, .int (12 + v1), .ref p7], w)) rfl ?_
      replace h := Option.bind_eq_some_iff.mp h
      obtain ⟨p8, ep8, h⟩ := h
      refine tb_e_gN rfl ep8 ?_
      refine tb_Es (k := 3) (st' := (29, [(0, .ref v0), (1, .int v1)], [.int (74 + v1), .ref p8, .int (12 + v1), .ref p7], w)) rfl ?_
      replace h := Option.bind_eq_some_iff.mp h
      obtain ⟨x9, ex9, h⟩ := h
      refine tb_e_lI rfl (Or.inl ⟨rfl, rfl⟩) ex9 ?_
      replace h := Option.bind_eq_some_iff.mp h
      obtain ⟨w10, ew10, h⟩ := h
      refine tb_e_tI rfl ew10 ?_
      refine tb_Es (k := 1) (st' := (32, [(0, .ref v0), (1, .int v1)], [.ref v0], w10)) rfl ?_
      replace h := Option.bind_eq_some_iff.mp h
      obtain ⟨p11, ep11, h⟩ := h
      refine tb_e_gN rfl ep11 ?_
      refine tb_Es (k := 4) (st' := (37, [(0, .ref v0), (1, .int v1)], [.ref v0, .int (22 + v1), .ref p11], w10)) rfl ?_
      replace h := Option.bind_eq_some_iff.mp h
      obtain ⟨p12, ep12, h⟩ := h
      refine tb_e_gN rfl ep12 ?_
      refine tb_Es (k := 3) (st' := (41, [(0, .ref v0), (1, .int v1)], [.int (84 + v1), .ref p12, .int (22 + v1), .ref p11], w10)) rfl ?_
      replace h := Option.bind_eq_some_iff.mp h
      obtain ⟨x13, ex13, h⟩ := h
      refine tb_e_lI rfl (Or.inl ⟨rfl, rfl⟩) ex13 ?_
      replace h := Option.bind_eq_some_iff.mp h
      obtain ⟨w14, ew14, h⟩ := h
      refine tb_e_tI rfl ew14 ?_
      refine tb_Es (k := 1) (st' := (44, [(0, .ref v0), (1, .int v1)], [.ref v0], w14)) rfl ?_
      replace h := Option.bind_eq_some_iff.mp h
      obtain ⟨p15, ep15, h⟩ := h
      refine tb_e_gN rfl ep15 ?_
      refine tb_Es (k := 4) (st' := (49, [(0, .ref v0), (1, .int v1)], [.int 1, .int (32 + v1), .ref p15], w14)) rfl ?_
      replace h := Option.bind_eq_some_iff.mp h
      obtain ⟨w16, ew16, h⟩ := h
      refine tb_e_tI rfl ew16 ?_
      refine tb_Es (k := 3) (st' := (16, [(0, .ref v0), (1, .int (v1 + 1))], [], w16)) rfl ?_
      exact ih v0 (v1 + 1) w16 _ h r hx
    · rw [if_neg hc] at h
      refine tb_Es (k := 1) (st' := (53, [(0, .ref v0)], [], w)) rfl ?_
      obtain rfl := Option.some.inj h
      exact hx
def fl_m_begins_53 : Nat → Nat → Int32 → tb_Hp → Option (Nat × tb_Hp)
  | 0, _, _, _ => none
  | n + 1, v0, v1, w => (if v1 < 74 then (tb_gN 22 20 v0 w).bind fun p18 => (tb_tI p18 v1 0 w).bind fun w19 => fl_m_begins_53 n v0 (v1 + 1) w19 else some ((v0, w)))
set_option maxHeartbeats 4000000 in
set_option maxRecDepth 20000 in
theorem dl_m_begins_53 : ∀ (n : Nat) (v0 : Nat) (v1 : Int32) (w : tb_Hp) (o : Nat × tb_Hp), fl_m_begins_53 n v0 v1 w = some o → ∀ (r : Option Value × tb_Hp), tb_Ev tb_P 1 208 (67, [(0, .ref o.1)], [], o.2) r → tb_Ev tb_P 1 208 (56, [(0, .ref v0), (1, .int v1)], [], w) r := by
  intro n
  induction n with
  | zero =>
    intro v0 v1 w o h
    cases h
  | succ n ih =>
    intro v0 v1 w o h r hx
    unfold fl_m_begins_53 at h
    refine tb_Es (k := 2) (st' := (58, [(0, .ref v0), (1, .int v1)], [.int 74, .int v1], w)) rfl ?_
    refine tb_b_cge rfl (fun hc => ?_) (fun hc => ?_)
    · rw [if_pos hc] at h
      refine tb_Es (k := 1) (st' := (60, [(0, .ref v0), (1, .int v1)], [.ref v0], w)) rfl ?_
      replace h := Option.bind_eq_some_iff.mp h
      obtain ⟨p18, ep18, h⟩ := h
      refine tb_e_gN rfl ep18 ?_
      refine tb_Es (k := 2) (st' := (63, [(0, .ref v0), (1, .int v1)], [.int 0, .int v1, .ref p18], w)) rfl ?_
      replace h := Option.bind_eq_some_iff.mp h
      obtain ⟨w19, ew19, h⟩ := h
      refine tb_e_tI rfl ew19 ?_
      refine tb_Es (k := 3) (st' := (56, [(0, .ref v0), (1, .int (v1 + 1))], [], w19)) rfl ?_
      exact ih v0 (v1 + 1) w19 _ h r hx
    · rw [if_neg hc] at h
      refine tb_Es (k := 1) (st' := (67, [(0, .ref v0)], [], w)) rfl ?_
      obtain rfl := Option.some.inj h
      exact hx
def fl_m_begins_65 : Nat → Nat → Int32 → tb_Hp → Option (tb_Hp)
  | 0, _, _, _ => none
  | n + 1, v0, v1, w => (tb_gN 22 20 v0 w).bind fun p21 => (tb_lI [1, 9] p21 3 w).bind fun x22 => (if v1 < x22 then (tb_gN 22 20 v0 w).bind fun p23 => (tb_lI [1, 9] p23 (94 + (3 * v1)) w).bind fun x24 => (tb_gN 22 20 v0 w).bind fun p25 => (tb_lI [1, 9] p25 ((94 + (3 * v1)) + 1) w).bind fun x26 => (tb_gN 22 20 v0 w).bind fun p27 => (tb_lI [1, 9] p27 ((94 + (3 * v1)) + 2) w).bind fun x28 => (tb_on 22 v0 w (fb_m_ups v0 v1 x24 x26 x28 w)).bind fun x29 => fl_m_begins_65 n v0 (v1 + 1) x29 else some (w))
set_option maxHeartbeats 4000000 in
set_option maxRecDepth 20000 in
theorem dl_m_begins_65 : ∀ (n : Nat) (v0 : Nat) (v1 : Int32) (w : tb_Hp) (o : tb_Hp), fl_m_begins_65 n v0 v1 w = some o → ∀ (r : Option Value × tb_Hp), tb_Ev tb_P 1 208 (110, [], [], o) r → tb_Ev tb_P 1 208 (70, [(0, .ref v0), (1, .int v1)], [], w) r := by
  intro n
  induction n with
  | zero =>
    intro v0 v1 w o h
    cases h
  | succ n ih =>
    intro v0 v1 w o h r hx
    unfold fl_m_begins_65 at h
    refine tb_Es (k := 2) (st' := (72, [(0, .ref v0), (1, .int v1)], [.ref v0, .int v1], w)) rfl ?_
    replace h := Option.bind_eq_some_iff.mp h
    obtain ⟨p21, ep21, h⟩ := h
    refine tb_e_gN rfl ep21 ?_
    refine tb_Es (k := 1) (st' := (74, [(0, .ref v0), (1, .int v1)], [.int 3, .ref p21, .int v1], w)) rfl ?_
    replace h := Option.bind_eq_some_iff.mp h
    obtain ⟨x22, ex22, h⟩ := h
    refine tb_e_lI rfl (Or.inl ⟨rfl, rfl⟩) ex22 ?_
    refine tb_b_cge rfl (fun hc => ?_) (fun hc => ?_)
    · rw [if_pos hc] at h
      refine tb_Es (k := 3) (st' := (79, [(0, .ref v0), (1, .int v1)], [.ref v0, .int v1, .ref v0], w)) rfl ?_
      replace h := Option.bind_eq_some_iff.mp h
      obtain ⟨p23, ep23, h⟩ := h
      refine tb_e_gN rfl ep23 ?_
      refine tb_Es (k := 5) (st' := (85, [(0, .ref v0), (1, .int v1)], [.int (94 + (3 * v1)), .ref p23, .int v1, .ref v0], w)) rfl ?_
      replace h := Option.bind_eq_some_iff.mp h
      obtain ⟨x24, ex24, h⟩ := h
      refine tb_e_lI rfl (Or.inl ⟨rfl, rfl⟩) ex24 ?_
      refine tb_Es (k := 1) (st' := (87, [(0, .ref v0), (1, .int v1)], [.ref v0, .int x24, .int v1, .ref v0], w)) rfl ?_
      replace h := Option.bind_eq_some_iff.mp h
      obtain ⟨p25, ep25, h⟩ := h
      refine tb_e_gN rfl ep25 ?_
      refine tb_Es (k := 7) (st' := (95, [(0, .ref v0), (1, .int v1)], [.int ((94 + (3 * v1)) + 1), .ref p25, .int x24, .int v1, .ref v0], w)) rfl ?_
      replace h := Option.bind_eq_some_iff.mp h
      obtain ⟨x26, ex26, h⟩ := h
      refine tb_e_lI rfl (Or.inl ⟨rfl, rfl⟩) ex26 ?_
      refine tb_Es (k := 1) (st' := (97, [(0, .ref v0), (1, .int v1)], [.ref v0, .int x26, .int x24, .int v1, .ref v0], w)) rfl ?_
      replace h := Option.bind_eq_some_iff.mp h
      obtain ⟨p27, ep27, h⟩ := h
      refine tb_e_gN rfl ep27 ?_
      refine tb_Es (k := 7) (st' := (105, [(0, .ref v0), (1, .int v1)], [.int ((94 + (3 * v1)) + 2), .ref p27, .int x26, .int x24, .int v1, .ref v0], w)) rfl ?_
      replace h := Option.bind_eq_some_iff.mp h
      obtain ⟨x28, ex28, h⟩ := h
      refine tb_e_lI rfl (Or.inl ⟨rfl, rfl⟩) ex28 ?_
      replace h := Option.bind_eq_some_iff.mp h
      obtain ⟨x29, ex29, h⟩ := h
      obtain ⟨hkx29, hcall⟩ := tb_on_some ex29
      refine tb_e_cv (v := none) rfl (Or.inl ⟨_, rfl⟩) rfl rfl (Nat.le_of_ble_eq_true rfl) rfl (Nat.le_of_ble_eq_true rfl) hkx29 ((dc_m_ups hcall).up (by decide)) ?_
      refine tb_Es (k := 3) (st' := (70, [(0, .ref v0), (1, .int (v1 + 1))], [], x29)) rfl ?_
      exact ih v0 (v1 + 1) x29 _ h r hx
    · rw [if_neg hc] at h
      refine tb_Es (k := 1) (st' := (110, [], [], w)) rfl ?_
      obtain rfl := Option.some.inj h
      exact hx
def fb_m_begins (a0 : Nat) (w : tb_Hp) : Option (tb_Hp) := (tb_gN 22 20 a0 w).bind fun p1 => (tb_tI p1 10 0 w).bind fun w2 => (tb_gN 22 20 a0 w2).bind fun p3 => (tb_gN 22 20 a0 w2).bind fun p4 => (tb_lI [1, 9] p4 3 w2).bind fun x5 => (tb_tI p3 11 x5 w2).bind fun w6 => (fl_m_begins_15 1048576 a0 0 w6).bind fun o17 => (fl_m_begins_53 1048576 o17.1 42 o17.2).bind fun o20 => (fl_m_begins_65 1048576 o20.1 0 o20.2).bind fun o30 => some o30
set_option maxHeartbeats 4000000 in
set_option maxRecDepth 20000 in
theorem dc_m_begins {a0 : Nat} {w : tb_Hp} {o : tb_Hp} (h : fb_m_begins a0 w = some o) : tb_Ev tb_P 1 208 (0, tb_ent [.ref a0], [], w) (none, o) := by
  unfold fb_m_begins at h
  obtain ⟨r, hr⟩ : ∃ r : Option Value × tb_Hp, r = (none, o) := ⟨_, rfl⟩
  rw [← hr]
  show tb_Ev tb_P 1 208 (0, [(0, .ref a0)], [], w) r
  refine tb_Es (k := 1) (st' := (1, [(0, .ref a0)], [.ref a0], w)) rfl ?_
  replace h := Option.bind_eq_some_iff.mp h
  obtain ⟨p1, ep1, h⟩ := h
  refine tb_e_gN rfl ep1 ?_
  refine tb_Es (k := 2) (st' := (4, [(0, .ref a0)], [.int 0, .int 10, .ref p1], w)) rfl ?_
  replace h := Option.bind_eq_some_iff.mp h
  obtain ⟨w2, ew2, h⟩ := h
  refine tb_e_tI rfl ew2 ?_
  refine tb_Es (k := 1) (st' := (6, [(0, .ref a0)], [.ref a0], w2)) rfl ?_
  replace h := Option.bind_eq_some_iff.mp h
  obtain ⟨p3, ep3, h⟩ := h
  refine tb_e_gN rfl ep3 ?_
  refine tb_Es (k := 2) (st' := (9, [(0, .ref a0)], [.ref a0, .int 11, .ref p3], w2)) rfl ?_
  replace h := Option.bind_eq_some_iff.mp h
  obtain ⟨p4, ep4, h⟩ := h
  refine tb_e_gN rfl ep4 ?_
  refine tb_Es (k := 1) (st' := (11, [(0, .ref a0)], [.int 3, .ref p4, .int 11, .ref p3], w2)) rfl ?_
  replace h := Option.bind_eq_some_iff.mp h
  obtain ⟨x5, ex5, h⟩ := h
  refine tb_e_lI rfl (Or.inl ⟨rfl, rfl⟩) ex5 ?_
  replace h := Option.bind_eq_some_iff.mp h
  obtain ⟨w6, ew6, h⟩ := h
  refine tb_e_tI rfl ew6 ?_
  refine tb_Es (k := 3) (st' := (16, [(0, .ref a0), (1, .int 0)], [], w6)) rfl ?_
  replace h := Option.bind_eq_some_iff.mp h
  obtain ⟨o17, eo17, h⟩ := h
  refine dl_m_begins_15 _ a0 0 w6 _ eo17 r ?_
  refine tb_Es (k := 3) (st' := (56, [(0, .ref o17.1), (1, .int 42)], [], o17.2)) rfl ?_
  replace h := Option.bind_eq_some_iff.mp h
  obtain ⟨o20, eo20, h⟩ := h
  refine dl_m_begins_53 _ o17.1 42 o17.2 _ eo20 r ?_
  refine tb_Es (k := 3) (st' := (70, [(0, .ref o20.1), (1, .int 0)], [], o20.2)) rfl ?_
  replace h := Option.bind_eq_some_iff.mp h
  obtain ⟨o30, eo30, h⟩ := h
  refine dl_m_begins_65 _ o20.1 0 o20.2 _ eo30 r ?_
  obtain rfl := Option.some.inj h
  subst hr
  exact tb_Er rfl rfl
