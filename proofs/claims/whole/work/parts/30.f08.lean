/-! TannerBunting$Text.splitWord(I)I -/
def fl_t_splitWord_2 : Nat → Nat → Int32 → Int32 → tb_Hp → Option (Nat × Int32 × Int32 × tb_Hp)
  | 0, _, _, _, _ => none
  | n + 1, v0, v1, v2, w => (tb_gI 19 0 v0 w).bind fun x1 => (if v2 < x1 then (tb_on 19 v0 w (fb_t_byteAt v0 v2 w)).bind fun x2 => (fb_t_isLetter x2.1 x2.2).bind fun x3 => (if x3.1 = 0 then some ((v0, v1, v2, x3.2)) else fl_t_splitWord_2 n v0 v1 (v2 + 1) x3.2) else some ((v0, v1, v2, w)))
set_option maxHeartbeats 4000000 in
set_option maxRecDepth 20000 in
theorem dl_t_splitWord_2 : ∀ (n : Nat) (v0 : Nat) (v1 : Int32) (v2 : Int32) (w : tb_Hp) (o : Nat × Int32 × Int32 × tb_Hp), fl_t_splitWord_2 n v0 v1 v2 w = some o → ∀ (r : Option Value × tb_Hp), tb_Ev tb_P 2 25 (15, [(0, .ref o.1), (1, .int o.2.1), (2, .int o.2.2.1)], [], o.2.2.2) r → tb_Ev tb_P 2 25 (3, [(0, .ref v0), (1, .int v1), (2, .int v2)], [], w) r := by
  intro n
  induction n with
  | zero =>
    intro v0 v1 v2 w o h
    cases h
  | succ n ih =>
    intro v0 v1 v2 w o h r hx
    unfold fl_t_splitWord_2 at h
    refine tb_Es (k := 2) (st' := (5, [(0, .ref v0), (1, .int v1), (2, .int v2)], [.ref v0, .int v2], w)) rfl ?_
    replace h := Option.bind_eq_some_iff.mp h
    obtain ⟨x1, ex1, h⟩ := h
    refine tb_e_gI rfl ex1 ?_
    refine tb_b_cge rfl (fun hc => ?_) (fun hc => ?_)
    · rw [if_pos hc] at h
      refine tb_Es (k := 2) (st' := (9, [(0, .ref v0), (1, .int v1), (2, .int v2)], [.int v2, .ref v0], w)) rfl ?_
      replace h := Option.bind_eq_some_iff.mp h
      obtain ⟨x2, ex2, h⟩ := h
      obtain ⟨hkx2, hcall⟩ := tb_on_some ex2
      refine tb_e_cv (v := some (.int x2.1)) rfl (Or.inl ⟨_, rfl⟩) rfl rfl (Nat.le_of_ble_eq_true rfl) rfl (Nat.le_of_ble_eq_true rfl) hkx2 ((dc_t_byteAt hcall).up (by decide)) ?_
      replace h := Option.bind_eq_some_iff.mp h
      obtain ⟨x3, ex3, h⟩ := h
      have hcall := ex3
      refine tb_e_cs (v := some (.int x3.1)) rfl rfl rfl (Nat.le_of_ble_eq_true rfl) rfl (Nat.le_of_ble_eq_true rfl) ((dc_t_isLetter hcall).up (by decide)) ?_
      refine tb_b_ieq rfl (fun hc => ?_) (fun hc => ?_)
      · rw [if_pos hc] at h
        refine tb_Es (k := 1) (st' := (15, [(0, .ref v0), (1, .int v1), (2, .int v2)], [], x3.2)) rfl ?_
        obtain rfl := Option.some.inj h
        exact hx
      · rw [if_neg hc] at h
        refine tb_Es (k := 3) (st' := (3, [(0, .ref v0), (1, .int v1), (2, .int (v2 + 1))], [], x3.2)) rfl ?_
        exact ih v0 v1 (v2 + 1) x3.2 _ h r hx
    · rw [if_neg hc] at h
      refine tb_Es (k := 1) (st' := (15, [(0, .ref v0), (1, .int v1), (2, .int v2)], [], w)) rfl ?_
      obtain rfl := Option.some.inj h
      exact hx
def fl_t_splitWord_17 : Nat → Nat → Int32 → Int32 → Int32 → Int32 → tb_Hp → Option (Nat × Int32 × Int32 × Int32 × tb_Hp)
  | 0, _, _, _, _, _, _ => none
  | n + 1, v0, v1, v2, v3, v4, w => (if v4 < 39 then (fb_t_spellingOf v4 w).bind fun x5 => (tb_on 19 v0 x5.2 (fb_t_isSpelt v0 x5.1 v1 v2 x5.2)).bind fun x6 => (if x6.1 = 0 then fl_t_splitWord_17 n v0 v1 v2 v3 (v4 + 1) x6.2 else fl_t_splitWord_17 n v0 v1 v2 v4 (v4 + 1) x6.2) else some ((v0, v1, v2, v3, w)))
set_option maxHeartbeats 4000000 in
set_option maxRecDepth 20000 in
theorem dl_t_splitWord_17 : ∀ (n : Nat) (v0 : Nat) (v1 : Int32) (v2 : Int32) (v3 : Int32) (v4 : Int32) (w : tb_Hp) (o : Nat × Int32 × Int32 × Int32 × tb_Hp), fl_t_splitWord_17 n v0 v1 v2 v3 v4 w = some o → ∀ (r : Option Value × tb_Hp), tb_Ev tb_P 2 25 (35, [(0, .ref o.1), (1, .int o.2.1), (2, .int o.2.2.1), (3, .int o.2.2.2.1)], [], o.2.2.2.2) r → tb_Ev tb_P 2 25 (20, [(0, .ref v0), (1, .int v1), (2, .int v2), (3, .int v3), (4, .int v4)], [], w) r := by
  intro n
  induction n with
  | zero =>
    intro v0 v1 v2 v3 v4 w o h
    cases h
  | succ n ih =>
    intro v0 v1 v2 v3 v4 w o h r hx
    unfold fl_t_splitWord_17 at h
    refine tb_Es (k := 2) (st' := (22, [(0, .ref v0), (1, .int v1), (2, .int v2), (3, .int v3), (4, .int v4)], [.int 39, .int v4], w)) rfl ?_
    refine tb_b_cge rfl (fun hc => ?_) (fun hc => ?_)
    · rw [if_pos hc] at h
      refine tb_Es (k := 2) (st' := (25, [(0, .ref v0), (1, .int v1), (2, .int v2), (3, .int v3), (4, .int v4)], [.int v4, .ref v0], w)) rfl ?_
      replace h := Option.bind_eq_some_iff.mp h
      obtain ⟨x5, ex5, h⟩ := h
      have hcall := ex5
      refine tb_e_cs (v := some (.retAddr x5.1)) rfl rfl rfl (Nat.le_of_ble_eq_true rfl) rfl (Nat.le_of_ble_eq_true rfl) ((dc_t_spellingOf hcall).up (by decide)) ?_
      refine tb_Es (k := 2) (st' := (28, [(0, .ref v0), (1, .int v1), (2, .int v2), (3, .int v3), (4, .int v4)], [.int v2, .int v1, .retAddr x5.1, .ref v0], x5.2)) rfl ?_
      replace h := Option.bind_eq_some_iff.mp h
      obtain ⟨x6, ex6, h⟩ := h
      obtain ⟨hkx6, hcall⟩ := tb_on_some ex6
      refine tb_e_cv (v := some (.int x6.1)) rfl (Or.inl ⟨_, rfl⟩) rfl rfl (Nat.le_of_ble_eq_true rfl) rfl (Nat.le_of_ble_eq_true rfl) hkx6 ((dc_t_isSpelt hcall).up (by decide)) ?_
      refine tb_b_ieq rfl (fun hc => ?_) (fun hc => ?_)
      · rw [if_pos hc] at h
        refine tb_Es (k := 3) (st' := (20, [(0, .ref v0), (1, .int v1), (2, .int v2), (3, .int v3), (4, .int (v4 + 1))], [], x6.2)) rfl ?_
        exact ih v0 v1 v2 v3 (v4 + 1) x6.2 _ h r hx
      · rw [if_neg hc] at h
        refine tb_Es (k := 5) (st' := (20, [(0, .ref v0), (1, .int v1), (2, .int v2), (3, .int v4), (4, .int (v4 + 1))], [], x6.2)) rfl ?_
        exact ih v0 v1 v2 v4 (v4 + 1) x6.2 _ h r hx
    · rw [if_neg hc] at h
      refine tb_Es (k := 1) (st' := (35, [(0, .ref v0), (1, .int v1), (2, .int v2), (3, .int v3)], [], w)) rfl ?_
      obtain rfl := Option.some.inj h
      exact hx
def fb_t_splitWord (a0 : Nat) (a1 : Int32) (w : tb_Hp) : Option (Int32 × tb_Hp) := (fl_t_splitWord_2 1048576 a0 a1 a1 w).bind fun o4 => (fl_t_splitWord_17 1048576 o4.1 o4.2.1 o4.2.2.1 1 20 o4.2.2.2).bind fun o7 => (tb_on 19 o7.1 o7.2.2.2.2 (fb_t_addToken o7.1 o7.2.2.2.1 o7.2.1 0 o7.2.2.2.2)).bind fun x8 => some (o7.2.2.1, x8)
set_option maxHeartbeats 4000000 in
set_option maxRecDepth 20000 in
theorem dc_t_splitWord {a0 : Nat} {a1 : Int32} {w : tb_Hp} {o : Int32 × tb_Hp} (h : fb_t_splitWord a0 a1 w = some o) : tb_Ev tb_P 2 25 (0, tb_ent [.ref a0, .int a1], [], w) (some (.int o.1), o.2) := by
  unfold fb_t_splitWord at h
  obtain ⟨r, hr⟩ : ∃ r : Option Value × tb_Hp, r = (some (.int o.1), o.2) := ⟨_, rfl⟩
  rw [← hr]
  show tb_Ev tb_P 2 25 (0, [(0, .ref a0), (1, .int a1)], [], w) r
  refine tb_Es (k := 3) (st' := (3, [(0, .ref a0), (1, .int a1), (2, .int a1)], [], w)) rfl ?_
  replace h := Option.bind_eq_some_iff.mp h
  obtain ⟨o4, eo4, h⟩ := h
  refine dl_t_splitWord_2 _ a0 a1 a1 w _ eo4 r ?_
  refine tb_Es (k := 5) (st' := (20, [(0, .ref o4.1), (1, .int o4.2.1), (2, .int o4.2.2.1), (3, .int 1), (4, .int 20)], [], o4.2.2.2)) rfl ?_
  replace h := Option.bind_eq_some_iff.mp h
  obtain ⟨o7, eo7, h⟩ := h
  refine dl_t_splitWord_17 _ o4.1 o4.2.1 o4.2.2.1 1 20 o4.2.2.2 _ eo7 r ?_
  refine tb_Es (k := 4) (st' := (39, [(0, .ref o7.1), (1, .int o7.2.1), (2, .int o7.2.2.1), (3, .int o7.2.2.2.1)], [.int 0, .int o7.2.1, .int o7.2.2.2.1, .ref o7.1], o7.2.2.2.2)) rfl ?_
  replace h := Option.bind_eq_some_iff.mp h
  obtain ⟨x8, ex8, h⟩ := h
  obtain ⟨hkx8, hcall⟩ := tb_on_some ex8
  refine tb_e_cv (v := none) rfl (Or.inl ⟨_, rfl⟩) rfl rfl (Nat.le_of_ble_eq_true rfl) rfl (Nat.le_of_ble_eq_true rfl) hkx8 ((dc_t_addToken hcall).up (by decide)) ?_
  refine tb_Es (k := 1) (st' := (41, [(0, .ref o7.1), (1, .int o7.2.1), (2, .int o7.2.2.1), (3, .int o7.2.2.2.1)], [.int o7.2.2.1], x8)) rfl ?_
  obtain rfl := Option.some.inj h
  subst hr
  exact tb_Er rfl rfl
/-! TannerBunting$StreetReader.readHouse()V -/
def fb_sr_readHouse (a0 : Nat) (w : tb_Hp) : Option (tb_Hp) := (tb_gN 18 0 a0 w).bind fun p1 => (tb_on 17 p1 w (fb_s_houses p1 w)).bind fun x2 => (tb_on 18 a0 x2.2 (fb_sr_readNumber a0 0 (x2.1 - 1) x2.2)).bind fun x3 => (tb_on 18 a0 x3.2 (fb_sr_readNumber a0 0 60 x3.2)).bind fun x4 => (tb_on 18 a0 x4.2 (fb_sr_readNumber a0 0 30 x4.2)).bind fun x5 => (tb_gN 18 1 a0 x5.2).bind fun p6 => (tb_gI 19 3 p6 x5.2).bind fun x7 => (if x7 = 0 then (tb_gN 18 0 a0 x5.2).bind fun p8 => (tb_on 17 p8 x5.2 (fb_s_setLean p8 x3.1 x4.1 x5.2)).bind fun x9 => (tb_gN 18 0 a0 x9).bind fun p10 => (tb_on 17 p10 x9 (fb_s_setFoot p10 x3.1 x5.1 x9)).bind fun x11 => some x11 else some x5.2)
set_option maxHeartbeats 4000000 in
set_option maxRecDepth 20000 in
theorem dc_sr_readHouse {a0 : Nat} {w : tb_Hp} {o : tb_Hp} (h : fb_sr_readHouse a0 w = some o) : tb_Ev tb_P 2 35 (0, tb_ent [.ref a0], [], w) (none, o) := by
  unfold fb_sr_readHouse at h
  obtain ⟨r, hr⟩ : ∃ r : Option Value × tb_Hp, r = (none, o) := ⟨_, rfl⟩
  rw [← hr]
  show tb_Ev tb_P 2 35 (0, [(0, .ref a0)], [], w) r
  refine tb_Es (k := 3) (st' := (3, [(0, .ref a0)], [.ref a0, .int 0, .ref a0], w)) rfl ?_
  replace h := Option.bind_eq_some_iff.mp h
  obtain ⟨p1, ep1, h⟩ := h
  refine tb_e_gN rfl ep1 ?_
  replace h := Option.bind_eq_some_iff.mp h
  obtain ⟨x2, ex2, h⟩ := h
  obtain ⟨hkx2, hcall⟩ := tb_on_some ex2
  refine tb_e_cv (v := some (.int x2.1)) rfl (Or.inl ⟨_, rfl⟩) rfl rfl (Nat.le_of_ble_eq_true rfl) rfl (Nat.le_of_ble_eq_true rfl) hkx2 ((dc_s_houses hcall).up (by decide)) ?_
  refine tb_Es (k := 2) (st' := (7, [(0, .ref a0)], [.int (x2.1 - 1), .int 0, .ref a0], x2.2)) rfl ?_
  replace h := Option.bind_eq_some_iff.mp h
  obtain ⟨x3, ex3, h⟩ := h
  obtain ⟨hkx3, hcall⟩ := tb_on_some ex3
  refine tb_e_cv (v := some (.int x3.1)) rfl (Or.inl ⟨_, rfl⟩) rfl rfl (Nat.le_of_ble_eq_true rfl) rfl (Nat.le_of_ble_eq_true rfl) hkx3 ((dc_sr_readNumber hcall).up (by decide)) ?_
  refine tb_Es (k := 4) (st' := (12, [(1, .int x3.1), (0, .ref a0)], [.int 60, .int 0, .ref a0], x3.2)) rfl ?_
  replace h := Option.bind_eq_some_iff.mp h
  obtain ⟨x4, ex4, h⟩ := h
  obtain ⟨hkx4, hcall⟩ := tb_on_some ex4
  refine tb_e_cv (v := some (.int x4.1)) rfl (Or.inl ⟨_, rfl⟩) rfl rfl (Nat.le_of_ble_eq_true rfl) rfl (Nat.le_of_ble_eq_true rfl) hkx4 ((dc_sr_readNumber hcall).up (by decide)) ?_
  refine tb_Es (k := 4) (st' := (17, [(2, .int x4.1), (1, .int x3.1), (0, .ref a0)], [.int 30, .int 0, .ref a0], x4.2)) rfl ?_
  replace h := Option.bind_eq_some_iff.mp h
  obtain ⟨x5, ex5, h⟩ := h
  obtain ⟨hkx5, hcall⟩ := tb_on_some ex5
  refine tb_e_cv (v := some (.int x5.1)) rfl (Or.inl ⟨_, rfl⟩) rfl rfl (Nat.le_of_ble_eq_true rfl) rfl (Nat.le_of_ble_eq_true rfl) hkx5 ((dc_sr_readNumber hcall).up (by decide)) ?_
  refine tb_Es (k := 2) (st' := (20, [(3, .int x5.1), (2, .int x4.1), (1, .int x3.1), (0, .ref a0)], [.ref a0], x5.2)) rfl ?_
  replace h := Option.bind_eq_some_iff.mp h
  obtain ⟨p6, ep6, h⟩ := h
  refine tb_e_gN rfl ep6 ?_
  replace h := Option.bind_eq_some_iff.mp h
  obtain ⟨x7, ex7, h⟩ := h
  refine tb_e_gI rfl ex7 ?_
  refine tb_b_ine rfl (fun hc => ?_) (fun hc => ?_)
  · rw [if_pos hc] at h
    refine tb_Es (k := 1) (st' := (24, [(3, .int x5.1), (2, .int x4.1), (1, .int x3.1), (0, .ref a0)], [.ref a0], x5.2)) rfl ?_
    replace h := Option.bind_eq_some_iff.mp h
    obtain ⟨p8, ep8, h⟩ := h
    refine tb_e_gN rfl ep8 ?_
    refine tb_Es (k := 2) (st' := (27, [(3, .int x5.1), (2, .int x4.1), (1, .int x3.1), (0, .ref a0)], [.int x4.1, .int x3.1, .ref p8], x5.2)) rfl ?_
    replace h := Option.bind_eq_some_iff.mp h
    obtain ⟨x9, ex9, h⟩ := h
    obtain ⟨hkx9, hcall⟩ := tb_on_some ex9
    refine tb_e_cv (v := none) rfl (Or.inl ⟨_, rfl⟩) rfl rfl (Nat.le_of_ble_eq_true rfl) rfl (Nat.le_of_ble_eq_true rfl) hkx9 ((dc_s_setLean hcall).up (by decide)) ?_
    refine tb_Es (k := 1) (st' := (29, [(3, .int x5.1), (2, .int x4.1), (1, .int x3.1), (0, .ref a0)], [.ref a0], x9)) rfl ?_
    replace h := Option.bind_eq_some_iff.mp h
    obtain ⟨p10, ep10, h⟩ := h
    refine tb_e_gN rfl ep10 ?_
    refine tb_Es (k := 2) (st' := (32, [(3, .int x5.1), (2, .int x4.1), (1, .int x3.1), (0, .ref a0)], [.int x5.1, .int x3.1, .ref p10], x9)) rfl ?_
    replace h := Option.bind_eq_some_iff.mp h
    obtain ⟨x11, ex11, h⟩ := h
    obtain ⟨hkx11, hcall⟩ := tb_on_some ex11
    refine tb_e_cv (v := none) rfl (Or.inl ⟨_, rfl⟩) rfl rfl (Nat.le_of_ble_eq_true rfl) rfl (Nat.le_of_ble_eq_true rfl) hkx11 ((dc_s_setFoot hcall).up (by decide)) ?_
    obtain rfl := Option.some.inj h
    subst hr
    exact tb_Er rfl rfl
  · rw [if_neg hc] at h
    obtain rfl := Option.some.inj h
    subst hr
    exact tb_Er rfl rfl
/-! TannerBunting$StreetReader.readLine()V -/
def fb_sr_readLine (a0 : Nat) (w : tb_Hp) : Option (tb_Hp) := (tb_gN 18 0 a0 w).bind fun p1 => (tb_gI 17 0 p1 w).bind fun x2 => (tb_on 18 a0 w (fb_sr_readNumber a0 0 (x2 - 1) w)).bind fun x3 => (tb_gN 18 0 a0 x3.2).bind fun p4 => (tb_gI 17 0 p4 x3.2).bind fun x5 => (tb_gN 18 0 a0 x3.2).bind fun p6 => (tb_on 17 p6 x3.2 (fb_s_houses p6 x3.2)).bind fun x7 => (tb_on 18 a0 x7.2 (fb_sr_readNumber a0 x5 (x7.1 - 1) x7.2)).bind fun x8 => (tb_on 18 a0 x8.2 (fb_sr_readNumber a0 1 40 x8.2)).bind fun x9 => (tb_gN 18 1 a0 x9.2).bind fun p10 => (tb_gI 19 3 p10 x9.2).bind fun x11 => (if x11 = 0 then (tb_gN 18 0 a0 x9.2).bind fun p12 => (tb_gN 18 0 a0 x9.2).bind fun p13 => (tb_gI 17 3 p13 x9.2).bind fun x14 => (tb_on 17 p12 x9.2 (fb_s_putUp p12 x14 x3.1 x8.1 x9.1 x9.2)).bind fun x15 => some x15 else some x9.2)
set_option maxHeartbeats 4000000 in
set_option maxRecDepth 20000 in
theorem dc_sr_readLine {a0 : Nat} {w : tb_Hp} {o : tb_Hp} (h : fb_sr_readLine a0 w = some o) : tb_Ev tb_P 2 40 (0, tb_ent [.ref a0], [], w) (none, o) := by
  unfold fb_sr_readLine at h
  obtain ⟨r, hr⟩ : ∃ r : Option Value × tb_Hp, r = (none, o) := ⟨_, rfl⟩
  rw [← hr]
  show tb_Ev tb_P 2 40 (0, [(0, .ref a0)], [], w) r
  refine tb_Es (k := 3) (st' := (3, [(0, .ref a0)], [.ref a0, .int 0, .ref a0], w)) rfl ?_
  replace h := Option.bind_eq_some_iff.mp h
  obtain ⟨p1, ep1, h⟩ := h
  refine tb_e_gN rfl ep1 ?_
  replace h := Option.bind_eq_some_iff.mp h
  obtain ⟨x2, ex2, h⟩ := h
  refine tb_e_gI rfl ex2 ?_
  refine tb_Es (k := 2) (st' := (7, [(0, .ref a0)], [.int (x2 - 1), .int 0, .ref a0], w)) rfl ?_
  replace h := Option.bind_eq_some_iff.mp h
  obtain ⟨x3, ex3, h⟩ := h
  obtain ⟨hkx3, hcall⟩ := tb_on_some ex3
  refine tb_e_cv (v := some (.int x3.1)) rfl (Or.inl ⟨_, rfl⟩) rfl rfl (Nat.le_of_ble_eq_true rfl) rfl (Nat.le_of_ble_eq_true rfl) hkx3 ((dc_sr_readNumber hcall).up (by decide)) ?_
  refine tb_Es (k := 3) (st' := (11, [(1, .int x3.1), (0, .ref a0)], [.ref a0, .ref a0], x3.2)) rfl ?_
  replace h := Option.bind_eq_some_iff.mp h
  obtain ⟨p4, ep4, h⟩ := h
  refine tb_e_gN rfl ep4 ?_
  replace h := Option.bind_eq_some_iff.mp h
  obtain ⟨x5, ex5, h⟩ := h
  refine tb_e_gI rfl ex5 ?_
  refine tb_Es (k := 1) (st' := (14, [(1, .int x3.1), (0, .ref a0)], [.ref a0, .int x5, .ref a0], x3.2)) rfl ?_
  replace h := Option.bind_eq_some_iff.mp h
  obtain ⟨p6, ep6, h⟩ := h
  refine tb_e_gN rfl ep6 ?_
  replace h := Option.bind_eq_some_iff.mp h
  obtain ⟨x7, ex7, h⟩ := h
  obtain ⟨hkx7, hcall⟩ := tb_on_some ex7
  refine tb_e_cv (v := some (.int x7.1)) rfl (Or.inl ⟨_, rfl⟩) rfl rfl (Nat.le_of_ble_eq_true rfl) rfl (Nat.le_of_ble_eq_true rfl) hkx7 ((dc_s_houses hcall).up (by decide)) ?_
  refine tb_Es (k := 2) (st' := (18, [(1, .int x3.1), (0, .ref a0)], [.int (x7.1 - 1), .int x5, .ref a0], x7.2)) rfl ?_
  replace h := Option.bind_eq_some_iff.mp h
  obtain ⟨x8, ex8, h⟩ := h
  obtain ⟨hkx8, hcall⟩ := tb_on_some ex8
  refine tb_e_cv (v := some (.int x8.1)) rfl (Or.inl ⟨_, rfl⟩) rfl rfl (Nat.le_of_ble_eq_true rfl) rfl (Nat.le_of_ble_eq_true rfl) hkx8 ((dc_sr_readNumber hcall).up (by decide)) ?_
  refine tb_Es (k := 4) (st' := (23, [(2, .int x8.1), (1, .int x3.1), (0, .ref a0)], [.int 40, .int 1, .ref a0], x8.2)) rfl ?_
  replace h := Option.bind_eq_some_iff.mp h
  obtain ⟨x9, ex9, h⟩ := h
  obtain ⟨hkx9, hcall⟩ := tb_on_some ex9
  refine tb_e_cv (v := some (.int x9.1)) rfl (Or.inl ⟨_, rfl⟩) rfl rfl (Nat.le_of_ble_eq_true rfl) rfl (Nat.le_of_ble_eq_true rfl) hkx9 ((dc_sr_readNumber hcall).up (by decide)) ?_
  refine tb_Es (k := 2) (st' := (26, [(3, .int x9.1), (2, .int x8.1), (1, .int x3.1), (0, .ref a0)], [.ref a0], x9.2)) rfl ?_
  replace h := Option.bind_eq_some_iff.mp h
  obtain ⟨p10, ep10, h⟩ := h
  refine tb_e_gN rfl ep10 ?_
  replace h := Option.bind_eq_some_iff.mp h
  obtain ⟨x11, ex11, h⟩ := h
  refine tb_e_gI rfl ex11 ?_
  refine tb_b_ine rfl (fun hc => ?_) (fun hc => ?_)
  · rw [if_pos hc] at h
    refine tb_Es (k := 1) (st' := (30, [(3, .int x9.1), (2, .int x8.1), (1, .int x3.1), (0, .ref a0)], [.ref a0], x9.2)) rfl ?_
    replace h := Option.bind_eq_some_iff.mp h
    obtain ⟨p12, ep12, h⟩ := h
    refine tb_e_gN rfl ep12 ?_
    refine tb_Es (k := 1) (st' := (32, [(3, .int x9.1), (2, .int x8.1), (1, .int x3.1), (0, .ref a0)], [.ref a0, .ref p12], x9.2)) rfl ?_
    replace h := Option.bind_eq_some_iff.mp h
    obtain ⟨p13, ep13, h⟩ := h
    refine tb_e_gN rfl ep13 ?_
    replace h := Option.bind_eq_some_iff.mp h
    obtain ⟨x14, ex14, h⟩ := h
    refine tb_e_gI rfl ex14 ?_
    refine tb_Es (k := 3) (st' := (37, [(3, .int x9.1), (2, .int x8.1), (1, .int x3.1), (0, .ref a0)], [.int x9.1, .int x8.1, .int x3.1, .int x14, .ref p12], x9.2)) rfl ?_
    replace h := Option.bind_eq_some_iff.mp h
    obtain ⟨x15, ex15, h⟩ := h
    obtain ⟨hkx15, hcall⟩ := tb_on_some ex15
    refine tb_e_cv (v := none) rfl (Or.inl ⟨_, rfl⟩) rfl rfl (Nat.le_of_ble_eq_true rfl) rfl (Nat.le_of_ble_eq_true rfl) hkx15 ((dc_s_putUp hcall).up (by decide)) ?_
    obtain rfl := Option.some.inj h
    subst hr
    exact tb_Er rfl rfl
  · rw [if_neg hc] at h
    obtain rfl := Option.some.inj h
    subst hr
    exact tb_Er rfl rfl
/-! TannerBunting$RuleReader.readValue()V -/
def fj_rr_readValue_j22 (v0 : Nat) (v1 : Int32) (w : tb_Hp) : Option (tb_Hp) := (if v1 = 2 then (tb_gN 14 0 v0 w).bind fun p3 => (tb_gI 19 2 p3 w).bind fun x4 => (tb_on 14 v0 w (fb_rr_emit v0 x4 w)).bind fun x5 => (tb_on 14 v0 x5 (fb_rr_takePart v0 x5)).bind fun x6 => some x6 else (tb_on 14 v0 w (fb_rr_emit v0 (-v1) w)).bind fun x7 => (tb_on 14 v0 x7 (fb_rr_takePart v0 x7)).bind fun x8 => some x8)
set_option maxHeartbeats 4000000 in
set_option maxRecDepth 20000 in
theorem dj_rr_readValue_j22 (v0 : Nat) (v1 : Int32) (w : tb_Hp) (o : tb_Hp) (h : fj_rr_readValue_j22 v0 v1 w = some o) (r : Option Value × tb_Hp) (hr : r = (none, o)) : tb_Ev tb_P 2 50 (23, [(0, .ref v0), (1, .int v1)], [], w) r := by
  unfold fj_rr_readValue_j22 at h
  refine tb_Es (k := 3) (st' := (26, [(0, .ref v0), (1, .int v1)], [.int 2, .int v1, .ref v0], w)) rfl ?_
  refine tb_b_cne rfl (fun hc => ?_) (fun hc => ?_)
  · rw [if_pos hc] at h
    refine tb_Es (k := 1) (st' := (28, [(0, .ref v0), (1, .int v1)], [.ref v0, .ref v0], w)) rfl ?_
    replace h := Option.bind_eq_some_iff.mp h
    obtain ⟨p3, ep3, h⟩ := h
    refine tb_e_gN rfl ep3 ?_
    replace h := Option.bind_eq_some_iff.mp h
    obtain ⟨x4, ex4, h⟩ := h
    refine tb_e_gI rfl ex4 ?_
    refine tb_Es (k := 1) (st' := (33, [(0, .ref v0), (1, .int v1)], [.int x4, .ref v0], w)) rfl ?_
    replace h := Option.bind_eq_some_iff.mp h
    obtain ⟨x5, ex5, h⟩ := h
    obtain ⟨hkx5, hcall⟩ := tb_on_some ex5
    refine tb_e_cv (v := none) rfl (Or.inl ⟨_, rfl⟩) rfl rfl (Nat.le_of_ble_eq_true rfl) rfl (Nat.le_of_ble_eq_true rfl) hkx5 ((dc_rr_emit hcall).up (by decide)) ?_
    refine tb_Es (k := 1) (st' := (35, [(0, .ref v0), (1, .int v1)], [.ref v0], x5)) rfl ?_
    replace h := Option.bind_eq_some_iff.mp h
    obtain ⟨x6, ex6, h⟩ := h
    obtain ⟨hkx6, hcall⟩ := tb_on_some ex6
    refine tb_e_cv (v := none) rfl (Or.inl ⟨_, rfl⟩) rfl rfl (Nat.le_of_ble_eq_true rfl) rfl (Nat.le_of_ble_eq_true rfl) hkx6 ((dc_rr_takePart hcall).up (by decide)) ?_
    obtain rfl := Option.some.inj h
    subst hr
    exact tb_Er rfl rfl
  · rw [if_neg hc] at h
    refine tb_Es (k := 2) (st' := (33, [(0, .ref v0), (1, .int v1)], [.int (-v1), .ref v0], w)) rfl ?_
    replace h := Option.bind_eq_some_iff.mp h
    obtain ⟨x7, ex7, h⟩ := h
    obtain ⟨hkx7, hcall⟩ := tb_on_some ex7
    refine tb_e_cv (v := none) rfl (Or.inl ⟨_, rfl⟩) rfl rfl (Nat.le_of_ble_eq_true rfl) rfl (Nat.le_of_ble_eq_true rfl) hkx7 ((dc_rr_emit hcall).up (by decide)) ?_
    refine tb_Es (k := 1) (st' := (35, [(0, .ref v0), (1, .int v1)], [.ref v0], x7)) rfl ?_
    replace h := Option.bind_eq_some_iff.mp h
    obtain ⟨x8, ex8, h⟩ := h
    obtain ⟨hkx8, hcall⟩ := tb_on_some ex8
    refine tb_e_cv (v := none) rfl (Or.inl ⟨_, rfl⟩) rfl rfl (Nat.le_of_ble_eq_true rfl) rfl (Nat.le_of_ble_eq_true rfl) hkx8 ((dc_rr_takePart hcall).up (by decide)) ?_
    obtain rfl := Option.some.inj h
    subst hr
    exact tb_Er rfl rfl
def fb_rr_readValue (a0 : Nat) (w : tb_Hp) : Option (tb_Hp) := (tb_gN 14 0 a0 w).bind fun p1 => (tb_gI 19 1 p1 w).bind fun x2 => (if x2 = 2 then fj_rr_readValue_j22 a0 x2 w else (fb_x_within x2 20 31 w).bind fun x9 => (if x9.1 = 0 then (tb_gN 14 0 a0 x9.2).bind fun p10 => (if x2 = 3 then (tb_on 19 p10 x9.2 (fb_t_fail p10 1 x9.2)).bind fun x11 => some x11 else (tb_on 19 p10 x9.2 (fb_t_fail p10 0 x9.2)).bind fun x12 => some x12) else fj_rr_readValue_j22 a0 x2 x9.2))
set_option maxHeartbeats 4000000 in
set_option maxRecDepth 20000 in
theorem dc_rr_readValue {a0 : Nat} {w : tb_Hp} {o : tb_Hp} (h : fb_rr_readValue a0 w = some o) : tb_Ev tb_P 2 50 (0, tb_ent [.ref a0], [], w) (none, o) := by
  unfold fb_rr_readValue at h
  obtain ⟨r, hr⟩ : ∃ r : Option Value × tb_Hp, r = (none, o) := ⟨_, rfl⟩
  rw [← hr]
  show tb_Ev tb_P 2 50 (0, [(0, .ref a0)], [], w) r
  refine tb_Es (k := 1) (st' := (1, [(0, .ref a0)], [.ref a0], w)) rfl ?_
  replace h := Option.bind_eq_some_iff.mp h
  obtain ⟨p1, ep1, h⟩ := h
  refine tb_e_gN rfl ep1 ?_
  replace h := Option.bind_eq_some_iff.mp h
  obtain ⟨x2, ex2, h⟩ := h
  refine tb_e_gI rfl ex2 ?_
  refine tb_Es (k := 3) (st' := (6, [(1, .int x2), (0, .ref a0)], [.int 2, .int x2], w)) rfl ?_
  refine tb_b_ceq rfl (fun hc => ?_) (fun hc => ?_)
  · rw [if_pos hc] at h
    refine tb_Es (k := 1) (st' := (23, [(0, .ref a0), (1, .int x2)], [], w)) rfl ?_
    exact dj_rr_readValue_j22 a0 x2 w _ h r hr
  · rw [if_neg hc] at h
    refine tb_Es (k := 3) (st' := (10, [(1, .int x2), (0, .ref a0)], [.int 31, .int 20, .int x2], w)) rfl ?_
    replace h := Option.bind_eq_some_iff.mp h
    obtain ⟨x9, ex9, h⟩ := h
    have hcall := ex9
    refine tb_e_cs (v := some (.int x9.1)) rfl rfl rfl (Nat.le_of_ble_eq_true rfl) rfl (Nat.le_of_ble_eq_true rfl) ((dc_x_within hcall).up (by decide)) ?_
    refine tb_b_ine rfl (fun hc => ?_) (fun hc => ?_)
    · rw [if_pos hc] at h
      refine tb_Es (k := 1) (st' := (13, [(1, .int x2), (0, .ref a0)], [.ref a0], x9.2)) rfl ?_
      replace h := Option.bind_eq_some_iff.mp h
      obtain ⟨p10, ep10, h⟩ := h
      refine tb_e_gN rfl ep10 ?_
      refine tb_Es (k := 2) (st' := (16, [(1, .int x2), (0, .ref a0)], [.int 3, .int x2, .ref p10], x9.2)) rfl ?_
      refine tb_b_cne rfl (fun hc => ?_) (fun hc => ?_)
      · rw [if_pos hc] at h
        refine tb_Es (k := 2) (st' := (20, [(1, .int x2), (0, .ref a0)], [.int 1, .ref p10], x9.2)) rfl ?_
        replace h := Option.bind_eq_some_iff.mp h
        obtain ⟨x11, ex11, h⟩ := h
        obtain ⟨hkx11, hcall⟩ := tb_on_some ex11
        refine tb_e_cv (v := none) rfl (Or.inl ⟨_, rfl⟩) rfl rfl (Nat.le_of_ble_eq_true rfl) rfl (Nat.le_of_ble_eq_true rfl) hkx11 ((dc_t_fail hcall).up (by decide)) ?_
        obtain rfl := Option.some.inj h
        subst hr
        exact tb_Er rfl rfl
      · rw [if_neg hc] at h
        refine tb_Es (k := 1) (st' := (20, [(1, .int x2), (0, .ref a0)], [.int 0, .ref p10], x9.2)) rfl ?_
        replace h := Option.bind_eq_some_iff.mp h
        obtain ⟨x12, ex12, h⟩ := h
        obtain ⟨hkx12, hcall⟩ := tb_on_some ex12
        refine tb_e_cv (v := none) rfl (Or.inl ⟨_, rfl⟩) rfl rfl (Nat.le_of_ble_eq_true rfl) rfl (Nat.le_of_ble_eq_true rfl) hkx12 ((dc_t_fail hcall).up (by decide)) ?_
        obtain rfl := Option.some.inj h
        subst hr
        exact tb_Er rfl rfl
    · rw [if_neg hc] at h
      refine tb_Es (k := 1) (st' := (23, [(0, .ref a0), (1, .int x2)], [], x9.2)) rfl ?_
      exact dj_rr_readValue_j22 a0 x2 x9.2 _ h r hr
/-! TannerBunting$RuleReader.copyOfCode()[I -/
def fb_rr_copyOfCode (a0 : Nat) (w : tb_Hp) : Option (Nat × tb_Hp) := (tb_gN 14 1 a0 w).bind fun p1 => (tb_gI 14 2 a0 w).bind fun x2 => (tb_gN 14 1 a0 w).bind fun p3 => (tb_al p3 w).bind fun x4 => (fb_ma_min x2 x4 w).bind fun x5 => (fb_ma_max 0 x5.1 x5.2).bind fun x6 => (fb_ar_copyOf p1 x6.1 x6.2).bind fun x7 => some (x7.1, x7.2)
set_option maxHeartbeats 4000000 in
set_option maxRecDepth 20000 in
theorem dc_rr_copyOfCode {a0 : Nat} {w : tb_Hp} {o : Nat × tb_Hp} (h : fb_rr_copyOfCode a0 w = some o) : tb_Ev tb_P 2 55 (0, tb_ent [.ref a0], [], w) (some (.ref o.1), o.2) := by
  unfold fb_rr_copyOfCode at h
  obtain ⟨r, hr⟩ : ∃ r : Option Value × tb_Hp, r = (some (.ref o.1), o.2) := ⟨_, rfl⟩
  rw [← hr]
  show tb_Ev tb_P 2 55 (0, [(0, .ref a0)], [], w) r
  refine tb_Es (k := 1) (st' := (1, [(0, .ref a0)], [.ref a0], w)) rfl ?_
  replace h := Option.bind_eq_some_iff.mp h
  obtain ⟨p1, ep1, h⟩ := h
  refine tb_e_gN rfl ep1 ?_
  refine tb_Es (k := 2) (st' := (4, [(0, .ref a0)], [.ref a0, .int 0, .ref p1], w)) rfl ?_
  replace h := Option.bind_eq_some_iff.mp h
  obtain ⟨x2, ex2, h⟩ := h
  refine tb_e_gI rfl ex2 ?_
  refine tb_Es (k := 1) (st' := (6, [(0, .ref a0)], [.ref a0, .int x2, .int 0, .ref p1], w)) rfl ?_
  replace h := Option.bind_eq_some_iff.mp h
  obtain ⟨p3, ep3, h⟩ := h
  refine tb_e_gN rfl ep3 ?_
  replace h := Option.bind_eq_some_iff.mp h
  obtain ⟨x4, ex4, h⟩ := h
  refine tb_e_al rfl ex4 ?_
  replace h := Option.bind_eq_some_iff.mp h
  obtain ⟨x5, ex5, h⟩ := h
  have hcall := ex5
  refine tb_e_cs (v := some (.int x5.1)) rfl rfl rfl (Nat.le_of_ble_eq_true rfl) rfl (Nat.le_of_ble_eq_true rfl) ((dc_ma_min hcall).up (by decide)) ?_
  replace h := Option.bind_eq_some_iff.mp h
  obtain ⟨x6, ex6, h⟩ := h
  have hcall := ex6
  refine tb_e_cs (v := some (.int x6.1)) rfl rfl rfl (Nat.le_of_ble_eq_true rfl) rfl (Nat.le_of_ble_eq_true rfl) ((dc_ma_max hcall).up (by decide)) ?_
  replace h := Option.bind_eq_some_iff.mp h
  obtain ⟨x7, ex7, h⟩ := h
  have hcall := ex7
  refine tb_e_cs (v := some (.ref x7.1)) rfl rfl rfl (Nat.le_of_ble_eq_true rfl) rfl (Nat.le_of_ble_eq_true rfl) ((dc_ar_copyOf hcall).up (by decide)) ?_
  obtain rfl := Option.some.inj h
  subst hr
  exact tb_Er rfl rfl
/-! TannerBunting$Street.linesAtAny(I)I -/
def fl_s_linesAtAny_4 : Nat → Nat → Int32 → Int32 → Int32 → tb_Hp → Option (Int32 × tb_Hp)
  | 0, _, _, _, _, _ => none
  | n + 1, v0, v1, v2, v3, w => (tb_gI 17 3 v0 w).bind fun x1 => (if v3 < x1 then (tb_on 17 v0 w (fb_s_isUp v0 v3 w)).bind fun x2 => (if x2.1 = 0 then fl_s_linesAtAny_4 n v0 v1 v2 (v3 + 1) x2.2 else (tb_on 17 v0 x2.2 (fb_s_endsOf v0 v3 x2.2)).bind fun x3 => (if (x3.1 &&& v1) = 0 then fl_s_linesAtAny_4 n v0 v1 v2 (v3 + 1) x3.2 else fl_s_linesAtAny_4 n v0 v1 (v2 ||| (1 <<< (v3 &&& 31))) (v3 + 1) x3.2)) else some ((v2, w)))
set_option maxHeartbeats 4000000 in
set_option maxRecDepth 20000 in
theorem dl_s_linesAtAny_4 : ∀ (n : Nat) (v0 : Nat) (v1 : Int32) (v2 : Int32) (v3 : Int32) (w : tb_Hp) (o : Int32 × tb_Hp), fl_s_linesAtAny_4 n v0 v1 v2 v3 w = some o → ∀ (r : Option Value × tb_Hp), tb_Ev tb_P 2 64 (28, [(2, .int o.1)], [], o.2) r → tb_Ev tb_P 2 64 (5, [(0, .ref v0), (1, .int v1), (2, .int v2), (3, .int v3)], [], w) r := by
  intro n
  induction n with
  | zero =>
    intro v0 v1 v2 v3 w o h
    cases h
  | succ n ih =>
    intro v0 v1 v2 v3 w o h r hx
    unfold fl_s_linesAtAny_4 at h
    refine tb_Es (k := 2) (st' := (7, [(0, .ref v0), (1, .int v1), (2, .int v2), (3, .int v3)], [.ref v0, .int v3], w)) rfl ?_
    replace h := Option.bind_eq_some_iff.mp h
    obtain ⟨x1, ex1, h⟩ := h
    refine tb_e_gI rfl ex1 ?_
    refine tb_b_cge rfl (fun hc => ?_) (fun hc => ?_)
    · rw [if_pos hc] at h
      refine tb_Es (k := 2) (st' := (11, [(0, .ref v0), (1, .int v1), (2, .int v2), (3, .int v3)], [.int v3, .ref v0], w)) rfl ?_
      replace h := Option.bind_eq_some_iff.mp h
      obtain ⟨x2, ex2, h⟩ := h
      obtain ⟨hkx2, hcall⟩ := tb_on_some ex2
      refine tb_e_cv (v := some (.int x2.1)) rfl (Or.inl ⟨_, rfl⟩) rfl rfl (Nat.le_of_ble_eq_true rfl) rfl (Nat.le_of_ble_eq_true rfl) hkx2 ((dc_s_isUp hcall).up (by decide)) ?_
      refine tb_b_ieq rfl (fun hc => ?_) (fun hc => ?_)
      · rw [if_pos hc] at h
        refine tb_Es (k := 3) (st' := (5, [(0, .ref v0), (1, .int v1), (2, .int v2), (3, .int (v3 + 1))], [], x2.2)) rfl ?_
        exact ih v0 v1 v2 (v3 + 1) x2.2 _ h r hx
      · rw [if_neg hc] at h
        refine tb_Es (k := 2) (st' := (15, [(0, .ref v0), (1, .int v1), (2, .int v2), (3, .int v3)], [.int v3, .ref v0], x2.2)) rfl ?_
        replace h := Option.bind_eq_some_iff.mp h
        obtain ⟨x3, ex3, h⟩ := h
        obtain ⟨hkx3, hcall⟩ := tb_on_some ex3
        refine tb_e_cv (v := some (.int x3.1)) rfl (Or.inl ⟨_, rfl⟩) rfl rfl (Nat.le_of_ble_eq_true rfl) rfl (Nat.le_of_ble_eq_true rfl) hkx3 ((dc_s_endsOf hcall).up (by decide)) ?_
        refine tb_Es (k := 2) (st' := (18, [(0, .ref v0), (1, .int v1), (2, .int v2), (3, .int v3)], [.int (x3.1 &&& v1)], x3.2)) rfl ?_
        refine tb_b_ieq rfl (fun hc => ?_) (fun hc => ?_)
        · rw [if_pos hc] at h
          refine tb_Es (k := 3) (st' := (5, [(0, .ref v0), (1, .int v1), (2, .int v2), (3, .int (v3 + 1))], [], x3.2)) rfl ?_
          exact ih v0 v1 v2 (v3 + 1) x3.2 _ h r hx
        · rw [if_neg hc] at h
          refine tb_Es (k := 9) (st' := (5, [(0, .ref v0), (1, .int v1), (2, .int (v2 ||| (1 <<< (v3 &&& 31)))), (3, .int (v3 + 1))], [], x3.2)) rfl ?_
          exact ih v0 v1 (v2 ||| (1 <<< (v3 &&& 31))) (v3 + 1) x3.2 _ h r hx
    · rw [if_neg hc] at h
      refine tb_Es (k := 1) (st' := (28, [(2, .int v2)], [], w)) rfl ?_
      obtain rfl := Option.some.inj h
      exact hx
def fb_s_linesAtAny (a0 : Nat) (a1 : Int32) (w : tb_Hp) : Option (Int32 × tb_Hp) := (fl_s_linesAtAny_4 1048576 a0 a1 0 0 w).bind fun o4 => some (o4.1, o4.2)
set_option maxHeartbeats 4000000 in
set_option maxRecDepth 20000 in
theorem dc_s_linesAtAny {a0 : Nat} {a1 : Int32} {w : tb_Hp} {o : Int32 × tb_Hp} (h : fb_s_linesAtAny a0 a1 w = some o) : tb_Ev tb_P 2 64 (0, tb_ent [.ref a0, .int a1], [], w) (some (.int o.1), o.2) := by
  unfold fb_s_linesAtAny at h
  obtain ⟨r, hr⟩ : ∃ r : Option Value × tb_Hp, r = (some (.int o.1), o.2) := ⟨_, rfl⟩
  rw [← hr]
  show tb_Ev tb_P 2 64 (0, [(0, .ref a0), (1, .int a1)], [], w) r
  refine tb_Es (k := 5) (st' := (5, [(0, .ref a0), (1, .int a1), (2, .int 0), (3, .int 0)], [], w)) rfl ?_
  replace h := Option.bind_eq_some_iff.mp h
  obtain ⟨o4, eo4, h⟩ := h
  refine dl_s_linesAtAny_4 _ a0 a1 0 0 w _ eo4 r ?_
  refine tb_Es (k := 1) (st' := (29, [(2, .int o4.1)], [.int o4.1], o4.2)) rfl ?_
  obtain rfl := Option.some.inj h
  subst hr
  exact tb_Er rfl rfl
/-! TannerBunting.line(II)I -/
def fb_x_line (a0 : Nat) (a1 : Int32) (a2 : Int32) (w : tb_Hp) : Option (Int32 × tb_Hp) := (tb_gN 21 5 a0 w).bind fun p1 => (tb_gN 15 0 p1 w).bind fun p2 => (tb_on 17 p2 w (fb_s_isLine p2 a1 w)).bind fun x3 => (if x3.1 = 0 then some (-1, x3.2) else (if a2 = 0 then (tb_on 17 p2 x3.2 (fb_s_oddOf p2 a1 x3.2)).bind fun x4 => some (x4.1, x4.2) else (if a2 = 1 then (tb_on 17 p2 x3.2 (fb_s_evenOf p2 a1 x3.2)).bind fun x5 => some (x5.1, x5.2) else (if a2 = 2 then (tb_on 17 p2 x3.2 (fb_s_isUp p2 a1 x3.2)).bind fun x6 => (if x6.1 = 0 then some (0, x6.2) else (tb_on 17 p2 x6.2 (fb_s_pullOf p2 a1 x6.2)).bind fun x7 => some (x7.1, x7.2)) else (if a2 = 3 then (tb_on 17 p2 x3.2 (fb_s_isUp p2 a1 x3.2)).bind fun x8 => (if x8.1 = 0 then some (0, x8.2) else some (1, x8.2)) else some (-1, x3.2))))))
set_option maxHeartbeats 4000000 in
set_option maxRecDepth 20000 in
theorem dc_x_line {a0 : Nat} {a1 : Int32} {a2 : Int32} {w : tb_Hp} {o : Int32 × tb_Hp} (h : fb_x_line a0 a1 a2 w = some o) : tb_Ev tb_P 2 68 (0, tb_ent [.ref a0, .int a1, .int a2], [], w) (some (.int o.1), o.2) := by
  unfold fb_x_line at h
  obtain ⟨r, hr⟩ : ∃ r : Option Value × tb_Hp, r = (some (.int o.1), o.2) := ⟨_, rfl⟩
  rw [← hr]
  show tb_Ev tb_P 2 68 (0, [(0, .ref a0), (1, .int a1), (2, .int a2)], [], w) r
  refine tb_Es (k := 1) (st' := (1, [(0, .ref a0), (1, .int a1), (2, .int a2)], [.ref a0], w)) rfl ?_
  replace h := Option.bind_eq_some_iff.mp h
  obtain ⟨p1, ep1, h⟩ := h
  refine tb_e_gN rfl ep1 ?_
  replace h := Option.bind_eq_some_iff.mp h
  obtain ⟨p2, ep2, h⟩ := h
  refine tb_e_gN rfl ep2 ?_
  refine tb_Es (k := 3) (st' := (6, [(3, .ref p2), (0, .ref a0), (1, .int a1), (2, .int a2)], [.int a1, .ref p2], w)) rfl ?_
  replace h := Option.bind_eq_some_iff.mp h
  obtain ⟨x3, ex3, h⟩ := h
  obtain ⟨hkx3, hcall⟩ := tb_on_some ex3
  refine tb_e_cv (v := some (.int x3.1)) rfl (Or.inl ⟨_, rfl⟩) rfl rfl (Nat.le_of_ble_eq_true rfl) rfl (Nat.le_of_ble_eq_true rfl) hkx3 ((dc_s_isLine hcall).up (by decide)) ?_
  refine tb_b_ine rfl (fun hc => ?_) (fun hc => ?_)
  · rw [if_pos hc] at h
    refine tb_Es (k := 1) (st' := (9, [(3, .ref p2), (0, .ref a0), (1, .int a1), (2, .int a2)], [.int (-1)], x3.2)) rfl ?_
    obtain rfl := Option.some.inj h
    subst hr
    exact tb_Er rfl rfl
  · rw [if_neg hc] at h
    refine tb_Es (k := 1) (st' := (11, [(3, .ref p2), (0, .ref a0), (1, .int a1), (2, .int a2)], [.int a2], x3.2)) rfl ?_
    refine tb_w_tab rfl (by decide) ?_
    refine tb_w_one (k := 0) (by decide) (fun hc => ?_) (fun hc => ?_)
    · rw [if_pos hc] at h
      refine tb_Es (k := 2) (st' := (14, [(3, .ref p2), (0, .ref a0), (1, .int a1), (2, .int a2)], [.int a1, .ref p2], x3.2)) rfl ?_
      replace h := Option.bind_eq_some_iff.mp h
      obtain ⟨x4, ex4, h⟩ := h
      obtain ⟨hkx4, hcall⟩ := tb_on_some ex4
      refine tb_e_cv (v := some (.int x4.1)) rfl (Or.inl ⟨_, rfl⟩) rfl rfl (Nat.le_of_ble_eq_true rfl) rfl (Nat.le_of_ble_eq_true rfl) hkx4 ((dc_s_oddOf hcall).up (by decide)) ?_
      obtain rfl := Option.some.inj h
      subst hr
      exact tb_Er rfl rfl
    rw [if_neg hc] at h
    refine tb_w_one (k := 1) (by decide) (fun hc => ?_) (fun hc => ?_)
    · rw [if_pos hc] at h
      refine tb_Es (k := 2) (st' := (18, [(3, .ref p2), (0, .ref a0), (1, .int a1), (2, .int a2)], [.int a1, .ref p2], x3.2)) rfl ?_
      replace h := Option.bind_eq_some_iff.mp h
      obtain ⟨x5, ex5, h⟩ := h
      obtain ⟨hkx5, hcall⟩ := tb_on_some ex5
      refine tb_e_cv (v := some (.int x5.1)) rfl (Or.inl ⟨_, rfl⟩) rfl rfl (Nat.le_of_ble_eq_true rfl) rfl (Nat.le_of_ble_eq_true rfl) hkx5 ((dc_s_evenOf hcall).up (by decide)) ?_
      obtain rfl := Option.some.inj h
      subst hr
      exact tb_Er rfl rfl
    rw [if_neg hc] at h
    refine tb_w_one (k := 2) (by decide) (fun hc => ?_) (fun hc => ?_)
    · rw [if_pos hc] at h
      refine tb_Es (k := 2) (st' := (22, [(3, .ref p2), (0, .ref a0), (1, .int a1), (2, .int a2)], [.int a1, .ref p2], x3.2)) rfl ?_
      replace h := Option.bind_eq_some_iff.mp h
      obtain ⟨x6, ex6, h⟩ := h
      obtain ⟨hkx6, hcall⟩ := tb_on_some ex6
      refine tb_e_cv (v := some (.int x6.1)) rfl (Or.inl ⟨_, rfl⟩) rfl rfl (Nat.le_of_ble_eq_true rfl) rfl (Nat.le_of_ble_eq_true rfl) hkx6 ((dc_s_isUp hcall).up (by decide)) ?_
      refine tb_b_ieq rfl (fun hc => ?_) (fun hc => ?_)
      · rw [if_pos hc] at h
        refine tb_Es (k := 1) (st' := (29, [(3, .ref p2), (0, .ref a0), (1, .int a1), (2, .int a2)], [.int 0], x6.2)) rfl ?_
        obtain rfl := Option.some.inj h
        subst hr
        exact tb_Er rfl rfl
      · rw [if_neg hc] at h
        refine tb_Es (k := 2) (st' := (26, [(3, .ref p2), (0, .ref a0), (1, .int a1), (2, .int a2)], [.int a1, .ref p2], x6.2)) rfl ?_
        replace h := Option.bind_eq_some_iff.mp h
        obtain ⟨x7, ex7, h⟩ := h
        obtain ⟨hkx7, hcall⟩ := tb_on_some ex7
        refine tb_e_cv (v := some (.int x7.1)) rfl (Or.inl ⟨_, rfl⟩) rfl rfl (Nat.le_of_ble_eq_true rfl) rfl (Nat.le_of_ble_eq_true rfl) hkx7 ((dc_s_pullOf hcall).up (by decide)) ?_
        refine tb_Es (k := 1) (st' := (29, [(3, .ref p2), (0, .ref a0), (1, .int a1), (2, .int a2)], [.int x7.1], x7.2)) rfl ?_
        obtain rfl := Option.some.inj h
        subst hr
        exact tb_Er rfl rfl
    rw [if_neg hc] at h
    refine tb_w_one (k := 3) (by decide) (fun hc => ?_) (fun hc => ?_)
    · rw [if_pos hc] at h
      refine tb_Es (k := 2) (st' := (32, [(3, .ref p2), (0, .ref a0), (1, .int a1), (2, .int a2)], [.int a1, .ref p2], x3.2)) rfl ?_
      replace h := Option.bind_eq_some_iff.mp h
      obtain ⟨x8, ex8, h⟩ := h
      obtain ⟨hkx8, hcall⟩ := tb_on_some ex8
      refine tb_e_cv (v := some (.int x8.1)) rfl (Or.inl ⟨_, rfl⟩) rfl rfl (Nat.le_of_ble_eq_true rfl) rfl (Nat.le_of_ble_eq_true rfl) hkx8 ((dc_s_isUp hcall).up (by decide)) ?_
      refine tb_b_ieq rfl (fun hc => ?_) (fun hc => ?_)
      · rw [if_pos hc] at h
        refine tb_Es (k := 1) (st' := (37, [(3, .ref p2), (0, .ref a0), (1, .int a1), (2, .int a2)], [.int 0], x8.2)) rfl ?_
        obtain rfl := Option.some.inj h
        subst hr
        exact tb_Er rfl rfl
      · rw [if_neg hc] at h
        refine tb_Es (k := 2) (st' := (37, [(3, .ref p2), (0, .ref a0), (1, .int a1), (2, .int a2)], [.int 1], x8.2)) rfl ?_
        obtain rfl := Option.some.inj h
        subst hr
        exact tb_Er rfl rfl
    rw [if_neg hc] at h
    refine tb_w_end ?_
    refine tb_Es (k := 1) (st' := (39, [(3, .ref p2), (0, .ref a0), (1, .int a1), (2, .int a2)], [.int (-1)], x3.2)) rfl ?_
    obtain rfl := Option.some.inj h
    subst hr
    exact tb_Er rfl rfl
/-! TannerBunting$Judge.wordOf(ILTannerBunting$Street;I)I -/
def fb_jg_wordOf (a0 : Int32) (a1 : Nat) (a2 : Int32) (w : tb_Hp) : Option (Int32 × tb_Hp) := (if a0 = 20 then some (a2, w) else (if a0 = 21 then (tb_on 17 a1 w (fb_s_oddOf a1 a2 w)).bind fun x1 => some (x1.1, x1.2) else (if a0 = 22 then (tb_on 17 a1 w (fb_s_evenOf a1 a2 w)).bind fun x2 => some (x2.1, x2.2) else (if a0 = 23 then (tb_on 17 a1 w (fb_s_pullOf a1 a2 w)).bind fun x3 => some (x3.1, x3.2) else (if a0 = 24 then (tb_on 17 a1 w (fb_s_oddOf a1 a2 w)).bind fun x4 => (tb_on 17 a1 x4.2 (fb_s_leanOf a1 x4.1 x4.2)).bind fun x5 => some (x5.1, x5.2) else (if a0 = 25 then (tb_on 17 a1 w (fb_s_evenOf a1 a2 w)).bind fun x6 => (tb_on 17 a1 x6.2 (fb_s_leanOf a1 x6.1 x6.2)).bind fun x7 => some (x7.1, x7.2) else (if a0 = 26 then (tb_on 17 a1 w (fb_s_oddOf a1 a2 w)).bind fun x8 => (tb_on 17 a1 x8.2 (fb_s_footOf a1 x8.1 x8.2)).bind fun x9 => some (x9.1, x9.2) else (if a0 = 27 then (tb_on 17 a1 w (fb_s_evenOf a1 a2 w)).bind fun x10 => (tb_on 17 a1 x10.2 (fb_s_footOf a1 x10.1 x10.2)).bind fun x11 => some (x11.1, x11.2) else (if a0 = 28 then (tb_gI 17 4 a1 w).bind fun x12 => (fb_in_bitCount x12 w).bind fun x13 => some (x13.1, x13.2) else (if a0 = 29 then (tb_gI 17 5 a1 w).bind fun x14 => (fb_in_bitCount x14 w).bind fun x15 => some (x15.1, x15.2) else (if a0 = 30 then (tb_gI 17 1 a1 w).bind fun x16 => some (x16, w) else (if a0 = 31 then (tb_gI 17 2 a1 w).bind fun x17 => some (x17, w) else some (0, w)))))))))))))
set_option maxHeartbeats 4000000 in
set_option maxRecDepth 20000 in
theorem dc_jg_wordOf {a0 : Int32} {a1 : Nat} {a2 : Int32} {w : tb_Hp} {o : Int32 × tb_Hp} (h : fb_jg_wordOf a0 a1 a2 w = some o) : tb_Ev tb_P 2 80 (0, tb_ent [.int a0, .ref a1, .int a2], [], w) (some (.int o.1), o.2) := by
  unfold fb_jg_wordOf at h
  obtain ⟨r, hr⟩ : ∃ r : Option Value × tb_Hp, r = (some (.int o.1), o.2) := ⟨_, rfl⟩
  rw [← hr]
  show tb_Ev tb_P 2 80 (0, [(0, .int a0), (1, .ref a1), (2, .int a2)], [], w) r
  refine tb_Es (k := 1) (st' := (1, [(0, .int a0), (1, .ref a1), (2, .int a2)], [.int a0], w)) rfl ?_
  refine tb_w_tab rfl (by decide) ?_
  refine tb_w_one (k := 20) (by decide) (fun hc => ?_) (fun hc => ?_)
  · rw [if_pos hc] at h
    refine tb_Es (k := 1) (st' := (3, [(0, .int a0), (1, .ref a1), (2, .int a2)], [.int a2], w)) rfl ?_
    obtain rfl := Option.some.inj h
    subst hr
    exact tb_Er rfl rfl
  rw [if_neg hc] at h
  refine tb_w_one (k := 21) (by decide) (fun hc => ?_) (fun hc => ?_)
  · rw [if_pos hc] at h
    refine tb_Es (k := 2) (st' := (6, [(0, .int a0), (1, .ref a1), (2, .int a2)], [.int a2, .ref a1], w)) rfl ?_
    replace h := Option.bind_eq_some_iff.mp h
    obtain ⟨x1, ex1, h⟩ := h
    obtain ⟨hkx1, hcall⟩ := tb_on_some ex1
    refine tb_e_cv (v := some (.int x1.1)) rfl (Or.inl ⟨_, rfl⟩) rfl rfl (Nat.le_of_ble_eq_true rfl) rfl (Nat.le_of_ble_eq_true rfl) hkx1 ((dc_s_oddOf hcall).up (by decide)) ?_
    obtain rfl := Option.some.inj h
    subst hr
    exact tb_Er rfl rfl
  rw [if_neg hc] at h
  refine tb_w_one (k := 22) (by decide) (fun hc => ?_) (fun hc => ?_)
  · rw [if_pos hc] at h
    refine tb_Es (k := 2) (st' := (10, [(0, .int a0), (1, .ref a1), (2, .int a2)], [.int a2, .ref a1], w)) rfl ?_
    replace h := Option.bind_eq_some_iff.mp h
    obtain ⟨x2, ex2, h⟩ := h
    obtain ⟨hkx2, hcall⟩ := tb_on_some ex2
    refine tb_e_cv (v := some (.int x2.1)) rfl (Or.inl ⟨_, rfl⟩) rfl rfl (Nat.le_of_ble_eq_true rfl) rfl (Nat.le_of_ble_eq_true rfl) hkx2 ((dc_s_evenOf hcall).up (by decide)) ?_
    obtain rfl := Option.some.inj h
    subst hr
    exact tb_Er rfl rfl
  rw [if_neg hc] at h
  refine tb_w_one (k := 23) (by decide) (fun hc => ?_) (fun hc => ?_)
  · rw [if_pos hc] at h
    refine tb_Es (k := 2) (st' := (14, [(0, .int a0), (1, .ref a1), (2, .int a2)], [.int a2, .ref a1], w)) rfl ?_
    replace h := Option.bind_eq_some_iff.mp h
    obtain ⟨x3, ex3, h⟩ := h
    obtain ⟨hkx3, hcall⟩ := tb_on_some ex3
    refine tb_e_cv (v := some (.int x3.1)) rfl (Or.inl ⟨_, rfl⟩) rfl rfl (Nat.le_of_ble_eq_true rfl) rfl (Nat.le_of_ble_eq_true rfl) hkx3 ((dc_s_pullOf hcall).up (by decide)) ?_
    obtain rfl := Option.some.inj h
    subst hr
    exact tb_Er rfl rfl
  rw [if_neg hc] at h
  refine tb_w_one (k := 24) (by decide) (fun hc => ?_) (fun hc => ?_)
  · rw [if_pos hc] at h
    refine tb_Es (k := 3) (st' := (19, [(0, .int a0), (1, .ref a1), (2, .int a2)], [.int a2, .ref a1, .ref a1], w)) rfl ?_
    replace h := Option.bind_eq_some_iff.mp h
    obtain ⟨x4, ex4, h⟩ := h
    obtain ⟨hkx4, hcall⟩ := tb_on_some ex4
    refine tb_e_cv (v := some (.int x4.1)) rfl (Or.inl ⟨_, rfl⟩) rfl rfl (Nat.le_of_ble_eq_true rfl) rfl (Nat.le_of_ble_eq_true rfl) hkx4 ((dc_s_oddOf hcall).up (by decide)) ?_
    replace h := Option.bind_eq_some_iff.mp h
    obtain ⟨x5, ex5, h⟩ := h
    obtain ⟨hkx5, hcall⟩ := tb_on_some ex5
    refine tb_e_cv (v := some (.int x5.1)) rfl (Or.inl ⟨_, rfl⟩) rfl rfl (Nat.le_of_ble_eq_true rfl) rfl (Nat.le_of_ble_eq_true rfl) hkx5 ((dc_s_leanOf hcall).up (by decide)) ?_
    obtain rfl := Option.some.inj h
    subst hr
    exact tb_Er rfl rfl
  rw [if_neg hc] at h
  refine tb_w_one (k := 25) (by decide) (fun hc => ?_) (fun hc => ?_)
  · rw [if_pos hc] at h
    refine tb_Es (k := 3) (st' := (25, [(0, .int a0), (1, .ref a1), (2, .int a2)], [.int a2, .ref a1, .ref a1], w)) rfl ?_
    replace h := Option.bind_eq_some_iff.mp h
    obtain ⟨x6, ex6, h⟩ := h
    obtain ⟨hkx6, hcall⟩ := tb_on_some ex6
    refine tb_e_cv (v := some (.int x6.1)) rfl (Or.inl ⟨_, rfl⟩) rfl rfl (Nat.le_of_ble_eq_true rfl) rfl (Nat.le_of_ble_eq_true rfl) hkx6 ((dc_s_evenOf hcall).up (by decide)) ?_
    replace h := Option.bind_eq_some_iff.mp h
    obtain ⟨x7, ex7, h⟩ := h
    obtain ⟨hkx7, hcall⟩ := tb_on_some ex7
    refine tb_e_cv (v := some (.int x7.1)) rfl (Or.inl ⟨_, rfl⟩) rfl rfl (Nat.le_of_ble_eq_true rfl) rfl (Nat.le_of_ble_eq_true rfl) hkx7 ((dc_s_leanOf hcall).up (by decide)) ?_
    obtain rfl := Option.some.inj h
    subst hr
    exact tb_Er rfl rfl
  rw [if_neg hc] at h
  refine tb_w_one (k := 26) (by decide) (fun hc => ?_) (fun hc => ?_)
  · rw [if_pos hc] at h
    refine tb_Es (k := 3) (st' := (31, [(0, .int a0), (1, .ref a1), (2, .int a2)], [.int a2, .ref a1, .ref a1], w)) rfl ?_
    replace h := Option.bind_eq_some_iff.mp h
    obtain ⟨x8, ex8, h⟩ := h
    obtain ⟨hkx8, hcall⟩ := tb_on_some ex8
    refine tb_e_cv (v := some (.int x8.1)) rfl (Or.inl ⟨_, rfl⟩) rfl rfl (Nat.le_of_ble_eq_true rfl) rfl (Nat.le_of_ble_eq_true rfl) hkx8 ((dc_s_oddOf hcall).up (by decide)) ?_
    replace h := Option.bind_eq_some_iff.mp h
    obtain ⟨x9, ex9, h⟩ := h
    obtain ⟨hkx9, hcall⟩ := tb_on_some ex9
    refine tb_e_cv (v := some (.int x9.1)) rfl (Or.inl ⟨_, rfl⟩) rfl rfl (Nat.le_of_ble_eq_true rfl) rfl (Nat.le_of_ble_eq_true rfl) hkx9 ((dc_s_footOf hcall).up (by decide)) ?_
    obtain rfl := Option.some.inj h
    subst hr
    exact tb_Er rfl rfl
  rw [if_neg hc] at h
  refine tb_w_one (k := 27) (by decide) (fun hc => ?_) (fun hc => ?_)
  · rw [if_pos hc] at h
    refine tb_Es (k := 3) (st' := (37, [(0, .int a0), (1, .ref a1), (2, .int a2)], [.int a2, .ref a1, .ref a1], w)) rfl ?_
    replace h := Option.bind_eq_some_iff.mp h
    obtain ⟨x10, ex10, h⟩ := h
    obtain ⟨hkx10, hcall⟩ := tb_on_some ex10
    refine tb_e_cv (v := some (.int x10.1)) rfl (Or.inl ⟨_, rfl⟩) rfl rfl (Nat.le_of_ble_eq_true rfl) rfl (Nat.le_of_ble_eq_true rfl) hkx10 ((dc_s_evenOf hcall).up (by decide)) ?_
    replace h := Option.bind_eq_some_iff.mp h
    obtain ⟨x11, ex11, h⟩ := h
    obtain ⟨hkx11, hcall⟩ := tb_on_some ex11
    refine tb_e_cv (v := some (.int x11.1)) rfl (Or.inl ⟨_, rfl⟩) rfl rfl (Nat.le_of_ble_eq_true rfl) rfl (Nat.le_of_ble_eq_true rfl) hkx11 ((dc_s_footOf hcall).up (by decide)) ?_
    obtain rfl := Option.some.inj h
    subst hr
    exact tb_Er rfl rfl
  rw [if_neg hc] at h
  refine tb_w_one (k := 28) (by decide) (fun hc => ?_) (fun hc => ?_)
  · rw [if_pos hc] at h
    refine tb_Es (k := 1) (st' := (41, [(0, .int a0), (1, .ref a1), (2, .int a2)], [.ref a1], w)) rfl ?_
    replace h := Option.bind_eq_some_iff.mp h
    obtain ⟨x12, ex12, h⟩ := h
    refine tb_e_gI rfl ex12 ?_
    replace h := Option.bind_eq_some_iff.mp h
    obtain ⟨x13, ex13, h⟩ := h
    have hcall := ex13
    refine tb_e_cs (v := some (.int x13.1)) rfl rfl rfl (Nat.le_of_ble_eq_true rfl) rfl (Nat.le_of_ble_eq_true rfl) ((dc_in_bitCount hcall).up (by decide)) ?_
    obtain rfl := Option.some.inj h
    subst hr
    exact tb_Er rfl rfl
  rw [if_neg hc] at h
  refine tb_w_one (k := 29) (by decide) (fun hc => ?_) (fun hc => ?_)
  · rw [if_pos hc] at h
    refine tb_Es (k := 1) (st' := (45, [(0, .int a0), (1, .ref a1), (2, .int a2)], [.ref a1], w)) rfl ?_
    replace h := Option.bind_eq_some_iff.mp h
    obtain ⟨x14, ex14, h⟩ := h
    refine tb_e_gI rfl ex14 ?_
    replace h := Option.bind_eq_some_iff.mp h
    obtain ⟨x15, ex15, h⟩ := h
    have hcall := ex15
    refine tb_e_cs (v := some (.int x15.1)) rfl rfl rfl (Nat.le_of_ble_eq_true rfl) rfl (Nat.le_of_ble_eq_true rfl) ((dc_in_bitCount hcall).up (by decide)) ?_
    obtain rfl := Option.some.inj h
    subst hr
    exact tb_Er rfl rfl
  rw [if_neg hc] at h
  refine tb_w_one (k := 30) (by decide) (fun hc => ?_) (fun hc => ?_)
  · rw [if_pos hc] at h
    refine tb_Es (k := 1) (st' := (49, [(0, .int a0), (1, .ref a1), (2, .int a2)], [.ref a1], w)) rfl ?_
    replace h := Option.bind_eq_some_iff.mp h
    obtain ⟨x16, ex16, h⟩ := h
    refine tb_e_gI rfl ex16 ?_
    obtain rfl := Option.some.inj h
    subst hr
    exact tb_Er rfl rfl
  rw [if_neg hc] at h
  refine tb_w_one (k := 31) (by decide) (fun hc => ?_) (fun hc => ?_)
  · rw [if_pos hc] at h
    refine tb_Es (k := 1) (st' := (52, [(0, .int a0), (1, .ref a1), (2, .int a2)], [.ref a1], w)) rfl ?_
    replace h := Option.bind_eq_some_iff.mp h
    obtain ⟨x17, ex17, h⟩ := h
    refine tb_e_gI rfl ex17 ?_
    obtain rfl := Option.some.inj h
    subst hr
    exact tb_Er rfl rfl
  rw [if_neg hc] at h
  refine tb_w_end ?_
  refine tb_Es (k := 1) (st' := (55, [(0, .int a0), (1, .ref a1), (2, .int a2)], [.int 0], w)) rfl ?_
  obtain rfl := Option.some.inj h
  subst hr
  exact tb_Er rfl rfl
/-! TannerBunting$Street.weak()I -/
def fl_s_weak_6 : Nat → Nat → Int32 → Int32 → tb_Hp → Option (Int32 × tb_Hp)
  | 0, _, _, _, _ => none
  | n + 1, v0, v1, v2, w => (tb_on 17 v0 w (fb_s_houses v0 w)).bind fun x2 => (if v2 < x2.1 then (tb_on 17 v0 x2.2 (fb_s_stands v0 v2 x2.2)).bind fun x3 => (if x3.1 = 0 then fl_s_weak_6 n v0 v1 (v2 + 1) x3.2 else (tb_gN 17 6 v0 x3.2).bind fun p4 => (tb_lI [1, 9] p4 v2 x3.2).bind fun x5 => (tb_gN 17 11 v0 x3.2).bind fun p6 => (tb_lI [1, 9] p6 v2 x3.2).bind fun x7 => (if x7 < x5 then fl_s_weak_6 n v0 (v1 ||| (1 <<< (v2 &&& 31))) (v2 + 1) x3.2 else fl_s_weak_6 n v0 v1 (v2 + 1) x3.2)) else some ((v1, x2.2)))
set_option maxHeartbeats 4000000 in
set_option maxRecDepth 20000 in
theorem dl_s_weak_6 : ∀ (n : Nat) (v0 : Nat) (v1 : Int32) (v2 : Int32) (w : tb_Hp) (o : Int32 × tb_Hp), fl_s_weak_6 n v0 v1 v2 w = some o → ∀ (r : Option Value × tb_Hp), tb_Ev tb_P 2 87 (33, [(1, .int o.1)], [], o.2) r → tb_Ev tb_P 2 87 (7, [(0, .ref v0), (1, .int v1), (2, .int v2)], [], w) r := by
  intro n
  induction n with
  | zero =>
    intro v0 v1 v2 w o h
    cases h
  | succ n ih =>
    intro v0 v1 v2 w o h r hx
    unfold fl_s_weak_6 at h
    refine tb_Es (k := 2) (st' := (9, [(0, .ref v0), (1, .int v1), (2, .int v2)], [.ref v0, .int v2], w)) rfl ?_
    replace h := Option.bind_eq_some_iff.mp h
    obtain ⟨x2, ex2, h⟩ := h
    obtain ⟨hkx2, hcall⟩ := tb_on_some ex2
    refine tb_e_cv (v := some (.int x2.1)) rfl (Or.inl ⟨_, rfl⟩) rfl rfl (Nat.le_of_ble_eq_true rfl) rfl (Nat.le_of_ble_eq_true rfl) hkx2 ((dc_s_houses hcall).up (by decide)) ?_
    refine tb_b_cge rfl (fun hc => ?_) (fun hc => ?_)
    · rw [if_pos hc] at h
      refine tb_Es (k := 2) (st' := (13, [(0, .ref v0), (1, .int v1), (2, .int v2)], [.int v2, .ref v0], x2.2)) rfl ?_
      replace h := Option.bind_eq_some_iff.mp h
      obtain ⟨x3, ex3, h⟩ := h
      obtain ⟨hkx3, hcall⟩ := tb_on_some ex3
      refine tb_e_cv (v := some (.int x3.1)) rfl (Or.inl ⟨_, rfl⟩) rfl rfl (Nat.le_of_ble_eq_true rfl) rfl (Nat.le_of_ble_eq_true rfl) hkx3 ((dc_s_stands hcall).up (by decide)) ?_
      refine tb_b_ieq rfl (fun hc => ?_) (fun hc => ?_)
      · rw [if_pos hc] at h
        refine tb_Es (k := 3) (st' := (7, [(0, .ref v0), (1, .int v1), (2, .int (v2 + 1))], [], x3.2)) rfl ?_
        exact ih v0 v1 (v2 + 1) x3.2 _ h r hx
      · rw [if_neg hc] at h
        refine tb_Es (k := 1) (st' := (16, [(0, .ref v0), (1, .int v1), (2, .int v2)], [.ref v0], x3.2)) rfl ?_
        replace h := Option.bind_eq_some_iff.mp h
        obtain ⟨p4, ep4, h⟩ := h
        refine tb_e_gN rfl ep4 ?_
        refine tb_Es (k := 1) (st' := (18, [(0, .ref v0), (1, .int v1), (2, .int v2)], [.int v2, .ref p4], x3.2)) rfl ?_
        replace h := Option.bind_eq_some_iff.mp h
        obtain ⟨x5, ex5, h⟩ := h
        refine tb_e_lI rfl (Or.inl ⟨rfl, rfl⟩) ex5 ?_
        refine tb_Es (k := 1) (st' := (20, [(0, .ref v0), (1, .int v1), (2, .int v2)], [.ref v0, .int x5], x3.2)) rfl ?_
        replace h := Option.bind_eq_some_iff.mp h
        obtain ⟨p6, ep6, h⟩ := h
        refine tb_e_gN rfl ep6 ?_
        refine tb_Es (k := 1) (st' := (22, [(0, .ref v0), (1, .int v1), (2, .int v2)], [.int v2, .ref p6, .int x5], x3.2)) rfl ?_
        replace h := Option.bind_eq_some_iff.mp h
        obtain ⟨x7, ex7, h⟩ := h
        refine tb_e_lI rfl (Or.inl ⟨rfl, rfl⟩) ex7 ?_
        refine tb_b_cle rfl (fun hc => ?_) (fun hc => ?_)
        · rw [if_pos hc] at h
          refine tb_Es (k := 9) (st' := (7, [(0, .ref v0), (1, .int (v1 ||| (1 <<< (v2 &&& 31)))), (2, .int (v2 + 1))], [], x3.2)) rfl ?_
          exact ih v0 (v1 ||| (1 <<< (v2 &&& 31))) (v2 + 1) x3.2 _ h r hx
        · rw [if_neg hc] at h
          refine tb_Es (k := 3) (st' := (7, [(0, .ref v0), (1, .int v1), (2, .int (v2 + 1))], [], x3.2)) rfl ?_
          exact ih v0 v1 (v2 + 1) x3.2 _ h r hx
    · rw [if_neg hc] at h
      refine tb_Es (k := 1) (st' := (33, [(1, .int v1)], [], x2.2)) rfl ?_
      obtain rfl := Option.some.inj h
      exact hx
def fb_s_weak (a0 : Nat) (w : tb_Hp) : Option (Int32 × tb_Hp) := (tb_on 17 a0 w (fb_s_weighAll a0 w)).bind fun x1 => (fl_s_weak_6 1048576 a0 0 0 x1).bind fun o8 => some (o8.1, o8.2)
set_option maxHeartbeats 4000000 in
set_option maxRecDepth 20000 in
theorem dc_s_weak {a0 : Nat} {w : tb_Hp} {o : Int32 × tb_Hp} (h : fb_s_weak a0 w = some o) : tb_Ev tb_P 2 87 (0, tb_ent [.ref a0], [], w) (some (.int o.1), o.2) := by
  unfold fb_s_weak at h
  obtain ⟨r, hr⟩ : ∃ r : Option Value × tb_Hp, r = (some (.int o.1), o.2) := ⟨_, rfl⟩
  rw [← hr]
  show tb_Ev tb_P 2 87 (0, [(0, .ref a0)], [], w) r
  refine tb_Es (k := 1) (st' := (1, [(0, .ref a0)], [.ref a0], w)) rfl ?_
  replace h := Option.bind_eq_some_iff.mp h
  obtain ⟨x1, ex1, h⟩ := h
  obtain ⟨hkx1, hcall⟩ := tb_on_some ex1
  refine tb_e_cv (v := none) rfl (Or.inl ⟨_, rfl⟩) rfl rfl (Nat.le_of_ble_eq_true rfl) rfl (Nat.le_of_ble_eq_true rfl) hkx1 ((dc_s_weighAll hcall).up (by decide)) ?_
  refine tb_Es (k := 5) (st' := (7, [(0, .ref a0), (1, .int 0), (2, .int 0)], [], x1)) rfl ?_
  replace h := Option.bind_eq_some_iff.mp h
  obtain ⟨o8, eo8, h⟩ := h
  refine dl_s_weak_6 _ a0 0 0 x1 _ eo8 r ?_
  refine tb_Es (k := 1) (st' := (34, [(1, .int o8.1)], [.int o8.1], o8.2)) rfl ?_
  obtain rfl := Option.some.inj h
  subst hr
  exact tb_Er rfl rfl
/-! TannerBunting.tighten(II)I -/
def fb_x_tighten (a0 : Nat) (a1 : Int32) (a2 : Int32) (w : tb_Hp) : Option (Int32 × tb_Hp) := (tb_gN 21 5 a0 w).bind fun p1 => (tb_gN 15 0 p1 w).bind fun p2 => (tb_on 17 p2 w (fb_s_isUp p2 a1 w)).bind fun x3 => (if x3.1 = 0 then some (-1, x3.2) else (fb_x_within a2 1 9 x3.2).bind fun x4 => (if x4.1 = 0 then some (-1, x4.2) else (tb_gN 21 7 a0 x4.2).bind fun p5 => (tb_gN 21 5 a0 x4.2).bind fun p6 => (tb_gN 15 0 p6 x4.2).bind fun p7 => (tb_on 13 p5 x4.2 (fb_p_keep p5 p7 x4.2)).bind fun x8 => (tb_gN 21 5 a0 x8).bind fun p9 => (tb_gN 15 0 p9 x8).bind fun p10 => (tb_gN 21 5 a0 x8).bind fun p11 => (tb_gN 15 0 p11 x8).bind fun p12 => (tb_on 17 p12 x8 (fb_s_pullOf p12 a1 x8)).bind fun x13 => (fb_ma_min 60 (x13.1 + a2) x13.2).bind fun x14 => (tb_on 17 p10 x14.2 (fb_s_setPull p10 a1 x14.1 x14.2)).bind fun x15 => (tb_gN 21 5 a0 x15).bind fun p16 => (tb_gN 15 0 p16 x15).bind fun p17 => (tb_on 17 p17 x15 (fb_s_pullOf p17 a1 x15)).bind fun x18 => some (x18.1, x18.2)))
set_option maxHeartbeats 4000000 in
set_option maxRecDepth 20000 in
theorem dc_x_tighten {a0 : Nat} {a1 : Int32} {a2 : Int32} {w : tb_Hp} {o : Int32 × tb_Hp} (h : fb_x_tighten a0 a1 a2 w = some o) : tb_Ev tb_P 2 89 (0, tb_ent [.ref a0, .int a1, .int a2], [], w) (some (.int o.1), o.2) := by
  unfold fb_x_tighten at h
  obtain ⟨r, hr⟩ : ∃ r : Option Value × tb_Hp, r = (some (.int o.1), o.2) := ⟨_, rfl⟩
  rw [← hr]
  show tb_Ev tb_P 2 89 (0, [(0, .ref a0), (1, .int a1), (2, .int a2)], [], w) r
  refine tb_Es (k := 1) (st' := (1, [(0, .ref a0), (1, .int a1), (2, .int a2)], [.ref a0], w)) rfl ?_
  replace h := Option.bind_eq_some_iff.mp h
  obtain ⟨p1, ep1, h⟩ := h
  refine tb_e_gN rfl ep1 ?_
  replace h := Option.bind_eq_some_iff.mp h
  obtain ⟨p2, ep2, h⟩ := h
  refine tb_e_gN rfl ep2 ?_
  refine tb_Es (k := 1) (st' := (4, [(0, .ref a0), (1, .int a1), (2, .int a2)], [.int a1, .ref p2], w)) rfl ?_
  replace h := Option.bind_eq_some_iff.mp h
  obtain ⟨x3, ex3, h⟩ := h
  obtain ⟨hkx3, hcall⟩ := tb_on_some ex3
  refine tb_e_cv (v := some (.int x3.1)) rfl (Or.inl ⟨_, rfl⟩) rfl rfl (Nat.le_of_ble_eq_true rfl) rfl (Nat.le_of_ble_eq_true rfl) hkx3 ((dc_s_isUp hcall).up (by decide)) ?_
  refine tb_b_ieq rfl (fun hc => ?_) (fun hc => ?_)
  · rw [if_pos hc] at h
    refine tb_Es (k := 1) (st' := (12, [(0, .ref a0), (1, .int a1), (2, .int a2)], [.int (-1)], x3.2)) rfl ?_
    obtain rfl := Option.some.inj h
    subst hr
    exact tb_Er rfl rfl
  · rw [if_neg hc] at h
    refine tb_Es (k := 3) (st' := (9, [(0, .ref a0), (1, .int a1), (2, .int a2)], [.int 9, .int 1, .int a2], x3.2)) rfl ?_
    replace h := Option.bind_eq_some_iff.mp h
    obtain ⟨x4, ex4, h⟩ := h
    have hcall := ex4
    refine tb_e_cs (v := some (.int x4.1)) rfl rfl rfl (Nat.le_of_ble_eq_true rfl) rfl (Nat.le_of_ble_eq_true rfl) ((dc_x_within hcall).up (by decide)) ?_
    refine tb_b_ine rfl (fun hc => ?_) (fun hc => ?_)
    · rw [if_pos hc] at h
      refine tb_Es (k := 1) (st' := (12, [(0, .ref a0), (1, .int a1), (2, .int a2)], [.int (-1)], x4.2)) rfl ?_
      obtain rfl := Option.some.inj h
      subst hr
      exact tb_Er rfl rfl
    · rw [if_neg hc] at h
      refine tb_Es (k := 1) (st' := (14, [(0, .ref a0), (1, .int a1), (2, .int a2)], [.ref a0], x4.2)) rfl ?_
      replace h := Option.bind_eq_some_iff.mp h
      obtain ⟨p5, ep5, h⟩ := h
      refine tb_e_gN rfl ep5 ?_
      refine tb_Es (k := 1) (st' := (16, [(0, .ref a0), (1, .int a1), (2, .int a2)], [.ref a0, .ref p5], x4.2)) rfl ?_
      replace h := Option.bind_eq_some_iff.mp h
      obtain ⟨p6, ep6, h⟩ := h
      refine tb_e_gN rfl ep6 ?_
      replace h := Option.bind_eq_some_iff.mp h
      obtain ⟨p7, ep7, h⟩ := h
      refine tb_e_gN rfl ep7 ?_
      replace h := Option.bind_eq_some_iff.mp h
      obtain ⟨x8, ex8, h⟩ := h
      obtain ⟨hkx8, hcall⟩ := tb_on_some ex8
      refine tb_e_cv (v := none) rfl (Or.inl ⟨_, rfl⟩) rfl rfl (Nat.le_of_ble_eq_true rfl) rfl (Nat.le_of_ble_eq_true rfl) hkx8 ((dc_p_keep hcall).up (by decide)) ?_
      refine tb_Es (k := 1) (st' := (20, [(0, .ref a0), (1, .int a1), (2, .int a2)], [.ref a0], x8)) rfl ?_
      replace h := Option.bind_eq_some_iff.mp h
      obtain ⟨p9, ep9, h⟩ := h
      refine tb_e_gN rfl ep9 ?_
      replace h := Option.bind_eq_some_iff.mp h
      obtain ⟨p10, ep10, h⟩ := h
      refine tb_e_gN rfl ep10 ?_
      refine tb_Es (k := 3) (st' := (25, [(0, .ref a0), (1, .int a1), (2, .int a2)], [.ref a0, .int 60, .int a1, .ref p10], x8)) rfl ?_
      replace h := Option.bind_eq_some_iff.mp h
      obtain ⟨p11, ep11, h⟩ := h
      refine tb_e_gN rfl ep11 ?_
      replace h := Option.bind_eq_some_iff.mp h
      obtain ⟨p12, ep12, h⟩ := h
      refine tb_e_gN rfl ep12 ?_
      refine tb_Es (k := 1) (st' := (28, [(0, .ref a0), (1, .int a1), (2, .int a2)], [.int a1, .ref p12, .int 60, .int a1, .ref p10], x8)) rfl ?_
      replace h := Option.bind_eq_some_iff.mp h
      obtain ⟨x13, ex13, h⟩ := h
      obtain ⟨hkx13, hcall⟩ := tb_on_some ex13
      refine tb_e_cv (v := some (.int x13.1)) rfl (Or.inl ⟨_, rfl⟩) rfl rfl (Nat.le_of_ble_eq_true rfl) rfl (Nat.le_of_ble_eq_true rfl) hkx13 ((dc_s_pullOf hcall).up (by decide)) ?_
      refine tb_Es (k := 2) (st' := (31, [(0, .ref a0), (1, .int a1), (2, .int a2)], [.int (x13.1 + a2), .int 60, .int a1, .ref p10], x13.2)) rfl ?_
      replace h := Option.bind_eq_some_iff.mp h
      obtain ⟨x14, ex14, h⟩ := h
      have hcall := ex14
      refine tb_e_cs (v := some (.int x14.1)) rfl rfl rfl (Nat.le_of_ble_eq_true rfl) rfl (Nat.le_of_ble_eq_true rfl) ((dc_ma_min hcall).up (by decide)) ?_
      replace h := Option.bind_eq_some_iff.mp h
      obtain ⟨x15, ex15, h⟩ := h
      obtain ⟨hkx15, hcall⟩ := tb_on_some ex15
      refine tb_e_cv (v := none) rfl (Or.inl ⟨_, rfl⟩) rfl rfl (Nat.le_of_ble_eq_true rfl) rfl (Nat.le_of_ble_eq_true rfl) hkx15 ((dc_s_setPull hcall).up (by decide)) ?_
      refine tb_Es (k := 1) (st' := (34, [(0, .ref a0), (1, .int a1), (2, .int a2)], [.ref a0], x15)) rfl ?_
      replace h := Option.bind_eq_some_iff.mp h
      obtain ⟨p16, ep16, h⟩ := h
      refine tb_e_gN rfl ep16 ?_
      replace h := Option.bind_eq_some_iff.mp h
      obtain ⟨p17, ep17, h⟩ := h
      refine tb_e_gN rfl ep17 ?_
      refine tb_Es (k := 1) (st' := (37, [(0, .ref a0), (1, .int a1), (2, .int a2)], [.int a1, .ref p17], x15)) rfl ?_
      replace h := Option.bind_eq_some_iff.mp h
      obtain ⟨x18, ex18, h⟩ := h
      obtain ⟨hkx18, hcall⟩ := tb_on_some ex18
      refine tb_e_cv (v := some (.int x18.1)) rfl (Or.inl ⟨_, rfl⟩) rfl rfl (Nat.le_of_ble_eq_true rfl) rfl (Nat.le_of_ble_eq_true rfl) hkx18 ((dc_s_pullOf hcall).up (by decide)) ?_
      obtain rfl := Option.some.inj h
      subst hr
      exact tb_Er rfl rfl
/-! TannerBunting$Street.canJoin(II)Z -/
def fb_s_canJoin (a0 : Nat) (a1 : Int32) (a2 : Int32) (w : tb_Hp) : Option (Int32 × tb_Hp) := (tb_gI 17 0 a0 w).bind fun x1 => (if a1 < x1 then (tb_gI 17 0 a0 w).bind fun x2 => (if a2 < x2 then some (0, w) else (tb_on 17 a0 w (fb_s_stands a0 a1 w)).bind fun x3 => (if x3.1 = 0 then some (0, x3.2) else (tb_on 17 a0 x3.2 (fb_s_stands a0 a2 x3.2)).bind fun x4 => (if x4.1 = 0 then some (0, x4.2) else some (1, x4.2)))) else some (0, w))
set_option maxHeartbeats 4000000 in
set_option maxRecDepth 20000 in
theorem dc_s_canJoin {a0 : Nat} {a1 : Int32} {a2 : Int32} {w : tb_Hp} {o : Int32 × tb_Hp} (h : fb_s_canJoin a0 a1 a2 w = some o) : tb_Ev tb_P 2 94 (0, tb_ent [.ref a0, .int a1, .int a2], [], w) (some (.int o.1), o.2) := by
  unfold fb_s_canJoin at h
  obtain ⟨r, hr⟩ : ∃ r : Option Value × tb_Hp, r = (some (.int o.1), o.2) := ⟨_, rfl⟩
  rw [← hr]
  show tb_Ev tb_P 2 94 (0, [(0, .ref a0), (1, .int a1), (2, .int a2)], [], w) r
  refine tb_Es (k := 2) (st' := (2, [(0, .ref a0), (1, .int a1), (2, .int a2)], [.ref a0, .int a1], w)) rfl ?_
  replace h := Option.bind_eq_some_iff.mp h
  obtain ⟨x1, ex1, h⟩ := h
  refine tb_e_gI rfl ex1 ?_
  refine tb_b_cge rfl (fun hc => ?_) (fun hc => ?_)
  · rw [if_pos hc] at h
    refine tb_Es (k := 2) (st' := (6, [(0, .ref a0), (1, .int a1), (2, .int a2)], [.ref a0, .int a2], w)) rfl ?_
    replace h := Option.bind_eq_some_iff.mp h
    obtain ⟨x2, ex2, h⟩ := h
    refine tb_e_gI rfl ex2 ?_
    refine tb_b_clt rfl (fun hc => ?_) (fun hc => ?_)
    · rw [if_pos hc] at h
      refine tb_Es (k := 1) (st' := (19, [(0, .ref a0), (1, .int a1), (2, .int a2)], [.int 0], w)) rfl ?_
      obtain rfl := Option.some.inj h
      subst hr
      exact tb_Er rfl rfl
    · rw [if_neg hc] at h
      refine tb_Es (k := 2) (st' := (10, [(0, .ref a0), (1, .int a1), (2, .int a2)], [.int a1, .ref a0], w)) rfl ?_
      replace h := Option.bind_eq_some_iff.mp h
      obtain ⟨x3, ex3, h⟩ := h
      obtain ⟨hkx3, hcall⟩ := tb_on_some ex3
      refine tb_e_cv (v := some (.int x3.1)) rfl (Or.inl ⟨_, rfl⟩) rfl rfl (Nat.le_of_ble_eq_true rfl) rfl (Nat.le_of_ble_eq_true rfl) hkx3 ((dc_s_stands hcall).up (by decide)) ?_
      refine tb_b_ieq rfl (fun hc => ?_) (fun hc => ?_)
      · rw [if_pos hc] at h
        refine tb_Es (k := 1) (st' := (19, [(0, .ref a0), (1, .int a1), (2, .int a2)], [.int 0], x3.2)) rfl ?_
        obtain rfl := Option.some.inj h
        subst hr
        exact tb_Er rfl rfl
      · rw [if_neg hc] at h
        refine tb_Es (k := 2) (st' := (14, [(0, .ref a0), (1, .int a1), (2, .int a2)], [.int a2, .ref a0], x3.2)) rfl ?_
        replace h := Option.bind_eq_some_iff.mp h
        obtain ⟨x4, ex4, h⟩ := h
        obtain ⟨hkx4, hcall⟩ := tb_on_some ex4
        refine tb_e_cv (v := some (.int x4.1)) rfl (Or.inl ⟨_, rfl⟩) rfl rfl (Nat.le_of_ble_eq_true rfl) rfl (Nat.le_of_ble_eq_true rfl) hkx4 ((dc_s_stands hcall).up (by decide)) ?_
        refine tb_b_ieq rfl (fun hc => ?_) (fun hc => ?_)
        · rw [if_pos hc] at h
          refine tb_Es (k := 1) (st' := (19, [(0, .ref a0), (1, .int a1), (2, .int a2)], [.int 0], x4.2)) rfl ?_
          obtain rfl := Option.some.inj h
          subst hr
          exact tb_Er rfl rfl
        · rw [if_neg hc] at h
          refine tb_Es (k := 2) (st' := (19, [(0, .ref a0), (1, .int a1), (2, .int a2)], [.int 1], x4.2)) rfl ?_
          obtain rfl := Option.some.inj h
          subst hr
          exact tb_Er rfl rfl
  · rw [if_neg hc] at h
    refine tb_Es (k := 1) (st' := (19, [(0, .ref a0), (1, .int a1), (2, .int a2)], [.int 0], w)) rfl ?_
    obtain rfl := Option.some.inj h
    subst hr
    exact tb_Er rfl rfl
