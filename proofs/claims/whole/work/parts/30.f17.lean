/-! TannerBunting$Years.goOn([II)V -/
def fj_yr_goOn_j16 (k : Nat → (Option Nat) → Int32 → Int32 → tb_Hp → Option (tb_Hp)) (w : tb_Hp) : Option (tb_Hp) := some (w)
set_option maxHeartbeats 4000000 in
set_option maxRecDepth 20000 in
theorem dj_yr_goOn_j16 (k : Nat → (Option Nat) → Int32 → Int32 → tb_Hp → Option (tb_Hp)) (w : tb_Hp) (o : tb_Hp) (h : fj_yr_goOn_j16 k  w = some o) (r : Option Value × tb_Hp) (hx : r = (none, o)) (hk : ∀ (v0 : Nat) (v1 : Option Nat) (v2 : Int32) (v3 : Int32) (w : tb_Hp), k v0 v1 v2 v3 w = some o → tb_Ev tb_P 5 100 (3, [(0, .ref v0), (1, va_rf v1), (2, .int v2), (3, .int v3)], [], w) r) : tb_Ev tb_P 5 100 (18, [], [], w) r := by
  unfold fj_yr_goOn_j16 at h
  obtain rfl := Option.some.inj h
  replace hx : r = _ := hx
  subst hx
  exact tb_Er rfl rfl
def fj_yr_goOn_j19 (k : Nat → (Option Nat) → Int32 → Int32 → tb_Hp → Option (tb_Hp)) (w : tb_Hp) : Option (tb_Hp) := some (w)
set_option maxHeartbeats 4000000 in
set_option maxRecDepth 20000 in
theorem dj_yr_goOn_j19 (k : Nat → (Option Nat) → Int32 → Int32 → tb_Hp → Option (tb_Hp)) (w : tb_Hp) (o : tb_Hp) (h : fj_yr_goOn_j19 k  w = some o) (r : Option Value × tb_Hp) (hx : r = (none, o)) (hk : ∀ (v0 : Nat) (v1 : Option Nat) (v2 : Int32) (v3 : Int32) (w : tb_Hp), k v0 v1 v2 v3 w = some o → tb_Ev tb_P 5 100 (3, [(0, .ref v0), (1, va_rf v1), (2, .int v2), (3, .int v3)], [], w) r) : tb_Ev tb_P 5 100 (22, [], [], w) r := by
  unfold fj_yr_goOn_j19 at h
  obtain rfl := Option.some.inj h
  replace hx : r = _ := hx
  subst hx
  exact tb_Er rfl rfl
def fl_yr_goOn_2 : Nat → Nat → (Option Nat) → Int32 → Int32 → tb_Hp → Option (tb_Hp)
  | 0, _, _, _, _, _ => none
  | n + 1, v0, v1, v2, v3, w => (if v3 < v2 then (tb_gN 20 5 v0 w).bind fun p1 => (tb_gN 20 0 v0 w).bind fun p2 => (tb_on 11 p1 w (fb_jg_passYear p1 p2 v1 w)).bind fun x3 => (tb_gN 20 0 v0 x3.2).bind fun p4 => (tb_gI 17 4 p4 x3.2).bind fun x5 => (if x5 = 0 then fj_yr_goOn_j16 (fl_yr_goOn_2 n)  x3.2 else fl_yr_goOn_2 n v0 v1 v2 (v3 + 1) x3.2) else fj_yr_goOn_j19 (fl_yr_goOn_2 n)  w)
set_option maxHeartbeats 4000000 in
set_option maxRecDepth 20000 in
theorem dl_yr_goOn_2 : ∀ (n : Nat) (v0 : Nat) (v1 : Option Nat) (v2 : Int32) (v3 : Int32) (w : tb_Hp) (o : tb_Hp), fl_yr_goOn_2 n v0 v1 v2 v3 w = some o → ∀ (r : Option Value × tb_Hp), r = (none, o) → tb_Ev tb_P 5 100 (3, [(0, .ref v0), (1, va_rf v1), (2, .int v2), (3, .int v3)], [], w) r := by
  intro n
  induction n with
  | zero =>
    intro v0 v1 v2 v3 w o h
    cases h
  | succ n ih =>
    intro v0 v1 v2 v3 w o h r hx
    unfold fl_yr_goOn_2 at h
    refine tb_Es (k := 2) (st' := (5, [(0, .ref v0), (1, va_rf v1), (2, .int v2), (3, .int v3)], [.int v2, .int v3], w)) rfl ?_
    refine tb_b_cge rfl (fun hc => ?_) (fun hc => ?_)
    · rw [if_pos hc] at h
      refine tb_Es (k := 1) (st' := (7, [(0, .ref v0), (1, va_rf v1), (2, .int v2), (3, .int v3)], [.ref v0], w)) rfl ?_
      replace h := Option.bind_eq_some_iff.mp h
      obtain ⟨p1, ep1, h⟩ := h
      refine tb_e_gN rfl ep1 ?_
      refine tb_Es (k := 1) (st' := (9, [(0, .ref v0), (1, va_rf v1), (2, .int v2), (3, .int v3)], [.ref v0, .ref p1], w)) rfl ?_
      replace h := Option.bind_eq_some_iff.mp h
      obtain ⟨p2, ep2, h⟩ := h
      refine tb_e_gN rfl ep2 ?_
      refine tb_q_aload (k := 1) rfl (Or.inr ⟨_, rfl, rfl⟩) rfl ?_
      replace h := Option.bind_eq_some_iff.mp h
      obtain ⟨x3, ex3, h⟩ := h
      obtain ⟨hkx3, hcall⟩ := tb_on_some ex3
      refine tb_e_cv (as := [.ref p2, va_rf v1]) (v := some (.int x3.1)) rfl (Or.inl ⟨_, rfl⟩) rfl rfl (Nat.le_of_ble_eq_true rfl) rfl (by simp only [List.map_cons, List.map_nil, List.sum_cons, List.sum_nil, tb_catq, tb_cR, tb_cI, tb_cJ, tb_cT]; exact Nat.le_of_ble_eq_true rfl) hkx3 ((dc_jg_passYear hcall).up (by decide)) ?_
      refine tb_Es (k := 2) (st' := (14, [(0, .ref v0), (1, va_rf v1), (2, .int v2), (3, .int v3)], [.ref v0], x3.2)) rfl ?_
      replace h := Option.bind_eq_some_iff.mp h
      obtain ⟨p4, ep4, h⟩ := h
      refine tb_e_gN rfl ep4 ?_
      replace h := Option.bind_eq_some_iff.mp h
      obtain ⟨x5, ex5, h⟩ := h
      refine tb_e_gI rfl ex5 ?_
      refine tb_b_ine rfl (fun hc => ?_) (fun hc => ?_)
      · rw [if_pos hc] at h
        refine tb_Es (k := 1) (st' := (18, [], [], x3.2)) rfl ?_
        exact dj_yr_goOn_j16 (fl_yr_goOn_2 n)  x3.2 _ h r hx (fun v0_ v1_ v2_ v3_ w_ h_ => ih v0_ v1_ v2_ v3_ w_ _ h_ r hx)
      · rw [if_neg hc] at h
        refine tb_Es (k := 3) (st' := (3, [(0, .ref v0), (1, va_rf v1), (2, .int v2), (3, .int (v3 + 1))], [], x3.2)) rfl ?_
        exact ih v0 v1 v2 (v3 + 1) x3.2 _ h r hx
    · rw [if_neg hc] at h
      refine tb_Es (k := 1) (st' := (22, [], [], w)) rfl ?_
      exact dj_yr_goOn_j19 (fl_yr_goOn_2 n)  w _ h r hx (fun v0_ v1_ v2_ v3_ w_ h_ => ih v0_ v1_ v2_ v3_ w_ _ h_ r hx)
def fb_yr_goOn (a0 : Nat) (a1 : Option Nat) (a2 : Int32) (w : tb_Hp) : Option (tb_Hp) := (fl_yr_goOn_2 1048576 a0 a1 a2 0 w).bind fun o6 => some o6
set_option maxHeartbeats 4000000 in
set_option maxRecDepth 20000 in
theorem dc_yr_goOn {a0 : Nat} {a1 : Option Nat} {a2 : Int32} {w : tb_Hp} {o : tb_Hp} (h : fb_yr_goOn a0 a1 a2 w = some o) : tb_Ev tb_P 5 100 (0, tb_ent [.ref a0, va_rf a1, .int a2], [], w) (none, o) := by
  unfold fb_yr_goOn at h
  obtain ⟨r, hr⟩ : ∃ r : Option Value × tb_Hp, r = (none, o) := ⟨_, rfl⟩
  rw [← hr]
  rw [show tb_ent [.ref a0, va_rf a1, .int a2] = [(0, .ref a0), (1, va_rf a1), (2, .int a2)] by simp [tb_ent, lv_args, tb_catq, tb_cR, tb_cI, tb_cJ]]
  show tb_Ev tb_P 5 100 (0, [(0, .ref a0), (1, va_rf a1), (2, .int a2)], [], w) r
  refine tb_Es (k := 3) (st' := (3, [(0, .ref a0), (1, va_rf a1), (2, .int a2), (3, .int 0)], [], w)) rfl ?_
  replace h := Option.bind_eq_some_iff.mp h
  obtain ⟨o6, eo6, h⟩ := h
  refine dl_yr_goOn_2 _ a0 a1 a2 0 w _ eo6 r ?_
  obtain rfl := Option.some.inj h
  exact hr
/-! TannerBunting$Years.firstFall(LTannerBunting$Street;[II)I -/
def fj_yr_firstFall_j31 (k : Nat → (Option Nat) → Int32 → Int32 → tb_Hp → Option (Int32 × tb_Hp)) (w : tb_Hp) : Option (Int32 × tb_Hp) := some ((-1, w))
set_option maxHeartbeats 4000000 in
set_option maxRecDepth 20000 in
theorem dj_yr_firstFall_j31 (k : Nat → (Option Nat) → Int32 → Int32 → tb_Hp → Option (Int32 × tb_Hp)) (w : tb_Hp) (o : Int32 × tb_Hp) (h : fj_yr_firstFall_j31 k  w = some o) (r : Option Value × tb_Hp) (hx : r = (some (.int o.1), o.2)) (hk : ∀ (v0 : Nat) (v2 : Option Nat) (v3 : Int32) (v4 : Int32) (w : tb_Hp), k v0 v2 v3 v4 w = some o → tb_Ev tb_P 5 103 (6, [(0, .ref v0), (2, va_rf v2), (3, .int v3), (4, .int v4)], [], w) r) : tb_Ev tb_P 5 103 (34, [], [], w) r := by
  unfold fj_yr_firstFall_j31 at h
  refine tb_Es (k := 1) (st' := (35, [], [.int (-1)], w)) rfl ?_
  obtain rfl := Option.some.inj h
  replace hx : r = _ := hx
  subst hx
  exact tb_Er rfl rfl
def fj_yr_firstFall_j25 (k : Nat → (Option Nat) → Int32 → Int32 → tb_Hp → Option (Int32 × tb_Hp)) (v5 : Int32) (w : tb_Hp) : Option (Int32 × tb_Hp) := some ((v5, w))
set_option maxHeartbeats 4000000 in
set_option maxRecDepth 20000 in
theorem dj_yr_firstFall_j25 (k : Nat → (Option Nat) → Int32 → Int32 → tb_Hp → Option (Int32 × tb_Hp)) (v5 : Int32) (w : tb_Hp) (o : Int32 × tb_Hp) (h : fj_yr_firstFall_j25 k v5 w = some o) (r : Option Value × tb_Hp) (hx : r = (some (.int o.1), o.2)) (hk : ∀ (v0 : Nat) (v2 : Option Nat) (v3 : Int32) (v4 : Int32) (w : tb_Hp), k v0 v2 v3 v4 w = some o → tb_Ev tb_P 5 103 (6, [(0, .ref v0), (2, va_rf v2), (3, .int v3), (4, .int v4)], [], w) r) : tb_Ev tb_P 5 103 (27, [(5, .int v5)], [], w) r := by
  unfold fj_yr_firstFall_j25 at h
  refine tb_Es (k := 1) (st' := (28, [(5, .int v5)], [.int v5], w)) rfl ?_
  obtain rfl := Option.some.inj h
  replace hx : r = _ := hx
  subst hx
  exact tb_Er rfl rfl
def fj_yr_firstFall_j35 (k : Nat → (Option Nat) → Int32 → Int32 → tb_Hp → Option (Int32 × tb_Hp)) (w : tb_Hp) : Option (Int32 × tb_Hp) := some ((-1, w))
set_option maxHeartbeats 4000000 in
set_option maxRecDepth 20000 in
theorem dj_yr_firstFall_j35 (k : Nat → (Option Nat) → Int32 → Int32 → tb_Hp → Option (Int32 × tb_Hp)) (w : tb_Hp) (o : Int32 × tb_Hp) (h : fj_yr_firstFall_j35 k  w = some o) (r : Option Value × tb_Hp) (hx : r = (some (.int o.1), o.2)) (hk : ∀ (v0 : Nat) (v2 : Option Nat) (v3 : Int32) (v4 : Int32) (w : tb_Hp), k v0 v2 v3 v4 w = some o → tb_Ev tb_P 5 103 (6, [(0, .ref v0), (2, va_rf v2), (3, .int v3), (4, .int v4)], [], w) r) : tb_Ev tb_P 5 103 (39, [], [], w) r := by
  unfold fj_yr_firstFall_j35 at h
  refine tb_Es (k := 1) (st' := (40, [], [.int (-1)], w)) rfl ?_
  obtain rfl := Option.some.inj h
  replace hx : r = _ := hx
  subst hx
  exact tb_Er rfl rfl
def fl_yr_firstFall_5 : Nat → Nat → (Option Nat) → Int32 → Int32 → tb_Hp → Option (Int32 × tb_Hp)
  | 0, _, _, _, _, _ => none
  | n + 1, v0, v2, v3, v4, w => (if v4 < 200 then (tb_gN 20 0 v0 w).bind fun p2 => (tb_gI 17 2 p2 w).bind fun x3 => (tb_gN 20 5 v0 w).bind fun p4 => (tb_gN 20 0 v0 w).bind fun p5 => (tb_on 11 p4 w (fb_jg_passYear p4 p5 v2 w)).bind fun x6 => (tb_pI 20 1 v0 x6.1 x6.2).bind fun w7 => (tb_gI 20 1 v0 w7).bind fun x8 => (if (x8 &&& v3) = 0 then (tb_gN 20 0 v0 w7).bind fun p9 => (tb_gI 17 4 p9 w7).bind fun x10 => (if x10 = 0 then fj_yr_firstFall_j31 (fl_yr_firstFall_5 n)  w7 else fl_yr_firstFall_5 n v0 v2 v3 (v4 + 1) w7) else fj_yr_firstFall_j25 (fl_yr_firstFall_5 n) x3 w7) else fj_yr_firstFall_j35 (fl_yr_firstFall_5 n)  w)
set_option maxHeartbeats 4000000 in
set_option maxRecDepth 20000 in
theorem dl_yr_firstFall_5 : ∀ (n : Nat) (v0 : Nat) (v2 : Option Nat) (v3 : Int32) (v4 : Int32) (w : tb_Hp) (o : Int32 × tb_Hp), fl_yr_firstFall_5 n v0 v2 v3 v4 w = some o → ∀ (r : Option Value × tb_Hp), r = (some (.int o.1), o.2) → tb_Ev tb_P 5 103 (6, [(0, .ref v0), (2, va_rf v2), (3, .int v3), (4, .int v4)], [], w) r := by
  intro n
  induction n with
  | zero =>
    intro v0 v2 v3 v4 w o h
    cases h
  | succ n ih =>
    intro v0 v2 v3 v4 w o h r hx
    unfold fl_yr_firstFall_5 at h
    refine tb_Es (k := 2) (st' := (8, [(0, .ref v0), (2, va_rf v2), (3, .int v3), (4, .int v4)], [.int 200, .int v4], w)) rfl ?_
    refine tb_b_cge rfl (fun hc => ?_) (fun hc => ?_)
    · rw [if_pos hc] at h
      refine tb_Es (k := 1) (st' := (10, [(0, .ref v0), (2, va_rf v2), (3, .int v3), (4, .int v4)], [.ref v0], w)) rfl ?_
      replace h := Option.bind_eq_some_iff.mp h
      obtain ⟨p2, ep2, h⟩ := h
      refine tb_e_gN rfl ep2 ?_
      replace h := Option.bind_eq_some_iff.mp h
      obtain ⟨x3, ex3, h⟩ := h
      refine tb_e_gI rfl ex3 ?_
      refine tb_Es (k := 3) (st' := (15, [(5, .int x3), (0, .ref v0), (2, va_rf v2), (3, .int v3), (4, .int v4)], [.ref v0, .ref v0], w)) rfl ?_
      replace h := Option.bind_eq_some_iff.mp h
      obtain ⟨p4, ep4, h⟩ := h
      refine tb_e_gN rfl ep4 ?_
      refine tb_Es (k := 1) (st' := (17, [(5, .int x3), (0, .ref v0), (2, va_rf v2), (3, .int v3), (4, .int v4)], [.ref v0, .ref p4, .ref v0], w)) rfl ?_
      replace h := Option.bind_eq_some_iff.mp h
      obtain ⟨p5, ep5, h⟩ := h
      refine tb_e_gN rfl ep5 ?_
      refine tb_q_aload (k := 2) rfl (Or.inr ⟨_, rfl, rfl⟩) rfl ?_
      replace h := Option.bind_eq_some_iff.mp h
      obtain ⟨x6, ex6, h⟩ := h
      obtain ⟨hkx6, hcall⟩ := tb_on_some ex6
      refine tb_e_cv (as := [.ref p5, va_rf v2]) (v := some (.int x6.1)) rfl (Or.inl ⟨_, rfl⟩) rfl rfl (Nat.le_of_ble_eq_true rfl) rfl (by simp only [List.map_cons, List.map_nil, List.sum_cons, List.sum_nil, tb_catq, tb_cR, tb_cI, tb_cJ, tb_cT]; exact Nat.le_of_ble_eq_true rfl) hkx6 ((dc_jg_passYear hcall).up (by decide)) ?_
      replace h := Option.bind_eq_some_iff.mp h
      obtain ⟨w7, ew7, h⟩ := h
      refine tb_e_pI rfl ew7 ?_
      refine tb_Es (k := 1) (st' := (22, [(5, .int x3), (0, .ref v0), (2, va_rf v2), (3, .int v3), (4, .int v4)], [.ref v0], w7)) rfl ?_
      replace h := Option.bind_eq_some_iff.mp h
      obtain ⟨x8, ex8, h⟩ := h
      refine tb_e_gI rfl ex8 ?_
      refine tb_Es (k := 2) (st' := (25, [(5, .int x3), (0, .ref v0), (2, va_rf v2), (3, .int v3), (4, .int v4)], [.int (x8 &&& v3)], w7)) rfl ?_
      refine tb_b_ieq rfl (fun hc => ?_) (fun hc => ?_)
      · rw [if_pos hc] at h
        refine tb_Es (k := 1) (st' := (30, [(5, .int x3), (0, .ref v0), (2, va_rf v2), (3, .int v3), (4, .int v4)], [.ref v0], w7)) rfl ?_
        replace h := Option.bind_eq_some_iff.mp h
        obtain ⟨p9, ep9, h⟩ := h
        refine tb_e_gN rfl ep9 ?_
        replace h := Option.bind_eq_some_iff.mp h
        obtain ⟨x10, ex10, h⟩ := h
        refine tb_e_gI rfl ex10 ?_
        refine tb_b_ine rfl (fun hc => ?_) (fun hc => ?_)
        · rw [if_pos hc] at h
          refine tb_Es (k := 1) (st' := (34, [], [], w7)) rfl ?_
          exact dj_yr_firstFall_j31 (fl_yr_firstFall_5 n)  w7 _ h r hx (fun v0_ v2_ v3_ v4_ w_ h_ => ih v0_ v2_ v3_ v4_ w_ _ h_ r hx)
        · rw [if_neg hc] at h
          refine tb_Es (k := 3) (st' := (6, [(0, .ref v0), (2, va_rf v2), (3, .int v3), (4, .int (v4 + 1))], [], w7)) rfl ?_
          exact ih v0 v2 v3 (v4 + 1) w7 _ h r hx
      · rw [if_neg hc] at h
        refine tb_Es (k := 1) (st' := (27, [(5, .int x3)], [], w7)) rfl ?_
        exact dj_yr_firstFall_j25 (fl_yr_firstFall_5 n) x3 w7 _ h r hx (fun v0_ v2_ v3_ v4_ w_ h_ => ih v0_ v2_ v3_ v4_ w_ _ h_ r hx)
    · rw [if_neg hc] at h
      refine tb_Es (k := 1) (st' := (39, [], [], w)) rfl ?_
      exact dj_yr_firstFall_j35 (fl_yr_firstFall_5 n)  w _ h r hx (fun v0_ v2_ v3_ v4_ w_ h_ => ih v0_ v2_ v3_ v4_ w_ _ h_ r hx)
def fb_yr_firstFall (a0 : Nat) (a1 : Nat) (a2 : Option Nat) (a3 : Int32) (w : tb_Hp) : Option (Int32 × tb_Hp) := (tb_on 20 a0 w (fb_yr_begin a0 a1 w)).bind fun x1 => (fl_yr_firstFall_5 1048576 a0 a2 a3 0 x1).bind fun o11 => some o11
set_option maxHeartbeats 4000000 in
set_option maxRecDepth 20000 in
theorem dc_yr_firstFall {a0 : Nat} {a1 : Nat} {a2 : Option Nat} {a3 : Int32} {w : tb_Hp} {o : Int32 × tb_Hp} (h : fb_yr_firstFall a0 a1 a2 a3 w = some o) : tb_Ev tb_P 5 103 (0, tb_ent [.ref a0, .ref a1, va_rf a2, .int a3], [], w) (some (.int o.1), o.2) := by
  unfold fb_yr_firstFall at h
  obtain ⟨r, hr⟩ : ∃ r : Option Value × tb_Hp, r = (some (.int o.1), o.2) := ⟨_, rfl⟩
  rw [← hr]
  rw [show tb_ent [.ref a0, .ref a1, va_rf a2, .int a3] = [(0, .ref a0), (1, .ref a1), (2, va_rf a2), (3, .int a3)] by simp [tb_ent, lv_args, tb_catq, tb_cR, tb_cI, tb_cJ]]
  show tb_Ev tb_P 5 103 (0, [(0, .ref a0), (1, .ref a1), (2, va_rf a2), (3, .int a3)], [], w) r
  refine tb_Es (k := 2) (st' := (2, [(0, .ref a0), (1, .ref a1), (2, va_rf a2), (3, .int a3)], [.ref a1, .ref a0], w)) rfl ?_
  replace h := Option.bind_eq_some_iff.mp h
  obtain ⟨x1, ex1, h⟩ := h
  obtain ⟨hkx1, hcall⟩ := tb_on_some ex1
  refine tb_e_cv (v := none) rfl (Or.inl ⟨_, rfl⟩) rfl rfl (Nat.le_of_ble_eq_true rfl) rfl (Nat.le_of_ble_eq_true rfl) hkx1 ((dc_yr_begin hcall).up (by decide)) ?_
  refine tb_Es (k := 3) (st' := (6, [(0, .ref a0), (2, va_rf a2), (3, .int a3), (4, .int 0)], [], x1)) rfl ?_
  replace h := Option.bind_eq_some_iff.mp h
  obtain ⟨o11, eo11, h⟩ := h
  refine dl_yr_firstFall_5 _ a0 a2 a3 0 x1 _ eo11 r ?_
  obtain rfl := Option.some.inj h
  exact hr
/-! TannerBunting$Hands.linesNeeded(LTannerBunting$Street;)I -/
def fl_h_linesNeeded_8 : Nat → Nat → Nat → Int32 → Int32 → tb_Hp → Option (Int32 × tb_Hp)
  | 0, _, _, _, _, _ => none
  | n + 1, v0, v1, v2, v3, w => (tb_gI 17 3 v1 w).bind fun x3 => (if v3 < x3 then (tb_on 17 v1 w (fb_s_isUp v1 v3 w)).bind fun x4 => (if x4.1 = 0 then fl_h_linesNeeded_8 n v0 v1 v2 (v3 + 1) x4.2 else (tb_gI 17 4 v1 x4.2).bind fun x5 => (tb_on 10 v0 x4.2 (fb_h_fallenWith v0 v1 (x5 &&& ((1 <<< (v3 &&& 31)) ^^^ (-1))) x4.2)).bind fun x6 => (if x6.1 = 0 then fl_h_linesNeeded_8 n v0 v1 v2 (v3 + 1) x6.2 else fl_h_linesNeeded_8 n v0 v1 (v2 ||| (1 <<< (v3 &&& 31))) (v3 + 1) x6.2)) else some ((v2, w)))
set_option maxHeartbeats 4000000 in
set_option maxRecDepth 20000 in
theorem dl_h_linesNeeded_8 : ∀ (n : Nat) (v0 : Nat) (v1 : Nat) (v2 : Int32) (v3 : Int32) (w : tb_Hp) (o : Int32 × tb_Hp), fl_h_linesNeeded_8 n v0 v1 v2 v3 w = some o → ∀ (r : Option Value × tb_Hp), tb_Ev tb_P 5 109 (38, [(2, .int o.1)], [], o.2) r → tb_Ev tb_P 5 109 (9, [(0, .ref v0), (1, .ref v1), (2, .int v2), (3, .int v3)], [], w) r := by
  intro n
  induction n with
  | zero =>
    intro v0 v1 v2 v3 w o h
    cases h
  | succ n ih =>
    intro v0 v1 v2 v3 w o h r hx
    unfold fl_h_linesNeeded_8 at h
    refine tb_Es (k := 2) (st' := (11, [(0, .ref v0), (1, .ref v1), (2, .int v2), (3, .int v3)], [.ref v1, .int v3], w)) rfl ?_
    replace h := Option.bind_eq_some_iff.mp h
    obtain ⟨x3, ex3, h⟩ := h
    refine tb_e_gI rfl ex3 ?_
    refine tb_b_cge rfl (fun hc => ?_) (fun hc => ?_)
    · rw [if_pos hc] at h
      refine tb_Es (k := 2) (st' := (15, [(0, .ref v0), (1, .ref v1), (2, .int v2), (3, .int v3)], [.int v3, .ref v1], w)) rfl ?_
      replace h := Option.bind_eq_some_iff.mp h
      obtain ⟨x4, ex4, h⟩ := h
      obtain ⟨hkx4, hcall⟩ := tb_on_some ex4
      refine tb_e_cv (v := some (.int x4.1)) rfl (Or.inl ⟨_, rfl⟩) rfl rfl (Nat.le_of_ble_eq_true rfl) rfl (Nat.le_of_ble_eq_true rfl) hkx4 ((dc_s_isUp hcall).up (by decide)) ?_
      refine tb_b_ieq rfl (fun hc => ?_) (fun hc => ?_)
      · rw [if_pos hc] at h
        refine tb_Es (k := 3) (st' := (9, [(0, .ref v0), (1, .ref v1), (2, .int v2), (3, .int (v3 + 1))], [], x4.2)) rfl ?_
        exact ih v0 v1 v2 (v3 + 1) x4.2 _ h r hx
      · rw [if_neg hc] at h
        refine tb_Es (k := 3) (st' := (20, [(0, .ref v0), (1, .ref v1), (2, .int v2), (3, .int v3)], [.ref v1, .ref v1, .ref v0], x4.2)) rfl ?_
        replace h := Option.bind_eq_some_iff.mp h
        obtain ⟨x5, ex5, h⟩ := h
        refine tb_e_gI rfl ex5 ?_
        refine tb_Es (k := 6) (st' := (27, [(0, .ref v0), (1, .ref v1), (2, .int v2), (3, .int v3)], [.int (x5 &&& ((1 <<< (v3 &&& 31)) ^^^ (-1))), .ref v1, .ref v0], x4.2)) rfl ?_
        replace h := Option.bind_eq_some_iff.mp h
        obtain ⟨x6, ex6, h⟩ := h
        obtain ⟨hkx6, hcall⟩ := tb_on_some ex6
        refine tb_e_cv (v := some (.int x6.1)) rfl (Or.inl ⟨_, rfl⟩) rfl rfl (Nat.le_of_ble_eq_true rfl) rfl (Nat.le_of_ble_eq_true rfl) hkx6 ((dc_h_fallenWith hcall).up (by decide)) ?_
        refine tb_b_ieq rfl (fun hc => ?_) (fun hc => ?_)
        · rw [if_pos hc] at h
          refine tb_Es (k := 3) (st' := (9, [(0, .ref v0), (1, .ref v1), (2, .int v2), (3, .int (v3 + 1))], [], x6.2)) rfl ?_
          exact ih v0 v1 v2 (v3 + 1) x6.2 _ h r hx
        · rw [if_neg hc] at h
          refine tb_Es (k := 9) (st' := (9, [(0, .ref v0), (1, .ref v1), (2, .int (v2 ||| (1 <<< (v3 &&& 31)))), (3, .int (v3 + 1))], [], x6.2)) rfl ?_
          exact ih v0 v1 (v2 ||| (1 <<< (v3 &&& 31))) (v3 + 1) x6.2 _ h r hx
    · rw [if_neg hc] at h
      refine tb_Es (k := 1) (st' := (38, [(2, .int v2)], [], w)) rfl ?_
      obtain rfl := Option.some.inj h
      exact hx
def fb_h_linesNeeded (a0 : Nat) (a1 : Nat) (w : tb_Hp) : Option (Int32 × tb_Hp) := (tb_gN 10 0 a0 w).bind fun p1 => (tb_on 17 p1 w (fb_s_copyFrom p1 a1 w)).bind fun x2 => (fl_h_linesNeeded_8 1048576 a0 a1 0 0 x2).bind fun o7 => some (o7.1, o7.2)
set_option maxHeartbeats 4000000 in
set_option maxRecDepth 20000 in
theorem dc_h_linesNeeded {a0 : Nat} {a1 : Nat} {w : tb_Hp} {o : Int32 × tb_Hp} (h : fb_h_linesNeeded a0 a1 w = some o) : tb_Ev tb_P 5 109 (0, tb_ent [.ref a0, .ref a1], [], w) (some (.int o.1), o.2) := by
  unfold fb_h_linesNeeded at h
  obtain ⟨r, hr⟩ : ∃ r : Option Value × tb_Hp, r = (some (.int o.1), o.2) := ⟨_, rfl⟩
  rw [← hr]
  show tb_Ev tb_P 5 109 (0, [(0, .ref a0), (1, .ref a1)], [], w) r
  refine tb_Es (k := 1) (st' := (1, [(0, .ref a0), (1, .ref a1)], [.ref a0], w)) rfl ?_
  replace h := Option.bind_eq_some_iff.mp h
  obtain ⟨p1, ep1, h⟩ := h
  refine tb_e_gN rfl ep1 ?_
  refine tb_Es (k := 1) (st' := (3, [(0, .ref a0), (1, .ref a1)], [.ref a1, .ref p1], w)) rfl ?_
  replace h := Option.bind_eq_some_iff.mp h
  obtain ⟨x2, ex2, h⟩ := h
  obtain ⟨hkx2, hcall⟩ := tb_on_some ex2
  refine tb_e_cv (v := none) rfl (Or.inl ⟨_, rfl⟩) rfl rfl (Nat.le_of_ble_eq_true rfl) rfl (Nat.le_of_ble_eq_true rfl) hkx2 ((dc_s_copyFrom hcall).up (by decide)) ?_
  refine tb_Es (k := 5) (st' := (9, [(0, .ref a0), (1, .ref a1), (2, .int 0), (3, .int 0)], [], x2)) rfl ?_
  replace h := Option.bind_eq_some_iff.mp h
  obtain ⟨o7, eo7, h⟩ := h
  refine dl_h_linesNeeded_8 _ a0 a1 0 0 x2 _ eo7 r ?_
  refine tb_Es (k := 1) (st' := (39, [(2, .int o7.1)], [.int o7.1], o7.2)) rfl ?_
  obtain rfl := Option.some.inj h
  subst hr
  exact tb_Er rfl rfl
/-! TannerBunting$Hands.fewestCut(LTannerBunting$Street;I)I -/
def fl_h_fewestCut_8 : Nat → Nat → Nat → Int32 → Int32 → Int32 → tb_Hp → Option (Int32 × tb_Hp)
  | 0, _, _, _, _, _, _ => none
  | n + 1, v0, v1, v2, v3, v4, w => (if v4 < 256 then (fb_h_isBetter v1 v4 v3 w).bind fun x3 => (if x3.1 = 0 then fl_h_fewestCut_8 n v0 v1 v2 v3 (v4 + 1) x3.2 else (tb_gI 17 4 v1 x3.2).bind fun x4 => (tb_on 10 v0 x3.2 (fb_h_fallenWith v0 v1 (x4 &&& (v4 ^^^ (-1))) x3.2)).bind fun x5 => (if (x5.1 &&& v2) = v2 then fl_h_fewestCut_8 n v0 v1 v2 v4 (v4 + 1) x5.2 else fl_h_fewestCut_8 n v0 v1 v2 v3 (v4 + 1) x5.2)) else some ((v3, w)))
set_option maxHeartbeats 4000000 in
set_option maxRecDepth 20000 in
theorem dl_h_fewestCut_8 : ∀ (n : Nat) (v0 : Nat) (v1 : Nat) (v2 : Int32) (v3 : Int32) (v4 : Int32) (w : tb_Hp) (o : Int32 × tb_Hp), fl_h_fewestCut_8 n v0 v1 v2 v3 v4 w = some o → ∀ (r : Option Value × tb_Hp), tb_Ev tb_P 5 112 (35, [(3, .int o.1)], [], o.2) r → tb_Ev tb_P 5 112 (9, [(0, .ref v0), (1, .ref v1), (2, .int v2), (3, .int v3), (4, .int v4)], [], w) r := by
  intro n
  induction n with
  | zero =>
    intro v0 v1 v2 v3 v4 w o h
    cases h
  | succ n ih =>
    intro v0 v1 v2 v3 v4 w o h r hx
    unfold fl_h_fewestCut_8 at h
    refine tb_Es (k := 2) (st' := (11, [(0, .ref v0), (1, .ref v1), (2, .int v2), (3, .int v3), (4, .int v4)], [.int 256, .int v4], w)) rfl ?_
    refine tb_b_cge rfl (fun hc => ?_) (fun hc => ?_)
    · rw [if_pos hc] at h
      refine tb_Es (k := 3) (st' := (15, [(0, .ref v0), (1, .ref v1), (2, .int v2), (3, .int v3), (4, .int v4)], [.int v3, .int v4, .ref v1], w)) rfl ?_
      replace h := Option.bind_eq_some_iff.mp h
      obtain ⟨x3, ex3, h⟩ := h
      have hcall := ex3
      refine tb_e_cs (v := some (.int x3.1)) rfl rfl rfl (Nat.le_of_ble_eq_true rfl) rfl (Nat.le_of_ble_eq_true rfl) ((dc_h_isBetter hcall).up (by decide)) ?_
      refine tb_b_ieq rfl (fun hc => ?_) (fun hc => ?_)
      · rw [if_pos hc] at h
        refine tb_Es (k := 3) (st' := (9, [(0, .ref v0), (1, .ref v1), (2, .int v2), (3, .int v3), (4, .int (v4 + 1))], [], x3.2)) rfl ?_
        exact ih v0 v1 v2 v3 (v4 + 1) x3.2 _ h r hx
      · rw [if_neg hc] at h
        refine tb_Es (k := 3) (st' := (20, [(0, .ref v0), (1, .ref v1), (2, .int v2), (3, .int v3), (4, .int v4)], [.ref v1, .ref v1, .ref v0], x3.2)) rfl ?_
        replace h := Option.bind_eq_some_iff.mp h
        obtain ⟨x4, ex4, h⟩ := h
        refine tb_e_gI rfl ex4 ?_
        refine tb_Es (k := 4) (st' := (25, [(0, .ref v0), (1, .ref v1), (2, .int v2), (3, .int v3), (4, .int v4)], [.int (x4 &&& (v4 ^^^ (-1))), .ref v1, .ref v0], x3.2)) rfl ?_
        replace h := Option.bind_eq_some_iff.mp h
        obtain ⟨x5, ex5, h⟩ := h
        obtain ⟨hkx5, hcall⟩ := tb_on_some ex5
        refine tb_e_cv (v := some (.int x5.1)) rfl (Or.inl ⟨_, rfl⟩) rfl rfl (Nat.le_of_ble_eq_true rfl) rfl (Nat.le_of_ble_eq_true rfl) hkx5 ((dc_h_fallenWith hcall).up (by decide)) ?_
        refine tb_Es (k := 3) (st' := (29, [(0, .ref v0), (1, .ref v1), (2, .int v2), (3, .int v3), (4, .int v4)], [.int v2, .int (x5.1 &&& v2)], x5.2)) rfl ?_
        refine tb_b_cne rfl (fun hc => ?_) (fun hc => ?_)
        · rw [if_pos hc] at h
          refine tb_Es (k := 5) (st' := (9, [(0, .ref v0), (1, .ref v1), (2, .int v2), (3, .int v4), (4, .int (v4 + 1))], [], x5.2)) rfl ?_
          exact ih v0 v1 v2 v4 (v4 + 1) x5.2 _ h r hx
        · rw [if_neg hc] at h
          refine tb_Es (k := 3) (st' := (9, [(0, .ref v0), (1, .ref v1), (2, .int v2), (3, .int v3), (4, .int (v4 + 1))], [], x5.2)) rfl ?_
          exact ih v0 v1 v2 v3 (v4 + 1) x5.2 _ h r hx
    · rw [if_neg hc] at h
      refine tb_Es (k := 1) (st' := (35, [(3, .int v3)], [], w)) rfl ?_
      obtain rfl := Option.some.inj h
      exact hx
def fb_h_fewestCut (a0 : Nat) (a1 : Nat) (a2 : Int32) (w : tb_Hp) : Option (Int32 × tb_Hp) := (tb_gN 10 0 a0 w).bind fun p1 => (tb_on 17 p1 w (fb_s_copyFrom p1 a1 w)).bind fun x2 => (fl_h_fewestCut_8 1048576 a0 a1 a2 (-1) 0 x2).bind fun o6 => some (o6.1, o6.2)
set_option maxHeartbeats 4000000 in
set_option maxRecDepth 20000 in
theorem dc_h_fewestCut {a0 : Nat} {a1 : Nat} {a2 : Int32} {w : tb_Hp} {o : Int32 × tb_Hp} (h : fb_h_fewestCut a0 a1 a2 w = some o) : tb_Ev tb_P 5 112 (0, tb_ent [.ref a0, .ref a1, .int a2], [], w) (some (.int o.1), o.2) := by
  unfold fb_h_fewestCut at h
  obtain ⟨r, hr⟩ : ∃ r : Option Value × tb_Hp, r = (some (.int o.1), o.2) := ⟨_, rfl⟩
  rw [← hr]
  show tb_Ev tb_P 5 112 (0, [(0, .ref a0), (1, .ref a1), (2, .int a2)], [], w) r
  refine tb_Es (k := 1) (st' := (1, [(0, .ref a0), (1, .ref a1), (2, .int a2)], [.ref a0], w)) rfl ?_
  replace h := Option.bind_eq_some_iff.mp h
  obtain ⟨p1, ep1, h⟩ := h
  refine tb_e_gN rfl ep1 ?_
  refine tb_Es (k := 1) (st' := (3, [(0, .ref a0), (1, .ref a1), (2, .int a2)], [.ref a1, .ref p1], w)) rfl ?_
  replace h := Option.bind_eq_some_iff.mp h
  obtain ⟨x2, ex2, h⟩ := h
  obtain ⟨hkx2, hcall⟩ := tb_on_some ex2
  refine tb_e_cv (v := none) rfl (Or.inl ⟨_, rfl⟩) rfl rfl (Nat.le_of_ble_eq_true rfl) rfl (Nat.le_of_ble_eq_true rfl) hkx2 ((dc_s_copyFrom hcall).up (by decide)) ?_
  refine tb_Es (k := 5) (st' := (9, [(0, .ref a0), (1, .ref a1), (2, .int a2), (3, .int (-1)), (4, .int 0)], [], x2)) rfl ?_
  replace h := Option.bind_eq_some_iff.mp h
  obtain ⟨o6, eo6, h⟩ := h
  refine dl_h_fewestCut_8 _ a0 a1 a2 (-1) 0 x2 _ eo6 r ?_
  refine tb_Es (k := 1) (st' := (36, [(3, .int o6.1)], [.int o6.1], o6.2)) rfl ?_
  obtain rfl := Option.some.inj h
  subst hr
  exact tb_Er rfl rfl
/-! TannerBunting$Hands.fewestKept(LTannerBunting$Street;)I -/
def fl_h_fewestKept_8 : Nat → Nat → Nat → Int32 → Int32 → tb_Hp → Option (Int32 × tb_Hp)
  | 0, _, _, _, _, _ => none
  | n + 1, v0, v1, v2, v3, w => (if v3 < 256 then (fb_h_isBetter v1 v3 v2 w).bind fun x3 => (if x3.1 = 0 then fl_h_fewestKept_8 n v0 v1 v2 (v3 + 1) x3.2 else (tb_on 10 v0 x3.2 (fb_h_fallenWith v0 v1 v3 x3.2)).bind fun x4 => (if x4.1 = 0 then fl_h_fewestKept_8 n v0 v1 v3 (v3 + 1) x4.2 else fl_h_fewestKept_8 n v0 v1 v2 (v3 + 1) x4.2)) else some ((v2, w)))
set_option maxHeartbeats 4000000 in
set_option maxRecDepth 20000 in
theorem dl_h_fewestKept_8 : ∀ (n : Nat) (v0 : Nat) (v1 : Nat) (v2 : Int32) (v3 : Int32) (w : tb_Hp) (o : Int32 × tb_Hp), fl_h_fewestKept_8 n v0 v1 v2 v3 w = some o → ∀ (r : Option Value × tb_Hp), tb_Ev tb_P 5 117 (27, [(2, .int o.1)], [], o.2) r → tb_Ev tb_P 5 117 (9, [(0, .ref v0), (1, .ref v1), (2, .int v2), (3, .int v3)], [], w) r := by
  intro n
  induction n with
  | zero =>
    intro v0 v1 v2 v3 w o h
    cases h
  | succ n ih =>
    intro v0 v1 v2 v3 w o h r hx
    unfold fl_h_fewestKept_8 at h
    refine tb_Es (k := 2) (st' := (11, [(0, .ref v0), (1, .ref v1), (2, .int v2), (3, .int v3)], [.int 256, .int v3], w)) rfl ?_
    refine tb_b_cge rfl (fun hc => ?_) (fun hc => ?_)
    · rw [if_pos hc] at h
      refine tb_Es (k := 3) (st' := (15, [(0, .ref v0), (1, .ref v1), (2, .int v2), (3, .int v3)], [.int v2, .int v3, .ref v1], w)) rfl ?_
      replace h := Option.bind_eq_some_iff.mp h
      obtain ⟨x3, ex3, h⟩ := h
      have hcall := ex3
      refine tb_e_cs (v := some (.int x3.1)) rfl rfl rfl (Nat.le_of_ble_eq_true rfl) rfl (Nat.le_of_ble_eq_true rfl) ((dc_h_isBetter hcall).up (by decide)) ?_
      refine tb_b_ieq rfl (fun hc => ?_) (fun hc => ?_)
      · rw [if_pos hc] at h
        refine tb_Es (k := 3) (st' := (9, [(0, .ref v0), (1, .ref v1), (2, .int v2), (3, .int (v3 + 1))], [], x3.2)) rfl ?_
        exact ih v0 v1 v2 (v3 + 1) x3.2 _ h r hx
      · rw [if_neg hc] at h
        refine tb_Es (k := 3) (st' := (20, [(0, .ref v0), (1, .ref v1), (2, .int v2), (3, .int v3)], [.int v3, .ref v1, .ref v0], x3.2)) rfl ?_
        replace h := Option.bind_eq_some_iff.mp h
        obtain ⟨x4, ex4, h⟩ := h
        obtain ⟨hkx4, hcall⟩ := tb_on_some ex4
        refine tb_e_cv (v := some (.int x4.1)) rfl (Or.inl ⟨_, rfl⟩) rfl rfl (Nat.le_of_ble_eq_true rfl) rfl (Nat.le_of_ble_eq_true rfl) hkx4 ((dc_h_fallenWith hcall).up (by decide)) ?_
        refine tb_b_ine rfl (fun hc => ?_) (fun hc => ?_)
        · rw [if_pos hc] at h
          refine tb_Es (k := 5) (st' := (9, [(0, .ref v0), (1, .ref v1), (2, .int v3), (3, .int (v3 + 1))], [], x4.2)) rfl ?_
          exact ih v0 v1 v3 (v3 + 1) x4.2 _ h r hx
        · rw [if_neg hc] at h
          refine tb_Es (k := 3) (st' := (9, [(0, .ref v0), (1, .ref v1), (2, .int v2), (3, .int (v3 + 1))], [], x4.2)) rfl ?_
          exact ih v0 v1 v2 (v3 + 1) x4.2 _ h r hx
    · rw [if_neg hc] at h
      refine tb_Es (k := 1) (st' := (27, [(2, .int v2)], [], w)) rfl ?_
      obtain rfl := Option.some.inj h
      exact hx
def fb_h_fewestKept (a0 : Nat) (a1 : Nat) (w : tb_Hp) : Option (Int32 × tb_Hp) := (tb_gN 10 0 a0 w).bind fun p1 => (tb_on 17 p1 w (fb_s_copyFrom p1 a1 w)).bind fun x2 => (fl_h_fewestKept_8 1048576 a0 a1 (-1) 0 x2).bind fun o5 => some (o5.1, o5.2)
set_option maxHeartbeats 4000000 in
set_option maxRecDepth 20000 in
theorem dc_h_fewestKept {a0 : Nat} {a1 : Nat} {w : tb_Hp} {o : Int32 × tb_Hp} (h : fb_h_fewestKept a0 a1 w = some o) : tb_Ev tb_P 5 117 (0, tb_ent [.ref a0, .ref a1], [], w) (some (.int o.1), o.2) := by
  unfold fb_h_fewestKept at h
  obtain ⟨r, hr⟩ : ∃ r : Option Value × tb_Hp, r = (some (.int o.1), o.2) := ⟨_, rfl⟩
  rw [← hr]
  show tb_Ev tb_P 5 117 (0, [(0, .ref a0), (1, .ref a1)], [], w) r
  refine tb_Es (k := 1) (st' := (1, [(0, .ref a0), (1, .ref a1)], [.ref a0], w)) rfl ?_
  replace h := Option.bind_eq_some_iff.mp h
  obtain ⟨p1, ep1, h⟩ := h
  refine tb_e_gN rfl ep1 ?_
  refine tb_Es (k := 1) (st' := (3, [(0, .ref a0), (1, .ref a1)], [.ref a1, .ref p1], w)) rfl ?_
  replace h := Option.bind_eq_some_iff.mp h
  obtain ⟨x2, ex2, h⟩ := h
  obtain ⟨hkx2, hcall⟩ := tb_on_some ex2
  refine tb_e_cv (v := none) rfl (Or.inl ⟨_, rfl⟩) rfl rfl (Nat.le_of_ble_eq_true rfl) rfl (Nat.le_of_ble_eq_true rfl) hkx2 ((dc_s_copyFrom hcall).up (by decide)) ?_
  refine tb_Es (k := 5) (st' := (9, [(0, .ref a0), (1, .ref a1), (2, .int (-1)), (3, .int 0)], [], x2)) rfl ?_
  replace h := Option.bind_eq_some_iff.mp h
  obtain ⟨o5, eo5, h⟩ := h
  refine dl_h_fewestKept_8 _ a0 a1 (-1) 0 x2 _ eo5 r ?_
  refine tb_Es (k := 1) (st' := (28, [(2, .int o5.1)], [.int o5.1], o5.2)) rfl ?_
  obtain rfl := Option.some.inj h
  subst hr
  exact tb_Er rfl rfl
/-! TannerBunting.blocks(I)I -/
def fb_x_blocks (a0 : Nat) (a1 : Int32) (w : tb_Hp) : Option (Int32 × tb_Hp) := (if a1 = (-1) then (tb_gN 21 5 a0 w).bind fun p1 => (tb_on 15 p1 w (fb_sc_isEmpty p1 w)).bind fun x2 => (if x2.1 = 0 then (tb_gN 21 9 a0 x2.2).bind fun p3 => (tb_gN 21 5 a0 x2.2).bind fun p4 => (tb_gN 15 0 p4 x2.2).bind fun p5 => (tb_on 10 p3 x2.2 (fb_h_blockCount p3 p5 x2.2)).bind fun x6 => some (x6.1, x6.2) else some (-2, x2.2)) else (tb_gN 21 5 a0 w).bind fun p7 => (tb_gN 15 0 p7 w).bind fun p8 => (tb_on 17 p8 w (fb_s_stands p8 a1 w)).bind fun x9 => (if x9.1 = 0 then some (-2, x9.2) else (tb_gN 21 9 a0 x9.2).bind fun p10 => (tb_gN 21 5 a0 x9.2).bind fun p11 => (tb_gN 15 0 p11 x9.2).bind fun p12 => (tb_on 10 p10 x9.2 (fb_h_blockOf p10 p12 a1 x9.2)).bind fun x13 => some (x13.1, x13.2)))
set_option maxHeartbeats 4000000 in
set_option maxRecDepth 20000 in
theorem dc_x_blocks {a0 : Nat} {a1 : Int32} {w : tb_Hp} {o : Int32 × tb_Hp} (h : fb_x_blocks a0 a1 w = some o) : tb_Ev tb_P 5 121 (0, tb_ent [.ref a0, .int a1], [], w) (some (.int o.1), o.2) := by
  unfold fb_x_blocks at h
  obtain ⟨r, hr⟩ : ∃ r : Option Value × tb_Hp, r = (some (.int o.1), o.2) := ⟨_, rfl⟩
  rw [← hr]
  show tb_Ev tb_P 5 121 (0, [(0, .ref a0), (1, .int a1)], [], w) r
  refine tb_Es (k := 2) (st' := (2, [(0, .ref a0), (1, .int a1)], [.int (-1), .int a1], w)) rfl ?_
  refine tb_b_cne rfl (fun hc => ?_) (fun hc => ?_)
  · rw [if_pos hc] at h
    refine tb_Es (k := 1) (st' := (4, [(0, .ref a0), (1, .int a1)], [.ref a0], w)) rfl ?_
    replace h := Option.bind_eq_some_iff.mp h
    obtain ⟨p1, ep1, h⟩ := h
    refine tb_e_gN rfl ep1 ?_
    replace h := Option.bind_eq_some_iff.mp h
    obtain ⟨x2, ex2, h⟩ := h
    obtain ⟨hkx2, hcall⟩ := tb_on_some ex2
    refine tb_e_cv (v := some (.int x2.1)) rfl (Or.inl ⟨_, rfl⟩) rfl rfl (Nat.le_of_ble_eq_true rfl) rfl (Nat.le_of_ble_eq_true rfl) hkx2 ((dc_sc_isEmpty hcall).up (by decide)) ?_
    refine tb_b_ieq rfl (fun hc => ?_) (fun hc => ?_)
    · rw [if_pos hc] at h
      refine tb_Es (k := 1) (st' := (10, [(0, .ref a0), (1, .int a1)], [.ref a0], x2.2)) rfl ?_
      replace h := Option.bind_eq_some_iff.mp h
      obtain ⟨p3, ep3, h⟩ := h
      refine tb_e_gN rfl ep3 ?_
      refine tb_Es (k := 1) (st' := (12, [(0, .ref a0), (1, .int a1)], [.ref a0, .ref p3], x2.2)) rfl ?_
      replace h := Option.bind_eq_some_iff.mp h
      obtain ⟨p4, ep4, h⟩ := h
      refine tb_e_gN rfl ep4 ?_
      replace h := Option.bind_eq_some_iff.mp h
      obtain ⟨p5, ep5, h⟩ := h
      refine tb_e_gN rfl ep5 ?_
      replace h := Option.bind_eq_some_iff.mp h
      obtain ⟨x6, ex6, h⟩ := h
      obtain ⟨hkx6, hcall⟩ := tb_on_some ex6
      refine tb_e_cv (v := some (.int x6.1)) rfl (Or.inl ⟨_, rfl⟩) rfl rfl (Nat.le_of_ble_eq_true rfl) rfl (Nat.le_of_ble_eq_true rfl) hkx6 ((dc_h_blockCount hcall).up (by decide)) ?_
      obtain rfl := Option.some.inj h
      subst hr
      exact tb_Er rfl rfl
    · rw [if_neg hc] at h
      refine tb_Es (k := 2) (st' := (15, [(0, .ref a0), (1, .int a1)], [.int (-2)], x2.2)) rfl ?_
      obtain rfl := Option.some.inj h
      subst hr
      exact tb_Er rfl rfl
  · rw [if_neg hc] at h
    refine tb_Es (k := 1) (st' := (17, [(0, .ref a0), (1, .int a1)], [.ref a0], w)) rfl ?_
    replace h := Option.bind_eq_some_iff.mp h
    obtain ⟨p7, ep7, h⟩ := h
    refine tb_e_gN rfl ep7 ?_
    replace h := Option.bind_eq_some_iff.mp h
    obtain ⟨p8, ep8, h⟩ := h
    refine tb_e_gN rfl ep8 ?_
    refine tb_Es (k := 1) (st' := (20, [(0, .ref a0), (1, .int a1)], [.int a1, .ref p8], w)) rfl ?_
    replace h := Option.bind_eq_some_iff.mp h
    obtain ⟨x9, ex9, h⟩ := h
    obtain ⟨hkx9, hcall⟩ := tb_on_some ex9
    refine tb_e_cv (v := some (.int x9.1)) rfl (Or.inl ⟨_, rfl⟩) rfl rfl (Nat.le_of_ble_eq_true rfl) rfl (Nat.le_of_ble_eq_true rfl) hkx9 ((dc_s_stands hcall).up (by decide)) ?_
    refine tb_b_ieq rfl (fun hc => ?_) (fun hc => ?_)
    · rw [if_pos hc] at h
      refine tb_Es (k := 1) (st' := (31, [(0, .ref a0), (1, .int a1)], [.int (-2)], x9.2)) rfl ?_
      obtain rfl := Option.some.inj h
      subst hr
      exact tb_Er rfl rfl
    · rw [if_neg hc] at h
      refine tb_Es (k := 1) (st' := (23, [(0, .ref a0), (1, .int a1)], [.ref a0], x9.2)) rfl ?_
      replace h := Option.bind_eq_some_iff.mp h
      obtain ⟨p10, ep10, h⟩ := h
      refine tb_e_gN rfl ep10 ?_
      refine tb_Es (k := 1) (st' := (25, [(0, .ref a0), (1, .int a1)], [.ref a0, .ref p10], x9.2)) rfl ?_
      replace h := Option.bind_eq_some_iff.mp h
      obtain ⟨p11, ep11, h⟩ := h
      refine tb_e_gN rfl ep11 ?_
      replace h := Option.bind_eq_some_iff.mp h
      obtain ⟨p12, ep12, h⟩ := h
      refine tb_e_gN rfl ep12 ?_
      refine tb_Es (k := 1) (st' := (28, [(0, .ref a0), (1, .int a1)], [.int a1, .ref p12, .ref p10], x9.2)) rfl ?_
      replace h := Option.bind_eq_some_iff.mp h
      obtain ⟨x13, ex13, h⟩ := h
      obtain ⟨hkx13, hcall⟩ := tb_on_some ex13
      refine tb_e_cv (v := some (.int x13.1)) rfl (Or.inl ⟨_, rfl⟩) rfl rfl (Nat.le_of_ble_eq_true rfl) rfl (Nat.le_of_ble_eq_true rfl) hkx13 ((dc_h_blockOf hcall).up (by decide)) ?_
      refine tb_Es (k := 1) (st' := (31, [(0, .ref a0), (1, .int a1)], [.int x13.1], x13.2)) rfl ?_
      obtain rfl := Option.some.inj h
      subst hr
      exact tb_Er rfl rfl
/-! TannerBunting$Hands.marryAll(LTannerBunting$Street;)I -/
def fl_h_marryAll_7 : Nat → Nat → Nat → Int32 → Int32 → tb_Hp → Option (Nat × tb_Hp)
  | 0, _, _, _, _, _ => none
  | n + 1, v0, v1, v2, v3, w => (tb_gI 17 0 v1 w).bind fun x2 => (if v3 < x2 then (tb_gN 10 2 v0 w).bind fun p3 => (tb_al p3 w).bind fun x4 => (if v3 < x4 then (tb_gN 10 2 v0 w).bind fun p5 => (tb_tI p5 v3 (-1) w).bind fun w6 => (tb_on 10 v0 w6 (fb_h_firstPartner v0 v1 v3 v2 w6)).bind fun x7 => (if x7.1 = (-1) then fl_h_marryAll_7 n v0 v1 v2 (v3 + 1) x7.2 else (tb_gN 10 2 v0 x7.2).bind fun p8 => (tb_gI 17 0 v1 x7.2).bind fun x9 => (tb_tI p8 v3 (x9 + x7.1) x7.2).bind fun w10 => fl_h_marryAll_7 n v0 v1 (v2 &&& ((1 <<< (x7.1 &&& 31)) ^^^ (-1))) (v3 + 1) w10) else some ((v0, w))) else some ((v0, w)))
set_option maxHeartbeats 4000000 in
set_option maxRecDepth 20000 in
theorem dl_h_marryAll_7 : ∀ (n : Nat) (v0 : Nat) (v1 : Nat) (v2 : Int32) (v3 : Int32) (w : tb_Hp) (o : Nat × tb_Hp), fl_h_marryAll_7 n v0 v1 v2 v3 w = some o → ∀ (r : Option Value × tb_Hp), tb_Ev tb_P 5 127 (50, [(0, .ref o.1)], [], o.2) r → tb_Ev tb_P 5 127 (8, [(0, .ref v0), (1, .ref v1), (2, .int v2), (3, .int v3)], [], w) r := by
  intro n
  induction n with
  | zero =>
    intro v0 v1 v2 v3 w o h
    cases h
  | succ n ih =>
    intro v0 v1 v2 v3 w o h r hx
    unfold fl_h_marryAll_7 at h
    refine tb_Es (k := 2) (st' := (10, [(0, .ref v0), (1, .ref v1), (2, .int v2), (3, .int v3)], [.ref v1, .int v3], w)) rfl ?_
    replace h := Option.bind_eq_some_iff.mp h
    obtain ⟨x2, ex2, h⟩ := h
    refine tb_e_gI rfl ex2 ?_
    refine tb_b_cge rfl (fun hc => ?_) (fun hc => ?_)
    · rw [if_pos hc] at h
      refine tb_Es (k := 2) (st' := (14, [(0, .ref v0), (1, .ref v1), (2, .int v2), (3, .int v3)], [.ref v0, .int v3], w)) rfl ?_
      replace h := Option.bind_eq_some_iff.mp h
      obtain ⟨p3, ep3, h⟩ := h
      refine tb_e_gN rfl ep3 ?_
      replace h := Option.bind_eq_some_iff.mp h
      obtain ⟨x4, ex4, h⟩ := h
      refine tb_e_al rfl ex4 ?_
      refine tb_b_cge rfl (fun hc => ?_) (fun hc => ?_)
      · rw [if_pos hc] at h
        refine tb_Es (k := 1) (st' := (18, [(0, .ref v0), (1, .ref v1), (2, .int v2), (3, .int v3)], [.ref v0], w)) rfl ?_
        replace h := Option.bind_eq_some_iff.mp h
        obtain ⟨p5, ep5, h⟩ := h
        refine tb_e_gN rfl ep5 ?_
        refine tb_Es (k := 2) (st' := (21, [(0, .ref v0), (1, .ref v1), (2, .int v2), (3, .int v3)], [.int (-1), .int v3, .ref p5], w)) rfl ?_
        replace h := Option.bind_eq_some_iff.mp h
        obtain ⟨w6, ew6, h⟩ := h
        refine tb_e_tI rfl ew6 ?_
        refine tb_Es (k := 4) (st' := (26, [(0, .ref v0), (1, .ref v1), (2, .int v2), (3, .int v3)], [.int v2, .int v3, .ref v1, .ref v0], w6)) rfl ?_
        replace h := Option.bind_eq_some_iff.mp h
        obtain ⟨x7, ex7, h⟩ := h
        obtain ⟨hkx7, hcall⟩ := tb_on_some ex7
        refine tb_e_cv (v := some (.int x7.1)) rfl (Or.inl ⟨_, rfl⟩) rfl rfl (Nat.le_of_ble_eq_true rfl) rfl (Nat.le_of_ble_eq_true rfl) hkx7 ((dc_h_firstPartner hcall).up (by decide)) ?_
        refine tb_Es (k := 3) (st' := (30, [(4, .int x7.1), (0, .ref v0), (1, .ref v1), (2, .int v2), (3, .int v3)], [.int (-1), .int x7.1], x7.2)) rfl ?_
        refine tb_b_ceq rfl (fun hc => ?_) (fun hc => ?_)
        · rw [if_pos hc] at h
          refine tb_Es (k := 3) (st' := (8, [(0, .ref v0), (1, .ref v1), (2, .int v2), (3, .int (v3 + 1))], [], x7.2)) rfl ?_
          exact ih v0 v1 v2 (v3 + 1) x7.2 _ h r hx
        · rw [if_neg hc] at h
          refine tb_Es (k := 1) (st' := (32, [(4, .int x7.1), (0, .ref v0), (1, .ref v1), (2, .int v2), (3, .int v3)], [.ref v0], x7.2)) rfl ?_
          replace h := Option.bind_eq_some_iff.mp h
          obtain ⟨p8, ep8, h⟩ := h
          refine tb_e_gN rfl ep8 ?_
          refine tb_Es (k := 2) (st' := (35, [(4, .int x7.1), (0, .ref v0), (1, .ref v1), (2, .int v2), (3, .int v3)], [.ref v1, .int v3, .ref p8], x7.2)) rfl ?_
          replace h := Option.bind_eq_some_iff.mp h
          obtain ⟨x9, ex9, h⟩ := h
          refine tb_e_gI rfl ex9 ?_
          refine tb_Es (k := 2) (st' := (38, [(4, .int x7.1), (0, .ref v0), (1, .ref v1), (2, .int v2), (3, .int v3)], [.int (x9 + x7.1), .int v3, .ref p8], x7.2)) rfl ?_
          replace h := Option.bind_eq_some_iff.mp h
          obtain ⟨w10, ew10, h⟩ := h
          refine tb_e_tI rfl ew10 ?_
          refine tb_Es (k := 11) (st' := (8, [(0, .ref v0), (1, .ref v1), (2, .int (v2 &&& ((1 <<< (x7.1 &&& 31)) ^^^ (-1)))), (3, .int (v3 + 1))], [], w10)) rfl ?_
          exact ih v0 v1 (v2 &&& ((1 <<< (x7.1 &&& 31)) ^^^ (-1))) (v3 + 1) w10 _ h r hx
      · rw [if_neg hc] at h
        refine tb_Es (k := 1) (st' := (50, [(0, .ref v0)], [], w)) rfl ?_
        obtain rfl := Option.some.inj h
        exact hx
    · rw [if_neg hc] at h
      refine tb_Es (k := 1) (st' := (50, [(0, .ref v0)], [], w)) rfl ?_
      obtain rfl := Option.some.inj h
      exact hx
def fb_h_marryAll (a0 : Nat) (a1 : Nat) (w : tb_Hp) : Option (Int32 × tb_Hp) := (tb_on 10 a0 w (fb_h_fillPairs a0 a1 w)).bind fun x1 => (fl_h_marryAll_7 1048576 a0 a1 31 0 x1).bind fun o11 => (tb_on 10 o11.1 o11.2 (fb_h_pairsFrom o11.1 0 31 o11.2)).bind fun x12 => some (x12.1, x12.2)
set_option maxHeartbeats 4000000 in
set_option maxRecDepth 20000 in
theorem dc_h_marryAll {a0 : Nat} {a1 : Nat} {w : tb_Hp} {o : Int32 × tb_Hp} (h : fb_h_marryAll a0 a1 w = some o) : tb_Ev tb_P 5 127 (0, tb_ent [.ref a0, .ref a1], [], w) (some (.int o.1), o.2) := by
  unfold fb_h_marryAll at h
  obtain ⟨r, hr⟩ : ∃ r : Option Value × tb_Hp, r = (some (.int o.1), o.2) := ⟨_, rfl⟩
  rw [← hr]
  show tb_Ev tb_P 5 127 (0, [(0, .ref a0), (1, .ref a1)], [], w) r
  refine tb_Es (k := 2) (st' := (2, [(0, .ref a0), (1, .ref a1)], [.ref a1, .ref a0], w)) rfl ?_
  replace h := Option.bind_eq_some_iff.mp h
  obtain ⟨x1, ex1, h⟩ := h
  obtain ⟨hkx1, hcall⟩ := tb_on_some ex1
  refine tb_e_cv (v := none) rfl (Or.inl ⟨_, rfl⟩) rfl rfl (Nat.le_of_ble_eq_true rfl) rfl (Nat.le_of_ble_eq_true rfl) hkx1 ((dc_h_fillPairs hcall).up (by decide)) ?_
  refine tb_Es (k := 5) (st' := (8, [(0, .ref a0), (1, .ref a1), (2, .int 31), (3, .int 0)], [], x1)) rfl ?_
  replace h := Option.bind_eq_some_iff.mp h
  obtain ⟨o11, eo11, h⟩ := h
  refine dl_h_marryAll_7 _ a0 a1 31 0 x1 _ eo11 r ?_
  refine tb_Es (k := 3) (st' := (53, [(0, .ref o11.1)], [.int 31, .int 0, .ref o11.1], o11.2)) rfl ?_
  replace h := Option.bind_eq_some_iff.mp h
  obtain ⟨x12, ex12, h⟩ := h
  obtain ⟨hkx12, hcall⟩ := tb_on_some ex12
  refine tb_e_cv (v := some (.int x12.1)) rfl (Or.inl ⟨_, rfl⟩) rfl rfl (Nat.le_of_ble_eq_true rfl) rfl (Nat.le_of_ble_eq_true rfl) hkx12 ((dc_h_pairsFrom hcall).up (by decide)) ?_
  obtain rfl := Option.some.inj h
  subst hr
  exact tb_Er rfl rfl
/-! TannerBunting$Story.fits(LTannerBunting$Notes;[I)Z -/
def fj_so_fits_j21 (k : Nat → Nat → (Option Nat) → Int32 → Int32 → tb_Hp → Option (Int32 × tb_Hp)) (w : tb_Hp) : Option (Int32 × tb_Hp) := some ((0, w))
set_option maxHeartbeats 4000000 in
set_option maxRecDepth 20000 in
theorem dj_so_fits_j21 (k : Nat → Nat → (Option Nat) → Int32 → Int32 → tb_Hp → Option (Int32 × tb_Hp)) (w : tb_Hp) (o : Int32 × tb_Hp) (h : fj_so_fits_j21 k  w = some o) (r : Option Value × tb_Hp) (hx : r = (some (.int o.1), o.2)) (hk : ∀ (v0 : Nat) (v1 : Nat) (v2 : Option Nat) (v3 : Int32) (v4 : Int32) (w : tb_Hp), k v0 v1 v2 v3 v4 w = some o → tb_Ev tb_P 5 140 (6, [(0, .ref v0), (1, .ref v1), (2, va_rf v2), (3, .int v3), (4, .int v4)], [], w) r) : tb_Ev tb_P 5 140 (23, [], [], w) r := by
  unfold fj_so_fits_j21 at h
  refine tb_Es (k := 1) (st' := (24, [], [.int 0], w)) rfl ?_
  obtain rfl := Option.some.inj h
  replace hx : r = _ := hx
  subst hx
  exact tb_Er rfl rfl
def fj_so_fits_j25 (k : Nat → Nat → (Option Nat) → Int32 → Int32 → tb_Hp → Option (Int32 × tb_Hp)) (w : tb_Hp) : Option (Int32 × tb_Hp) := some ((1, w))
set_option maxHeartbeats 4000000 in
set_option maxRecDepth 20000 in
theorem dj_so_fits_j25 (k : Nat → Nat → (Option Nat) → Int32 → Int32 → tb_Hp → Option (Int32 × tb_Hp)) (w : tb_Hp) (o : Int32 × tb_Hp) (h : fj_so_fits_j25 k  w = some o) (r : Option Value × tb_Hp) (hx : r = (some (.int o.1), o.2)) (hk : ∀ (v0 : Nat) (v1 : Nat) (v2 : Option Nat) (v3 : Int32) (v4 : Int32) (w : tb_Hp), k v0 v1 v2 v3 v4 w = some o → tb_Ev tb_P 5 140 (6, [(0, .ref v0), (1, .ref v1), (2, va_rf v2), (3, .int v3), (4, .int v4)], [], w) r) : tb_Ev tb_P 5 140 (28, [], [], w) r := by
  unfold fj_so_fits_j25 at h
  refine tb_Es (k := 1) (st' := (29, [], [.int 1], w)) rfl ?_
  obtain rfl := Option.some.inj h
  replace hx : r = _ := hx
  subst hx
  exact tb_Er rfl rfl
def fl_so_fits_5 : Nat → Nat → Nat → (Option Nat) → Int32 → Int32 → tb_Hp → Option (Int32 × tb_Hp)
  | 0, _, _, _, _, _, _ => none
  | n + 1, v0, v1, v2, v3, v4, w => (if v4 ≤ v3 then (tb_gN 16 2 v0 w).bind fun p2 => (tb_gN 16 3 v0 w).bind fun p3 => (tb_on 11 p2 w (fb_jg_passYear p2 p3 v2 w)).bind fun x4 => (tb_gN 16 3 v0 x4.2).bind fun p5 => (tb_on 12 v1 x4.2 (fb_n_fit v1 p5 v4 x4.2)).bind fun x6 => (if x6.1 = 0 then fj_so_fits_j21 (fl_so_fits_5 n)  x6.2 else fl_so_fits_5 n v0 v1 v2 v3 (v4 + 1) x6.2) else fj_so_fits_j25 (fl_so_fits_5 n)  w)
set_option maxHeartbeats 4000000 in
set_option maxRecDepth 20000 in
theorem dl_so_fits_5 : ∀ (n : Nat) (v0 : Nat) (v1 : Nat) (v2 : Option Nat) (v3 : Int32) (v4 : Int32) (w : tb_Hp) (o : Int32 × tb_Hp), fl_so_fits_5 n v0 v1 v2 v3 v4 w = some o → ∀ (r : Option Value × tb_Hp), r = (some (.int o.1), o.2) → tb_Ev tb_P 5 140 (6, [(0, .ref v0), (1, .ref v1), (2, va_rf v2), (3, .int v3), (4, .int v4)], [], w) r := by
  intro n
  induction n with
  | zero =>
    intro v0 v1 v2 v3 v4 w o h
    cases h
  | succ n ih =>
    intro v0 v1 v2 v3 v4 w o h r hx
    unfold fl_so_fits_5 at h
    refine tb_Es (k := 2) (st' := (8, [(0, .ref v0), (1, .ref v1), (2, va_rf v2), (3, .int v3), (4, .int v4)], [.int v3, .int v4], w)) rfl ?_
    refine tb_b_cgt rfl (fun hc => ?_) (fun hc => ?_)
    · rw [if_pos hc] at h
      refine tb_Es (k := 1) (st' := (10, [(0, .ref v0), (1, .ref v1), (2, va_rf v2), (3, .int v3), (4, .int v4)], [.ref v0], w)) rfl ?_
      replace h := Option.bind_eq_some_iff.mp h
      obtain ⟨p2, ep2, h⟩ := h
      refine tb_e_gN rfl ep2 ?_
      refine tb_Es (k := 1) (st' := (12, [(0, .ref v0), (1, .ref v1), (2, va_rf v2), (3, .int v3), (4, .int v4)], [.ref v0, .ref p2], w)) rfl ?_
      replace h := Option.bind_eq_some_iff.mp h
      obtain ⟨p3, ep3, h⟩ := h
      refine tb_e_gN rfl ep3 ?_
      refine tb_q_aload (k := 2) rfl (Or.inr ⟨_, rfl, rfl⟩) rfl ?_
      replace h := Option.bind_eq_some_iff.mp h
      obtain ⟨x4, ex4, h⟩ := h
      obtain ⟨hkx4, hcall⟩ := tb_on_some ex4
      refine tb_e_cv (as := [.ref p3, va_rf v2]) (v := some (.int x4.1)) rfl (Or.inl ⟨_, rfl⟩) rfl rfl (Nat.le_of_ble_eq_true rfl) rfl (by simp only [List.map_cons, List.map_nil, List.sum_cons, List.sum_nil, tb_catq, tb_cR, tb_cI, tb_cJ, tb_cT]; exact Nat.le_of_ble_eq_true rfl) hkx4 ((dc_jg_passYear hcall).up (by decide)) ?_
      refine tb_Es (k := 3) (st' := (18, [(0, .ref v0), (1, .ref v1), (2, va_rf v2), (3, .int v3), (4, .int v4)], [.ref v0, .ref v1], x4.2)) rfl ?_
      replace h := Option.bind_eq_some_iff.mp h
      obtain ⟨p5, ep5, h⟩ := h
      refine tb_e_gN rfl ep5 ?_
      refine tb_Es (k := 1) (st' := (20, [(0, .ref v0), (1, .ref v1), (2, va_rf v2), (3, .int v3), (4, .int v4)], [.int v4, .ref p5, .ref v1], x4.2)) rfl ?_
      replace h := Option.bind_eq_some_iff.mp h
      obtain ⟨x6, ex6, h⟩ := h
      obtain ⟨hkx6, hcall⟩ := tb_on_some ex6
      refine tb_e_cv (v := some (.int x6.1)) rfl (Or.inl ⟨_, rfl⟩) rfl rfl (Nat.le_of_ble_eq_true rfl) rfl (Nat.le_of_ble_eq_true rfl) hkx6 ((dc_n_fit hcall).up (by decide)) ?_
      refine tb_b_ine rfl (fun hc => ?_) (fun hc => ?_)
      · rw [if_pos hc] at h
        refine tb_Es (k := 1) (st' := (23, [], [], x6.2)) rfl ?_
        exact dj_so_fits_j21 (fl_so_fits_5 n)  x6.2 _ h r hx (fun v0_ v1_ v2_ v3_ v4_ w_ h_ => ih v0_ v1_ v2_ v3_ v4_ w_ _ h_ r hx)
      · rw [if_neg hc] at h
        refine tb_Es (k := 3) (st' := (6, [(0, .ref v0), (1, .ref v1), (2, va_rf v2), (3, .int v3), (4, .int (v4 + 1))], [], x6.2)) rfl ?_
        exact ih v0 v1 v2 v3 (v4 + 1) x6.2 _ h r hx
    · rw [if_neg hc] at h
      refine tb_Es (k := 1) (st' := (28, [], [], w)) rfl ?_
      exact dj_so_fits_j25 (fl_so_fits_5 n)  w _ h r hx (fun v0_ v1_ v2_ v3_ v4_ w_ h_ => ih v0_ v1_ v2_ v3_ v4_ w_ _ h_ r hx)
def fb_so_fits (a0 : Nat) (a1 : Nat) (a2 : Option Nat) (w : tb_Hp) : Option (Int32 × tb_Hp) := (tb_on 12 a1 w (fb_n_lastYear a1 w)).bind fun x1 => (fl_so_fits_5 1048576 a0 a1 a2 x1.1 0 x1.2).bind fun o7 => some o7
set_option maxHeartbeats 4000000 in
set_option maxRecDepth 20000 in
theorem dc_so_fits {a0 : Nat} {a1 : Nat} {a2 : Option Nat} {w : tb_Hp} {o : Int32 × tb_Hp} (h : fb_so_fits a0 a1 a2 w = some o) : tb_Ev tb_P 5 140 (0, tb_ent [.ref a0, .ref a1, va_rf a2], [], w) (some (.int o.1), o.2) := by
  unfold fb_so_fits at h
  obtain ⟨r, hr⟩ : ∃ r : Option Value × tb_Hp, r = (some (.int o.1), o.2) := ⟨_, rfl⟩
  rw [← hr]
  rw [show tb_ent [.ref a0, .ref a1, va_rf a2] = [(0, .ref a0), (1, .ref a1), (2, va_rf a2)] by simp [tb_ent, lv_args, tb_catq, tb_cR, tb_cI, tb_cJ]]
  show tb_Ev tb_P 5 140 (0, [(0, .ref a0), (1, .ref a1), (2, va_rf a2)], [], w) r
  refine tb_Es (k := 1) (st' := (1, [(0, .ref a0), (1, .ref a1), (2, va_rf a2)], [.ref a1], w)) rfl ?_
  replace h := Option.bind_eq_some_iff.mp h
  obtain ⟨x1, ex1, h⟩ := h
  obtain ⟨hkx1, hcall⟩ := tb_on_some ex1
  refine tb_e_cv (v := some (.int x1.1)) rfl (Or.inl ⟨_, rfl⟩) rfl rfl (Nat.le_of_ble_eq_true rfl) rfl (Nat.le_of_ble_eq_true rfl) hkx1 ((dc_n_lastYear hcall).up (by decide)) ?_
  refine tb_q_istore (k := 3) (L' := [(3, .int x1.1), (0, .ref a0), (1, .ref a1), (2, va_rf a2)]) rfl (Or.inr ⟨_, rfl, rfl⟩) (by decide) (by simp [tb_s1, tb_catq, tb_cR, tb_cI, tb_cJ]) ?_
  refine tb_Es (k := 3) (st' := (6, [(0, .ref a0), (1, .ref a1), (2, va_rf a2), (3, .int x1.1), (4, .int 0)], [], x1.2)) rfl ?_
  replace h := Option.bind_eq_some_iff.mp h
  obtain ⟨o7, eo7, h⟩ := h
  refine dl_so_fits_5 _ a0 a1 a2 x1.1 0 x1.2 _ eo7 r ?_
  obtain rfl := Option.some.inj h
  exact hr
/-! TannerBunting$Years.findRests(LTannerBunting$Street;[IIII)V -/
def fj_yr_findRests_j50 (k : Nat → Nat → (Option Nat) → Int32 → Int32 → Int32 → Int32 → Int32 → tb_Hp → Option (Nat × Nat × (Option Nat) × Int32 × Int32 × Int32 × Int32 × tb_Hp)) (v0 : Nat) (v1 : Nat) (v2 : Option Nat) (v3 : Int32) (v4 : Int32) (v5 : Int32) (v6 : Int32) (v7 : Int32) (s0 : Int32) (s1 : Int32) (s2 : Int32) (s3 : Int32) (s4 : Nat) (w : tb_Hp) : Option (Nat × Nat × (Option Nat) × Int32 × Int32 × Int32 × Int32 × tb_Hp) := (tb_on 20 s4 w (fb_yr_setGain s4 s3 s2 (s1 + s0) w)).bind fun x11 => (tb_on 20 v0 x11 (fb_yr_gainOf v0 v6 1 x11)).bind fun x12 => (tb_gN 20 0 v0 x12.2).bind fun p13 => (tb_on 17 p13 x12.2 (fb_s_stands p13 v4 x12.2)).bind fun x14 => (if x14.1 = 0 then (tb_on 20 v0 x14.2 (fb_yr_setGain v0 v6 1 (x12.1 + 0) x14.2)).bind fun x15 => k v0 v1 v2 v3 v4 v5 v6 (v7 + 1) x15 else (tb_on 20 v0 x14.2 (fb_yr_setGain v0 v6 1 (x12.1 + 1) x14.2)).bind fun x16 => k v0 v1 v2 v3 v4 v5 v6 (v7 + 1) x16)
set_option maxHeartbeats 4000000 in
set_option maxRecDepth 20000 in
theorem dj_yr_findRests_j50 (k : Nat → Nat → (Option Nat) → Int32 → Int32 → Int32 → Int32 → Int32 → tb_Hp → Option (Nat × Nat × (Option Nat) × Int32 × Int32 × Int32 × Int32 × tb_Hp)) (v0 : Nat) (v1 : Nat) (v2 : Option Nat) (v3 : Int32) (v4 : Int32) (v5 : Int32) (v6 : Int32) (v7 : Int32) (s0 : Int32) (s1 : Int32) (s2 : Int32) (s3 : Int32) (s4 : Nat) (w : tb_Hp) (o : Nat × Nat × (Option Nat) × Int32 × Int32 × Int32 × Int32 × tb_Hp) (h : fj_yr_findRests_j50 k v0 v1 v2 v3 v4 v5 v6 v7 s0 s1 s2 s3 s4 w = some o) (r : Option Value × tb_Hp) (hx : tb_Ev tb_P 5 145 (75, [(0, .ref o.1), (1, .ref o.2.1), (2, va_rf o.2.2.1), (3, .int o.2.2.2.1), (4, .int o.2.2.2.2.1), (5, .int o.2.2.2.2.2.1), (6, .int o.2.2.2.2.2.2.1)], [], o.2.2.2.2.2.2.2) r) (hk : ∀ (v0 : Nat) (v1 : Nat) (v2 : Option Nat) (v3 : Int32) (v4 : Int32) (v5 : Int32) (v6 : Int32) (v7 : Int32) (w : tb_Hp), k v0 v1 v2 v3 v4 v5 v6 v7 w = some o → tb_Ev tb_P 5 145 (27, [(0, .ref v0), (1, .ref v1), (2, va_rf v2), (3, .int v3), (4, .int v4), (5, .int v5), (6, .int v6), (7, .int v7)], [], w) r) : tb_Ev tb_P 5 145 (53, [(0, .ref v0), (1, .ref v1), (2, va_rf v2), (3, .int v3), (4, .int v4), (5, .int v5), (6, .int v6), (7, .int v7)], [.int s0, .int s1, .int s2, .int s3, .ref s4], w) r := by
  unfold fj_yr_findRests_j50 at h
  refine tb_Es (k := 1) (st' := (54, [(0, .ref v0), (1, .ref v1), (2, va_rf v2), (3, .int v3), (4, .int v4), (5, .int v5), (6, .int v6), (7, .int v7)], [.int (s1 + s0), .int s2, .int s3, .ref s4], w)) rfl ?_
  replace h := Option.bind_eq_some_iff.mp h
  obtain ⟨x11, ex11, h⟩ := h
  obtain ⟨hkx11, hcall⟩ := tb_on_some ex11
  refine tb_e_cv (v := none) rfl (Or.inl ⟨_, rfl⟩) rfl rfl (Nat.le_of_ble_eq_true rfl) rfl (Nat.le_of_ble_eq_true rfl) hkx11 ((dc_yr_setGain hcall).up (by decide)) ?_
  refine tb_Es (k := 6) (st' := (61, [(0, .ref v0), (1, .ref v1), (2, va_rf v2), (3, .int v3), (4, .int v4), (5, .int v5), (6, .int v6), (7, .int v7)], [.int 1, .int v6, .ref v0, .int 1, .int v6, .ref v0], x11)) rfl ?_
  replace h := Option.bind_eq_some_iff.mp h
  obtain ⟨x12, ex12, h⟩ := h
  obtain ⟨hkx12, hcall⟩ := tb_on_some ex12
  refine tb_e_cv (v := some (.int x12.1)) rfl (Or.inl ⟨_, rfl⟩) rfl rfl (Nat.le_of_ble_eq_true rfl) rfl (Nat.le_of_ble_eq_true rfl) hkx12 ((dc_yr_gainOf hcall).up (by decide)) ?_
  refine tb_Es (k := 1) (st' := (63, [(0, .ref v0), (1, .ref v1), (2, va_rf v2), (3, .int v3), (4, .int v4), (5, .int v5), (6, .int v6), (7, .int v7)], [.ref v0, .int x12.1, .int 1, .int v6, .ref v0], x12.2)) rfl ?_
  replace h := Option.bind_eq_some_iff.mp h
  obtain ⟨p13, ep13, h⟩ := h
  refine tb_e_gN rfl ep13 ?_
  refine tb_Es (k := 1) (st' := (65, [(0, .ref v0), (1, .ref v1), (2, va_rf v2), (3, .int v3), (4, .int v4), (5, .int v5), (6, .int v6), (7, .int v7)], [.int v4, .ref p13, .int x12.1, .int 1, .int v6, .ref v0], x12.2)) rfl ?_
  replace h := Option.bind_eq_some_iff.mp h
  obtain ⟨x14, ex14, h⟩ := h
  obtain ⟨hkx14, hcall⟩ := tb_on_some ex14
  refine tb_e_cv (v := some (.int x14.1)) rfl (Or.inl ⟨_, rfl⟩) rfl rfl (Nat.le_of_ble_eq_true rfl) rfl (Nat.le_of_ble_eq_true rfl) hkx14 ((dc_s_stands hcall).up (by decide)) ?_
  refine tb_b_ieq rfl (fun hc => ?_) (fun hc => ?_)
  · rw [if_pos hc] at h
    refine tb_Es (k := 2) (st' := (71, [(0, .ref v0), (1, .ref v1), (2, va_rf v2), (3, .int v3), (4, .int v4), (5, .int v5), (6, .int v6), (7, .int v7)], [.int (x12.1 + 0), .int 1, .int v6, .ref v0], x14.2)) rfl ?_
    replace h := Option.bind_eq_some_iff.mp h
    obtain ⟨x15, ex15, h⟩ := h
    obtain ⟨hkx15, hcall⟩ := tb_on_some ex15
    refine tb_e_cv (v := none) rfl (Or.inl ⟨_, rfl⟩) rfl rfl (Nat.le_of_ble_eq_true rfl) rfl (Nat.le_of_ble_eq_true rfl) hkx15 ((dc_yr_setGain hcall).up (by decide)) ?_
    refine tb_Es (k := 3) (st' := (27, [(0, .ref v0), (1, .ref v1), (2, va_rf v2), (3, .int v3), (4, .int v4), (5, .int v5), (6, .int v6), (7, .int (v7 + 1))], [], x15)) rfl ?_
    exact hk v0 v1 v2 v3 v4 v5 v6 (v7 + 1) x15 h
  · rw [if_neg hc] at h
    refine tb_Es (k := 3) (st' := (71, [(0, .ref v0), (1, .ref v1), (2, va_rf v2), (3, .int v3), (4, .int v4), (5, .int v5), (6, .int v6), (7, .int v7)], [.int (x12.1 + 1), .int 1, .int v6, .ref v0], x14.2)) rfl ?_
    replace h := Option.bind_eq_some_iff.mp h
    obtain ⟨x16, ex16, h⟩ := h
    obtain ⟨hkx16, hcall⟩ := tb_on_some ex16
    refine tb_e_cv (v := none) rfl (Or.inl ⟨_, rfl⟩) rfl rfl (Nat.le_of_ble_eq_true rfl) rfl (Nat.le_of_ble_eq_true rfl) hkx16 ((dc_yr_setGain hcall).up (by decide)) ?_
    refine tb_Es (k := 3) (st' := (27, [(0, .ref v0), (1, .ref v1), (2, va_rf v2), (3, .int v3), (4, .int v4), (5, .int v5), (6, .int v6), (7, .int (v7 + 1))], [], x16)) rfl ?_
    exact hk v0 v1 v2 v3 v4 v5 v6 (v7 + 1) x16 h
def fl_yr_findRests_25 : Nat → Nat → Nat → (Option Nat) → Int32 → Int32 → Int32 → Int32 → Int32 → tb_Hp → Option (Nat × Nat × (Option Nat) × Int32 × Int32 × Int32 × Int32 × tb_Hp)
  | 0, _, _, _, _, _, _, _, _, _ => none
  | n + 1, v0, v1, v2, v3, v4, v5, v6, v7, w => (if v7 < v5 then (tb_gN 20 5 v0 w).bind fun p5 => (tb_gN 20 0 v0 w).bind fun p6 => (tb_on 11 p5 w (fb_jg_passYear p5 p6 v2 w)).bind fun x7 => (tb_on 20 v0 x7.2 (fb_yr_gainOf v0 v6 0 x7.2)).bind fun x8 => (tb_gN 20 0 v0 x8.2).bind fun p9 => (tb_on 17 p9 x8.2 (fb_s_stands p9 v3 x8.2)).bind fun x10 => (if x10.1 = 0 then fj_yr_findRests_j50 (fl_yr_findRests_25 n) v0 v1 v2 v3 v4 v5 v6 v7 0 x8.1 0 v6 v0 x10.2 else fj_yr_findRests_j50 (fl_yr_findRests_25 n) v0 v1 v2 v3 v4 v5 v6 v7 1 x8.1 0 v6 v0 x10.2) else some ((v0, v1, v2, v3, v4, v5, v6, w)))
set_option maxHeartbeats 4000000 in
set_option maxRecDepth 20000 in
theorem dl_yr_findRests_25 : ∀ (n : Nat) (v0 : Nat) (v1 : Nat) (v2 : Option Nat) (v3 : Int32) (v4 : Int32) (v5 : Int32) (v6 : Int32) (v7 : Int32) (w : tb_Hp) (o : Nat × Nat × (Option Nat) × Int32 × Int32 × Int32 × Int32 × tb_Hp), fl_yr_findRests_25 n v0 v1 v2 v3 v4 v5 v6 v7 w = some o → ∀ (r : Option Value × tb_Hp), tb_Ev tb_P 5 145 (75, [(0, .ref o.1), (1, .ref o.2.1), (2, va_rf o.2.2.1), (3, .int o.2.2.2.1), (4, .int o.2.2.2.2.1), (5, .int o.2.2.2.2.2.1), (6, .int o.2.2.2.2.2.2.1)], [], o.2.2.2.2.2.2.2) r → tb_Ev tb_P 5 145 (27, [(0, .ref v0), (1, .ref v1), (2, va_rf v2), (3, .int v3), (4, .int v4), (5, .int v5), (6, .int v6), (7, .int v7)], [], w) r := by
  intro n
  induction n with
  | zero =>
    intro v0 v1 v2 v3 v4 v5 v6 v7 w o h
    cases h
  | succ n ih =>
    intro v0 v1 v2 v3 v4 v5 v6 v7 w o h r hx
    unfold fl_yr_findRests_25 at h
    refine tb_Es (k := 2) (st' := (29, [(0, .ref v0), (1, .ref v1), (2, va_rf v2), (3, .int v3), (4, .int v4), (5, .int v5), (6, .int v6), (7, .int v7)], [.int v5, .int v7], w)) rfl ?_
    refine tb_b_cge rfl (fun hc => ?_) (fun hc => ?_)
    · rw [if_pos hc] at h
      refine tb_Es (k := 1) (st' := (31, [(0, .ref v0), (1, .ref v1), (2, va_rf v2), (3, .int v3), (4, .int v4), (5, .int v5), (6, .int v6), (7, .int v7)], [.ref v0], w)) rfl ?_
      replace h := Option.bind_eq_some_iff.mp h
      obtain ⟨p5, ep5, h⟩ := h
      refine tb_e_gN rfl ep5 ?_
      refine tb_Es (k := 1) (st' := (33, [(0, .ref v0), (1, .ref v1), (2, va_rf v2), (3, .int v3), (4, .int v4), (5, .int v5), (6, .int v6), (7, .int v7)], [.ref v0, .ref p5], w)) rfl ?_
      replace h := Option.bind_eq_some_iff.mp h
      obtain ⟨p6, ep6, h⟩ := h
      refine tb_e_gN rfl ep6 ?_
      refine tb_q_aload (k := 2) rfl (Or.inr ⟨_, rfl, rfl⟩) rfl ?_
      replace h := Option.bind_eq_some_iff.mp h
      obtain ⟨x7, ex7, h⟩ := h
      obtain ⟨hkx7, hcall⟩ := tb_on_some ex7
      refine tb_e_cv (as := [.ref p6, va_rf v2]) (v := some (.int x7.1)) rfl (Or.inl ⟨_, rfl⟩) rfl rfl (Nat.le_of_ble_eq_true rfl) rfl (by simp only [List.map_cons, List.map_nil, List.sum_cons, List.sum_nil, tb_catq, tb_cR, tb_cI, tb_cJ, tb_cT]; exact Nat.le_of_ble_eq_true rfl) hkx7 ((dc_jg_passYear hcall).up (by decide)) ?_
      refine tb_Es (k := 7) (st' := (43, [(0, .ref v0), (1, .ref v1), (2, va_rf v2), (3, .int v3), (4, .int v4), (5, .int v5), (6, .int v6), (7, .int v7)], [.int 0, .int v6, .ref v0, .int 0, .int v6, .ref v0], x7.2)) rfl ?_
      replace h := Option.bind_eq_some_iff.mp h
      obtain ⟨x8, ex8, h⟩ := h
      obtain ⟨hkx8, hcall⟩ := tb_on_some ex8
      refine tb_e_cv (v := some (.int x8.1)) rfl (Or.inl ⟨_, rfl⟩) rfl rfl (Nat.le_of_ble_eq_true rfl) rfl (Nat.le_of_ble_eq_true rfl) hkx8 ((dc_yr_gainOf hcall).up (by decide)) ?_
      refine tb_Es (k := 1) (st' := (45, [(0, .ref v0), (1, .ref v1), (2, va_rf v2), (3, .int v3), (4, .int v4), (5, .int v5), (6, .int v6), (7, .int v7)], [.ref v0, .int x8.1, .int 0, .int v6, .ref v0], x8.2)) rfl ?_
      replace h := Option.bind_eq_some_iff.mp h
      obtain ⟨p9, ep9, h⟩ := h
      refine tb_e_gN rfl ep9 ?_
      refine tb_Es (k := 1) (st' := (47, [(0, .ref v0), (1, .ref v1), (2, va_rf v2), (3, .int v3), (4, .int v4), (5, .int v5), (6, .int v6), (7, .int v7)], [.int v3, .ref p9, .int x8.1, .int 0, .int v6, .ref v0], x8.2)) rfl ?_
      replace h := Option.bind_eq_some_iff.mp h
      obtain ⟨x10, ex10, h⟩ := h
      obtain ⟨hkx10, hcall⟩ := tb_on_some ex10
      refine tb_e_cv (v := some (.int x10.1)) rfl (Or.inl ⟨_, rfl⟩) rfl rfl (Nat.le_of_ble_eq_true rfl) rfl (Nat.le_of_ble_eq_true rfl) hkx10 ((dc_s_stands hcall).up (by decide)) ?_
      refine tb_b_ieq rfl (fun hc => ?_) (fun hc => ?_)
      · rw [if_pos hc] at h
        refine tb_Es (k := 2) (st' := (53, [(0, .ref v0), (1, .ref v1), (2, va_rf v2), (3, .int v3), (4, .int v4), (5, .int v5), (6, .int v6), (7, .int v7)], [.int 0, .int x8.1, .int 0, .int v6, .ref v0], x10.2)) rfl ?_
        exact dj_yr_findRests_j50 (fl_yr_findRests_25 n) v0 v1 v2 v3 v4 v5 v6 v7 0 x8.1 0 v6 v0 x10.2 _ h r hx (fun v0_ v1_ v2_ v3_ v4_ v5_ v6_ v7_ w_ h_ => ih v0_ v1_ v2_ v3_ v4_ v5_ v6_ v7_ w_ _ h_ r hx)
      · rw [if_neg hc] at h
        refine tb_Es (k := 3) (st' := (53, [(0, .ref v0), (1, .ref v1), (2, va_rf v2), (3, .int v3), (4, .int v4), (5, .int v5), (6, .int v6), (7, .int v7)], [.int 1, .int x8.1, .int 0, .int v6, .ref v0], x10.2)) rfl ?_
        exact dj_yr_findRests_j50 (fl_yr_findRests_25 n) v0 v1 v2 v3 v4 v5 v6 v7 1 x8.1 0 v6 v0 x10.2 _ h r hx (fun v0_ v1_ v2_ v3_ v4_ v5_ v6_ v7_ w_ h_ => ih v0_ v1_ v2_ v3_ v4_ v5_ v6_ v7_ w_ _ h_ r hx)
    · rw [if_neg hc] at h
      refine tb_Es (k := 1) (st' := (75, [(0, .ref v0), (1, .ref v1), (2, va_rf v2), (3, .int v3), (4, .int v4), (5, .int v5), (6, .int v6)], [], w)) rfl ?_
      obtain rfl := Option.some.inj h
      exact hx
def fl_yr_findRests_2 : Nat → Nat → Nat → (Option Nat) → Int32 → Int32 → Int32 → Int32 → tb_Hp → Option (Nat × tb_Hp)
  | 0, _, _, _, _, _, _, _, _ => none
  | n + 1, v0, v1, v2, v3, v4, v5, v6, w => (if v6 < 4 then (tb_on 20 v0 w (fb_yr_begin v0 v1 w)).bind fun x1 => (tb_on 20 v0 x1 (fb_yr_letGo v0 v6 v3 v4 x1)).bind fun x2 => (tb_on 20 v0 x2 (fb_yr_setGain v0 v6 0 0 x2)).bind fun x3 => (tb_on 20 v0 x3 (fb_yr_setGain v0 v6 1 0 x3)).bind fun x4 => (fl_yr_findRests_25 1048576 v0 v1 v2 v3 v4 v5 v6 0 x4).bind fun o17 => (tb_on 20 o17.1 o17.2.2.2.2.2.2.2 (fb_yr_gainOf o17.1 o17.2.2.2.2.2.2.1 0 o17.2.2.2.2.2.2.2)).bind fun x18 => (tb_gN 20 0 o17.1 x18.2).bind fun p19 => (tb_on 17 p19 x18.2 (fb_s_linesAt p19 o17.2.2.2.1 x18.2)).bind fun x20 => (fb_in_bitCount x20.1 x20.2).bind fun x21 => (tb_on 20 o17.1 x21.2 (fb_yr_setGain o17.1 o17.2.2.2.2.2.2.1 0 (x18.1 + x21.1) x21.2)).bind fun x22 => (tb_on 20 o17.1 x22 (fb_yr_gainOf o17.1 o17.2.2.2.2.2.2.1 1 x22)).bind fun x23 => (tb_gN 20 0 o17.1 x23.2).bind fun p24 => (tb_on 17 p24 x23.2 (fb_s_linesAt p24 o17.2.2.2.2.1 x23.2)).bind fun x25 => (fb_in_bitCount x25.1 x25.2).bind fun x26 => (tb_on 20 o17.1 x26.2 (fb_yr_setGain o17.1 o17.2.2.2.2.2.2.1 1 (x23.1 + x26.1) x26.2)).bind fun x27 => fl_yr_findRests_2 n o17.1 o17.2.1 o17.2.2.1 o17.2.2.2.1 o17.2.2.2.2.1 o17.2.2.2.2.2.1 (o17.2.2.2.2.2.2.1 + 1) x27 else some ((v0, w)))
set_option maxHeartbeats 4000000 in
set_option maxRecDepth 20000 in
theorem dl_yr_findRests_2 : ∀ (n : Nat) (v0 : Nat) (v1 : Nat) (v2 : Option Nat) (v3 : Int32) (v4 : Int32) (v5 : Int32) (v6 : Int32) (w : tb_Hp) (o : Nat × tb_Hp), fl_yr_findRests_2 n v0 v1 v2 v3 v4 v5 v6 w = some o → ∀ (r : Option Value × tb_Hp), tb_Ev tb_P 5 145 (106, [(0, .ref o.1)], [], o.2) r → tb_Ev tb_P 5 145 (3, [(0, .ref v0), (1, .ref v1), (2, va_rf v2), (3, .int v3), (4, .int v4), (5, .int v5), (6, .int v6)], [], w) r := by
  intro n
  induction n with
  | zero =>
    intro v0 v1 v2 v3 v4 v5 v6 w o h
    cases h
  | succ n ih =>
    intro v0 v1 v2 v3 v4 v5 v6 w o h r hx
    unfold fl_yr_findRests_2 at h
    refine tb_Es (k := 2) (st' := (5, [(0, .ref v0), (1, .ref v1), (2, va_rf v2), (3, .int v3), (4, .int v4), (5, .int v5), (6, .int v6)], [.int 4, .int v6], w)) rfl ?_
    refine tb_b_cge rfl (fun hc => ?_) (fun hc => ?_)
    · rw [if_pos hc] at h
      refine tb_Es (k := 2) (st' := (8, [(0, .ref v0), (1, .ref v1), (2, va_rf v2), (3, .int v3), (4, .int v4), (5, .int v5), (6, .int v6)], [.ref v1, .ref v0], w)) rfl ?_
      replace h := Option.bind_eq_some_iff.mp h
      obtain ⟨x1, ex1, h⟩ := h
      obtain ⟨hkx1, hcall⟩ := tb_on_some ex1
      refine tb_e_cv (v := none) rfl (Or.inl ⟨_, rfl⟩) rfl rfl (Nat.le_of_ble_eq_true rfl) rfl (Nat.le_of_ble_eq_true rfl) hkx1 ((dc_yr_begin hcall).up (by decide)) ?_
      refine tb_Es (k := 4) (st' := (13, [(0, .ref v0), (1, .ref v1), (2, va_rf v2), (3, .int v3), (4, .int v4), (5, .int v5), (6, .int v6)], [.int v4, .int v3, .int v6, .ref v0], x1)) rfl ?_
      replace h := Option.bind_eq_some_iff.mp h
      obtain ⟨x2, ex2, h⟩ := h
      obtain ⟨hkx2, hcall⟩ := tb_on_some ex2
      refine tb_e_cv (v := none) rfl (Or.inl ⟨_, rfl⟩) rfl rfl (Nat.le_of_ble_eq_true rfl) rfl (Nat.le_of_ble_eq_true rfl) hkx2 ((dc_yr_letGo hcall).up (by decide)) ?_
      refine tb_Es (k := 4) (st' := (18, [(0, .ref v0), (1, .ref v1), (2, va_rf v2), (3, .int v3), (4, .int v4), (5, .int v5), (6, .int v6)], [.int 0, .int 0, .int v6, .ref v0], x2)) rfl ?_
      replace h := Option.bind_eq_some_iff.mp h
      obtain ⟨x3, ex3, h⟩ := h
      obtain ⟨hkx3, hcall⟩ := tb_on_some ex3
      refine tb_e_cv (v := none) rfl (Or.inl ⟨_, rfl⟩) rfl rfl (Nat.le_of_ble_eq_true rfl) rfl (Nat.le_of_ble_eq_true rfl) hkx3 ((dc_yr_setGain hcall).up (by decide)) ?_
      refine tb_Es (k := 4) (st' := (23, [(0, .ref v0), (1, .ref v1), (2, va_rf v2), (3, .int v3), (4, .int v4), (5, .int v5), (6, .int v6)], [.int 0, .int 1, .int v6, .ref v0], x3)) rfl ?_
      replace h := Option.bind_eq_some_iff.mp h
      obtain ⟨x4, ex4, h⟩ := h
      obtain ⟨hkx4, hcall⟩ := tb_on_some ex4
      refine tb_e_cv (v := none) rfl (Or.inl ⟨_, rfl⟩) rfl rfl (Nat.le_of_ble_eq_true rfl) rfl (Nat.le_of_ble_eq_true rfl) hkx4 ((dc_yr_setGain hcall).up (by decide)) ?_
      refine tb_Es (k := 3) (st' := (27, [(0, .ref v0), (1, .ref v1), (2, va_rf v2), (3, .int v3), (4, .int v4), (5, .int v5), (6, .int v6), (7, .int 0)], [], x4)) rfl ?_
      replace h := Option.bind_eq_some_iff.mp h
      obtain ⟨o17, eo17, h⟩ := h
      refine dl_yr_findRests_25 _ v0 v1 v2 v3 v4 v5 v6 0 x4 _ eo17 r ?_
      refine tb_Es (k := 6) (st' := (81, [(0, .ref o17.1), (1, .ref o17.2.1), (2, va_rf o17.2.2.1), (3, .int o17.2.2.2.1), (4, .int o17.2.2.2.2.1), (5, .int o17.2.2.2.2.2.1), (6, .int o17.2.2.2.2.2.2.1)], [.int 0, .int o17.2.2.2.2.2.2.1, .ref o17.1, .int 0, .int o17.2.2.2.2.2.2.1, .ref o17.1], o17.2.2.2.2.2.2.2)) rfl ?_
      replace h := Option.bind_eq_some_iff.mp h
      obtain ⟨x18, ex18, h⟩ := h
      obtain ⟨hkx18, hcall⟩ := tb_on_some ex18
      refine tb_e_cv (v := some (.int x18.1)) rfl (Or.inl ⟨_, rfl⟩) rfl rfl (Nat.le_of_ble_eq_true rfl) rfl (Nat.le_of_ble_eq_true rfl) hkx18 ((dc_yr_gainOf hcall).up (by decide)) ?_
      refine tb_Es (k := 1) (st' := (83, [(0, .ref o17.1), (1, .ref o17.2.1), (2, va_rf o17.2.2.1), (3, .int o17.2.2.2.1), (4, .int o17.2.2.2.2.1), (5, .int o17.2.2.2.2.2.1), (6, .int o17.2.2.2.2.2.2.1)], [.ref o17.1, .int x18.1, .int 0, .int o17.2.2.2.2.2.2.1, .ref o17.1], x18.2)) rfl ?_
      replace h := Option.bind_eq_some_iff.mp h
      obtain ⟨p19, ep19, h⟩ := h
      refine tb_e_gN rfl ep19 ?_
      refine tb_Es (k := 1) (st' := (85, [(0, .ref o17.1), (1, .ref o17.2.1), (2, va_rf o17.2.2.1), (3, .int o17.2.2.2.1), (4, .int o17.2.2.2.2.1), (5, .int o17.2.2.2.2.2.1), (6, .int o17.2.2.2.2.2.2.1)], [.int o17.2.2.2.1, .ref p19, .int x18.1, .int 0, .int o17.2.2.2.2.2.2.1, .ref o17.1], x18.2)) rfl ?_
      replace h := Option.bind_eq_some_iff.mp h
      obtain ⟨x20, ex20, h⟩ := h
      obtain ⟨hkx20, hcall⟩ := tb_on_some ex20
      refine tb_e_cv (v := some (.int x20.1)) rfl (Or.inl ⟨_, rfl⟩) rfl rfl (Nat.le_of_ble_eq_true rfl) rfl (Nat.le_of_ble_eq_true rfl) hkx20 ((dc_s_linesAt hcall).up (by decide)) ?_
      replace h := Option.bind_eq_some_iff.mp h
      obtain ⟨x21, ex21, h⟩ := h
      have hcall := ex21
      refine tb_e_cs (v := some (.int x21.1)) rfl rfl rfl (Nat.le_of_ble_eq_true rfl) rfl (Nat.le_of_ble_eq_true rfl) ((dc_in_bitCount hcall).up (by decide)) ?_
      refine tb_Es (k := 1) (st' := (88, [(0, .ref o17.1), (1, .ref o17.2.1), (2, va_rf o17.2.2.1), (3, .int o17.2.2.2.1), (4, .int o17.2.2.2.2.1), (5, .int o17.2.2.2.2.2.1), (6, .int o17.2.2.2.2.2.2.1)], [.int (x18.1 + x21.1), .int 0, .int o17.2.2.2.2.2.2.1, .ref o17.1], x21.2)) rfl ?_
      replace h := Option.bind_eq_some_iff.mp h
      obtain ⟨x22, ex22, h⟩ := h
      obtain ⟨hkx22, hcall⟩ := tb_on_some ex22
      refine tb_e_cv (v := none) rfl (Or.inl ⟨_, rfl⟩) rfl rfl (Nat.le_of_ble_eq_true rfl) rfl (Nat.le_of_ble_eq_true rfl) hkx22 ((dc_yr_setGain hcall).up (by decide)) ?_
      refine tb_Es (k := 6) (st' := (95, [(0, .ref o17.1), (1, .ref o17.2.1), (2, va_rf o17.2.2.1), (3, .int o17.2.2.2.1), (4, .int o17.2.2.2.2.1), (5, .int o17.2.2.2.2.2.1), (6, .int o17.2.2.2.2.2.2.1)], [.int 1, .int o17.2.2.2.2.2.2.1, .ref o17.1, .int 1, .int o17.2.2.2.2.2.2.1, .ref o17.1], x22)) rfl ?_
      replace h := Option.bind_eq_some_iff.mp h
      obtain ⟨x23, ex23, h⟩ := h
      obtain ⟨hkx23, hcall⟩ := tb_on_some ex23
      refine tb_e_cv (v := some (.int x23.1)) rfl (Or.inl ⟨_, rfl⟩) rfl rfl (Nat.le_of_ble_eq_true rfl) rfl (Nat.le_of_ble_eq_true rfl) hkx23 ((dc_yr_gainOf hcall).up (by decide)) ?_
      refine tb_Es (k := 1) (st' := (97, [(0, .ref o17.1), (1, .ref o17.2.1), (2, va_rf o17.2.2.1), (3, .int o17.2.2.2.1), (4, .int o17.2.2.2.2.1), (5, .int o17.2.2.2.2.2.1), (6, .int o17.2.2.2.2.2.2.1)], [.ref o17.1, .int x23.1, .int 1, .int o17.2.2.2.2.2.2.1, .ref o17.1], x23.2)) rfl ?_
      replace h := Option.bind_eq_some_iff.mp h
      obtain ⟨p24, ep24, h⟩ := h
      refine tb_e_gN rfl ep24 ?_
      refine tb_Es (k := 1) (st' := (99, [(0, .ref o17.1), (1, .ref o17.2.1), (2, va_rf o17.2.2.1), (3, .int o17.2.2.2.1), (4, .int o17.2.2.2.2.1), (5, .int o17.2.2.2.2.2.1), (6, .int o17.2.2.2.2.2.2.1)], [.int o17.2.2.2.2.1, .ref p24, .int x23.1, .int 1, .int o17.2.2.2.2.2.2.1, .ref o17.1], x23.2)) rfl ?_
      replace h := Option.bind_eq_some_iff.mp h
      obtain ⟨x25, ex25, h⟩ := h
      obtain ⟨hkx25, hcall⟩ := tb_on_some ex25
      refine tb_e_cv (v := some (.int x25.1)) rfl (Or.inl ⟨_, rfl⟩) rfl rfl (Nat.le_of_ble_eq_true rfl) rfl (Nat.le_of_ble_eq_true rfl) hkx25 ((dc_s_linesAt hcall).up (by decide)) ?_
      replace h := Option.bind_eq_some_iff.mp h
      obtain ⟨x26, ex26, h⟩ := h
      have hcall := ex26
      refine tb_e_cs (v := some (.int x26.1)) rfl rfl rfl (Nat.le_of_ble_eq_true rfl) rfl (Nat.le_of_ble_eq_true rfl) ((dc_in_bitCount hcall).up (by decide)) ?_
      refine tb_Es (k := 1) (st' := (102, [(0, .ref o17.1), (1, .ref o17.2.1), (2, va_rf o17.2.2.1), (3, .int o17.2.2.2.1), (4, .int o17.2.2.2.2.1), (5, .int o17.2.2.2.2.2.1), (6, .int o17.2.2.2.2.2.2.1)], [.int (x23.1 + x26.1), .int 1, .int o17.2.2.2.2.2.2.1, .ref o17.1], x26.2)) rfl ?_
      replace h := Option.bind_eq_some_iff.mp h
      obtain ⟨x27, ex27, h⟩ := h
      obtain ⟨hkx27, hcall⟩ := tb_on_some ex27
      refine tb_e_cv (v := none) rfl (Or.inl ⟨_, rfl⟩) rfl rfl (Nat.le_of_ble_eq_true rfl) rfl (Nat.le_of_ble_eq_true rfl) hkx27 ((dc_yr_setGain hcall).up (by decide)) ?_
      refine tb_Es (k := 3) (st' := (3, [(0, .ref o17.1), (1, .ref o17.2.1), (2, va_rf o17.2.2.1), (3, .int o17.2.2.2.1), (4, .int o17.2.2.2.2.1), (5, .int o17.2.2.2.2.2.1), (6, .int (o17.2.2.2.2.2.2.1 + 1))], [], x27)) rfl ?_
      exact ih o17.1 o17.2.1 o17.2.2.1 o17.2.2.2.1 o17.2.2.2.2.1 o17.2.2.2.2.2.1 (o17.2.2.2.2.2.2.1 + 1) x27 _ h r hx
    · rw [if_neg hc] at h
      refine tb_Es (k := 1) (st' := (106, [(0, .ref v0)], [], w)) rfl ?_
      obtain rfl := Option.some.inj h
      exact hx
def fj_yr_findRests_j150 (k : Nat → Int32 → tb_Hp → Option (tb_Hp)) (v0 : Nat) (v6 : Int32) (w : tb_Hp) : Option (tb_Hp) := (tb_gI 20 2 v0 w).bind fun x39 => (tb_pI 20 2 v0 (x39 + 1) w).bind fun w40 => k v0 (v6 + 1) w40
set_option maxHeartbeats 4000000 in
set_option maxRecDepth 20000 in
theorem dj_yr_findRests_j150 (k : Nat → Int32 → tb_Hp → Option (tb_Hp)) (v0 : Nat) (v6 : Int32) (w : tb_Hp) (o : tb_Hp) (h : fj_yr_findRests_j150 k v0 v6 w = some o) (r : Option Value × tb_Hp) (hx : tb_Ev tb_P 5 145 (166, [], [], o) r) (hk : ∀ (v0 : Nat) (v6 : Int32) (w : tb_Hp), k v0 v6 w = some o → tb_Ev tb_P 5 145 (118, [(0, .ref v0), (6, .int v6)], [], w) r) : tb_Ev tb_P 5 145 (157, [(0, .ref v0), (6, .int v6)], [], w) r := by
  unfold fj_yr_findRests_j150 at h
  refine tb_Es (k := 2) (st' := (159, [(0, .ref v0), (6, .int v6)], [.ref v0, .ref v0], w)) rfl ?_
  replace h := Option.bind_eq_some_iff.mp h
  obtain ⟨x39, ex39, h⟩ := h
  refine tb_e_gI rfl ex39 ?_
  refine tb_Es (k := 2) (st' := (162, [(0, .ref v0), (6, .int v6)], [.int (x39 + 1), .ref v0], w)) rfl ?_
  replace h := Option.bind_eq_some_iff.mp h
  obtain ⟨w40, ew40, h⟩ := h
  refine tb_e_pI rfl ew40 ?_
  refine tb_Es (k := 3) (st' := (118, [(0, .ref v0), (6, .int (v6 + 1))], [], w40)) rfl ?_
  exact hk v0 (v6 + 1) w40 h
def fl_yr_findRests_112 : Nat → Nat → Int32 → tb_Hp → Option (tb_Hp)
  | 0, _, _, _ => none
  | n + 1, v0, v6, w => (if v6 < 4 then (tb_on 20 v0 w (fb_yr_gainOf v0 (v6 ^^^ 2) 0 w)).bind fun x32 => (tb_on 20 v0 x32.2 (fb_yr_gainOf v0 v6 0 x32.2)).bind fun x33 => (if x32.1 ≤ x33.1 then (tb_on 20 v0 x33.2 (fb_yr_gainOf v0 (v6 ^^^ 1) 1 x33.2)).bind fun x34 => (tb_on 20 v0 x34.2 (fb_yr_gainOf v0 v6 1 x34.2)).bind fun x35 => (if x34.1 ≤ x35.1 then (tb_gI 20 2 v0 x35.2).bind fun x36 => (if x36 = 0 then (tb_pI 20 3 v0 (v6 >>> (1 &&& 31)) x35.2).bind fun w37 => (tb_pI 20 4 v0 (v6 &&& 1) w37).bind fun w38 => fj_yr_findRests_j150 (fl_yr_findRests_112 n) v0 v6 w38 else fj_yr_findRests_j150 (fl_yr_findRests_112 n) v0 v6 x35.2) else fl_yr_findRests_112 n v0 (v6 + 1) x35.2) else fl_yr_findRests_112 n v0 (v6 + 1) x33.2) else some (w))
set_option maxHeartbeats 4000000 in
set_option maxRecDepth 20000 in
theorem dl_yr_findRests_112 : ∀ (n : Nat) (v0 : Nat) (v6 : Int32) (w : tb_Hp) (o : tb_Hp), fl_yr_findRests_112 n v0 v6 w = some o → ∀ (r : Option Value × tb_Hp), tb_Ev tb_P 5 145 (166, [], [], o) r → tb_Ev tb_P 5 145 (118, [(0, .ref v0), (6, .int v6)], [], w) r := by
  intro n
  induction n with
  | zero =>
    intro v0 v6 w o h
    cases h
  | succ n ih =>
    intro v0 v6 w o h r hx
    unfold fl_yr_findRests_112 at h
    refine tb_Es (k := 2) (st' := (120, [(0, .ref v0), (6, .int v6)], [.int 4, .int v6], w)) rfl ?_
    refine tb_b_cge rfl (fun hc => ?_) (fun hc => ?_)
    · rw [if_pos hc] at h
      refine tb_Es (k := 5) (st' := (126, [(0, .ref v0), (6, .int v6)], [.int 0, .int (v6 ^^^ 2), .ref v0], w)) rfl ?_
      replace h := Option.bind_eq_some_iff.mp h
      obtain ⟨x32, ex32, h⟩ := h
      obtain ⟨hkx32, hcall⟩ := tb_on_some ex32
      refine tb_e_cv (v := some (.int x32.1)) rfl (Or.inl ⟨_, rfl⟩) rfl rfl (Nat.le_of_ble_eq_true rfl) rfl (Nat.le_of_ble_eq_true rfl) hkx32 ((dc_yr_gainOf hcall).up (by decide)) ?_
      refine tb_Es (k := 3) (st' := (130, [(0, .ref v0), (6, .int v6)], [.int 0, .int v6, .ref v0, .int x32.1], x32.2)) rfl ?_
      replace h := Option.bind_eq_some_iff.mp h
      obtain ⟨x33, ex33, h⟩ := h
      obtain ⟨hkx33, hcall⟩ := tb_on_some ex33
      refine tb_e_cv (v := some (.int x33.1)) rfl (Or.inl ⟨_, rfl⟩) rfl rfl (Nat.le_of_ble_eq_true rfl) rfl (Nat.le_of_ble_eq_true rfl) hkx33 ((dc_yr_gainOf hcall).up (by decide)) ?_
      refine tb_b_cgt rfl (fun hc => ?_) (fun hc => ?_)
      · rw [if_pos hc] at h
        refine tb_Es (k := 5) (st' := (137, [(0, .ref v0), (6, .int v6)], [.int 1, .int (v6 ^^^ 1), .ref v0], x33.2)) rfl ?_
        replace h := Option.bind_eq_some_iff.mp h
        obtain ⟨x34, ex34, h⟩ := h
        obtain ⟨hkx34, hcall⟩ := tb_on_some ex34
        refine tb_e_cv (v := some (.int x34.1)) rfl (Or.inl ⟨_, rfl⟩) rfl rfl (Nat.le_of_ble_eq_true rfl) rfl (Nat.le_of_ble_eq_true rfl) hkx34 ((dc_yr_gainOf hcall).up (by decide)) ?_
        refine tb_Es (k := 3) (st' := (141, [(0, .ref v0), (6, .int v6)], [.int 1, .int v6, .ref v0, .int x34.1], x34.2)) rfl ?_
        replace h := Option.bind_eq_some_iff.mp h
        obtain ⟨x35, ex35, h⟩ := h
        obtain ⟨hkx35, hcall⟩ := tb_on_some ex35
        refine tb_e_cv (v := some (.int x35.1)) rfl (Or.inl ⟨_, rfl⟩) rfl rfl (Nat.le_of_ble_eq_true rfl) rfl (Nat.le_of_ble_eq_true rfl) hkx35 ((dc_yr_gainOf hcall).up (by decide)) ?_
        refine tb_b_cgt rfl (fun hc => ?_) (fun hc => ?_)
        · rw [if_pos hc] at h
          refine tb_Es (k := 1) (st' := (144, [(0, .ref v0), (6, .int v6)], [.ref v0], x35.2)) rfl ?_
          replace h := Option.bind_eq_some_iff.mp h
          obtain ⟨x36, ex36, h⟩ := h
          refine tb_e_gI rfl ex36 ?_
          refine tb_b_ine rfl (fun hc => ?_) (fun hc => ?_)
          · rw [if_pos hc] at h
            refine tb_Es (k := 4) (st' := (150, [(0, .ref v0), (6, .int v6)], [.int (v6 >>> (1 &&& 31)), .ref v0], x35.2)) rfl ?_
            replace h := Option.bind_eq_some_iff.mp h
            obtain ⟨w37, ew37, h⟩ := h
            refine tb_e_pI rfl ew37 ?_
            refine tb_Es (k := 4) (st' := (155, [(0, .ref v0), (6, .int v6)], [.int (v6 &&& 1), .ref v0], w37)) rfl ?_
            replace h := Option.bind_eq_some_iff.mp h
            obtain ⟨w38, ew38, h⟩ := h
            refine tb_e_pI rfl ew38 ?_
            refine tb_Es (k := 1) (st' := (157, [(0, .ref v0), (6, .int v6)], [], w38)) rfl ?_
            exact dj_yr_findRests_j150 (fl_yr_findRests_112 n) v0 v6 w38 _ h r hx (fun v0_ v6_ w_ h_ => ih v0_ v6_ w_ _ h_ r hx)
          · rw [if_neg hc] at h
            refine tb_Es (k := 1) (st' := (157, [(0, .ref v0), (6, .int v6)], [], x35.2)) rfl ?_
            exact dj_yr_findRests_j150 (fl_yr_findRests_112 n) v0 v6 x35.2 _ h r hx (fun v0_ v6_ w_ h_ => ih v0_ v6_ w_ _ h_ r hx)
        · rw [if_neg hc] at h
          refine tb_Es (k := 3) (st' := (118, [(0, .ref v0), (6, .int (v6 + 1))], [], x35.2)) rfl ?_
          exact ih v0 (v6 + 1) x35.2 _ h r hx
      · rw [if_neg hc] at h
        refine tb_Es (k := 3) (st' := (118, [(0, .ref v0), (6, .int (v6 + 1))], [], x33.2)) rfl ?_
        exact ih v0 (v6 + 1) x33.2 _ h r hx
    · rw [if_neg hc] at h
      refine tb_Es (k := 1) (st' := (166, [], [], w)) rfl ?_
      obtain rfl := Option.some.inj h
      exact hx
def fb_yr_findRests (a0 : Nat) (a1 : Nat) (a2 : Option Nat) (a3 : Int32) (a4 : Int32) (a5 : Int32) (w : tb_Hp) : Option (tb_Hp) := (fl_yr_findRests_2 1048576 a0 a1 a2 a3 a4 a5 0 w).bind fun o28 => (tb_pI 20 2 o28.1 0 o28.2).bind fun w29 => (tb_pI 20 3 o28.1 (-2) w29).bind fun w30 => (tb_pI 20 4 o28.1 (-2) w30).bind fun w31 => (fl_yr_findRests_112 1048576 o28.1 0 w31).bind fun o41 => some o41
set_option maxHeartbeats 4000000 in
set_option maxRecDepth 20000 in
theorem dc_yr_findRests {a0 : Nat} {a1 : Nat} {a2 : Option Nat} {a3 : Int32} {a4 : Int32} {a5 : Int32} {w : tb_Hp} {o : tb_Hp} (h : fb_yr_findRests a0 a1 a2 a3 a4 a5 w = some o) : tb_Ev tb_P 5 145 (0, tb_ent [.ref a0, .ref a1, va_rf a2, .int a3, .int a4, .int a5], [], w) (none, o) := by
  unfold fb_yr_findRests at h
  obtain ⟨r, hr⟩ : ∃ r : Option Value × tb_Hp, r = (none, o) := ⟨_, rfl⟩
  rw [← hr]
  rw [show tb_ent [.ref a0, .ref a1, va_rf a2, .int a3, .int a4, .int a5] = [(0, .ref a0), (1, .ref a1), (2, va_rf a2), (3, .int a3), (4, .int a4), (5, .int a5)] by simp [tb_ent, lv_args, tb_catq, tb_cR, tb_cI, tb_cJ]]
  show tb_Ev tb_P 5 145 (0, [(0, .ref a0), (1, .ref a1), (2, va_rf a2), (3, .int a3), (4, .int a4), (5, .int a5)], [], w) r
  refine tb_Es (k := 3) (st' := (3, [(0, .ref a0), (1, .ref a1), (2, va_rf a2), (3, .int a3), (4, .int a4), (5, .int a5), (6, .int 0)], [], w)) rfl ?_
  replace h := Option.bind_eq_some_iff.mp h
  obtain ⟨o28, eo28, h⟩ := h
  refine dl_yr_findRests_2 _ a0 a1 a2 a3 a4 a5 0 w _ eo28 r ?_
  refine tb_Es (k := 2) (st' := (108, [(0, .ref o28.1)], [.int 0, .ref o28.1], o28.2)) rfl ?_
  replace h := Option.bind_eq_some_iff.mp h
  obtain ⟨w29, ew29, h⟩ := h
  refine tb_e_pI rfl ew29 ?_
  refine tb_Es (k := 2) (st' := (111, [(0, .ref o28.1)], [.int (-2), .ref o28.1], w29)) rfl ?_
  replace h := Option.bind_eq_some_iff.mp h
  obtain ⟨w30, ew30, h⟩ := h
  refine tb_e_pI rfl ew30 ?_
  refine tb_Es (k := 2) (st' := (114, [(0, .ref o28.1)], [.int (-2), .ref o28.1], w30)) rfl ?_
  replace h := Option.bind_eq_some_iff.mp h
  obtain ⟨w31, ew31, h⟩ := h
  refine tb_e_pI rfl ew31 ?_
  refine tb_Es (k := 3) (st' := (118, [(0, .ref o28.1), (6, .int 0)], [], w31)) rfl ?_
  replace h := Option.bind_eq_some_iff.mp h
  obtain ⟨o41, eo41, h⟩ := h
  refine dl_yr_findRests_112 _ o28.1 0 w31 _ eo41 r ?_
  obtain rfl := Option.some.inj h
  subst hr
  exact tb_Er rfl rfl
