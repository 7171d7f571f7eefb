/-! TannerBuntingModel.fact()Z -/
def fj_m_fact_j42 (k : Nat → Int32 → tb_Hp → Option (Int32 × tb_Hp)) (v0 : Nat) (w : tb_Hp) : Option (Int32 × tb_Hp) := (tb_on 22 v0 w (fb_m_compare v0 w)).bind fun x1 => (tb_z x1.1 x1.2).bind fun z2 => some (z2)
set_option maxHeartbeats 4000000 in
set_option maxRecDepth 20000 in
theorem dj_m_fact_j42 (k : Nat → Int32 → tb_Hp → Option (Int32 × tb_Hp)) (v0 : Nat) (w : tb_Hp) (o : Int32 × tb_Hp) (h : fj_m_fact_j42 k v0 w = some o) (r : Option Value × tb_Hp) (hx : r = (some (.int o.1), o.2)) (hk : ∀ (v0 : Nat) (v1 : Int32) (w : tb_Hp), k v0 v1 w = some o → tb_Ev tb_P 7 200 (3, [(0, .ref v0), (1, .int v1)], [], w) r) : tb_Ev tb_P 7 200 (46, [(0, .ref v0)], [], w) r := by
  unfold fj_m_fact_j42 at h
  refine tb_Es (k := 1) (st' := (47, [(0, .ref v0)], [.ref v0], w)) rfl ?_
  replace h := Option.bind_eq_some_iff.mp h
  obtain ⟨x1, ex1, h⟩ := h
  obtain ⟨hkx1, hcall⟩ := tb_on_some ex1
  refine tb_e_cv (v := some (.int x1.1)) rfl (Or.inl ⟨_, rfl⟩) rfl rfl (Nat.le_of_ble_eq_true rfl) rfl (Nat.le_of_ble_eq_true rfl) hkx1 ((dc_m_compare hcall).up (by decide)) ?_
  replace h := Option.bind_eq_some_iff.mp h
  obtain ⟨z2, ez2, h⟩ := h
  obtain rfl := Option.some.inj h
  replace hx : r = _ := hx
  subst hx
  exact tb_r_z rfl ez2
def fj_m_fact_j31 (k : Nat → Int32 → tb_Hp → Option (Int32 × tb_Hp)) (w : tb_Hp) : Option (Int32 × tb_Hp) := some ((0, w))
set_option maxHeartbeats 4000000 in
set_option maxRecDepth 20000 in
theorem dj_m_fact_j31 (k : Nat → Int32 → tb_Hp → Option (Int32 × tb_Hp)) (w : tb_Hp) (o : Int32 × tb_Hp) (h : fj_m_fact_j31 k  w = some o) (r : Option Value × tb_Hp) (hx : r = (some (.int o.1), o.2)) (hk : ∀ (v0 : Nat) (v1 : Int32) (w : tb_Hp), k v0 v1 w = some o → tb_Ev tb_P 7 200 (3, [(0, .ref v0), (1, .int v1)], [], w) r) : tb_Ev tb_P 7 200 (34, [], [], w) r := by
  unfold fj_m_fact_j31 at h
  refine tb_Es (k := 1) (st' := (35, [], [.int 0], w)) rfl ?_
  obtain rfl := Option.some.inj h
  replace hx : r = _ := hx
  subst hx
  exact tb_Er rfl rfl
def fj_m_fact_j17 (k : Nat → Int32 → tb_Hp → Option (Int32 × tb_Hp)) (w : tb_Hp) : Option (Int32 × tb_Hp) := some ((0, w))
set_option maxHeartbeats 4000000 in
set_option maxRecDepth 20000 in
theorem dj_m_fact_j17 (k : Nat → Int32 → tb_Hp → Option (Int32 × tb_Hp)) (w : tb_Hp) (o : Int32 × tb_Hp) (h : fj_m_fact_j17 k  w = some o) (r : Option Value × tb_Hp) (hx : r = (some (.int o.1), o.2)) (hk : ∀ (v0 : Nat) (v1 : Int32) (w : tb_Hp), k v0 v1 w = some o → tb_Ev tb_P 7 200 (3, [(0, .ref v0), (1, .int v1)], [], w) r) : tb_Ev tb_P 7 200 (19, [], [], w) r := by
  unfold fj_m_fact_j17 at h
  refine tb_Es (k := 1) (st' := (20, [], [.int 0], w)) rfl ?_
  obtain rfl := Option.some.inj h
  replace hx : r = _ := hx
  subst hx
  exact tb_Er rfl rfl
def fl_m_fact_2 : Nat → Nat → Int32 → tb_Hp → Option (Int32 × tb_Hp)
  | 0, _, _, _ => none
  | n + 1, v0, v1, w => (if v1 = 0 then fj_m_fact_j42 (fl_m_fact_2 n) v0 w else (tb_on 22 v0 w (fb_m_see v0 w)).bind fun x3 => (tb_on 22 v0 x3.2 (fb_m_isWord v0 7237492 x3.2)).bind fun x4 => (if x4.1 = 0 then (if x3.1 = 91 then (tb_on 22 v0 x4.2 (fb_m_opens v0 91 x4.2)).bind fun x5 => (if x5.1 = 0 then fj_m_fact_j31 (fl_m_fact_2 n)  x5.2 else (tb_gI 22 8 v0 x5.2).bind fun x6 => (tb_pI 22 8 v0 (x6 + 1) x5.2).bind fun w7 => fl_m_fact_2 n v0 1 w7) else fl_m_fact_2 n v0 0 x4.2) else (tb_on 22 v0 x4.2 (fb_m_opens v0 11 x4.2)).bind fun x8 => (if x8.1 = 0 then fj_m_fact_j17 (fl_m_fact_2 n)  x8.2 else (tb_on 22 v0 x8.2 (fb_m_passWord v0 x8.2)).bind fun x9 => fl_m_fact_2 n v0 1 x9)))
set_option maxHeartbeats 4000000 in
set_option maxRecDepth 20000 in
theorem dl_m_fact_2 : ∀ (n : Nat) (v0 : Nat) (v1 : Int32) (w : tb_Hp) (o : Int32 × tb_Hp), fl_m_fact_2 n v0 v1 w = some o → ∀ (r : Option Value × tb_Hp), r = (some (.int o.1), o.2) → tb_Ev tb_P 7 200 (3, [(0, .ref v0), (1, .int v1)], [], w) r := by
  intro n
  induction n with
  | zero =>
    intro v0 v1 w o h
    cases h
  | succ n ih =>
    intro v0 v1 w o h r hx
    unfold fl_m_fact_2 at h
    refine tb_Es (k := 1) (st' := (4, [(0, .ref v0), (1, .int v1)], [.int v1], w)) rfl ?_
    refine tb_b_ieq rfl (fun hc => ?_) (fun hc => ?_)
    · rw [if_pos hc] at h
      refine tb_Es (k := 1) (st' := (46, [(0, .ref v0)], [], w)) rfl ?_
      exact dj_m_fact_j42 (fl_m_fact_2 n) v0 w _ h r hx (fun v0_ v1_ w_ h_ => ih v0_ v1_ w_ _ h_ r hx)
    · rw [if_neg hc] at h
      refine tb_Es (k := 3) (st' := (8, [(1, .int 0), (0, .ref v0)], [.ref v0], w)) rfl ?_
      replace h := Option.bind_eq_some_iff.mp h
      obtain ⟨x3, ex3, h⟩ := h
      obtain ⟨hkx3, hcall⟩ := tb_on_some ex3
      refine tb_e_cv (v := some (.int x3.1)) rfl (Or.inl ⟨_, rfl⟩) rfl rfl (Nat.le_of_ble_eq_true rfl) rfl (Nat.le_of_ble_eq_true rfl) hkx3 ((dc_m_see hcall).up (by decide)) ?_
      refine tb_Es (k := 3) (st' := (12, [(2, .int x3.1), (1, .int 0), (0, .ref v0)], [.long 7237492, .ref v0], x3.2)) rfl ?_
      replace h := Option.bind_eq_some_iff.mp h
      obtain ⟨x4, ex4, h⟩ := h
      obtain ⟨hkx4, hcall⟩ := tb_on_some ex4
      refine tb_e_cv (v := some (.int x4.1)) rfl (Or.inl ⟨_, rfl⟩) rfl rfl (Nat.le_of_ble_eq_true rfl) rfl (Nat.le_of_ble_eq_true rfl) hkx4 ((dc_m_isWord hcall).up (by decide)) ?_
      refine tb_b_ieq rfl (fun hc => ?_) (fun hc => ?_)
      · rw [if_pos hc] at h
        refine tb_Es (k := 2) (st' := (28, [(2, .int x3.1), (1, .int 0), (0, .ref v0)], [.int 91, .int x3.1], x4.2)) rfl ?_
        refine tb_b_cne rfl (fun hc => ?_) (fun hc => ?_)
        · rw [if_pos hc] at h
          refine tb_Es (k := 2) (st' := (31, [(2, .int x3.1), (1, .int 0), (0, .ref v0)], [.int 91, .ref v0], x4.2)) rfl ?_
          replace h := Option.bind_eq_some_iff.mp h
          obtain ⟨x5, ex5, h⟩ := h
          obtain ⟨hkx5, hcall⟩ := tb_on_some ex5
          refine tb_e_cv (v := some (.int x5.1)) rfl (Or.inl ⟨_, rfl⟩) rfl rfl (Nat.le_of_ble_eq_true rfl) rfl (Nat.le_of_ble_eq_true rfl) hkx5 ((dc_m_opens hcall).up (by decide)) ?_
          refine tb_b_ine rfl (fun hc => ?_) (fun hc => ?_)
          · rw [if_pos hc] at h
            refine tb_Es (k := 1) (st' := (34, [], [], x5.2)) rfl ?_
            exact dj_m_fact_j31 (fl_m_fact_2 n)  x5.2 _ h r hx (fun v0_ v1_ w_ h_ => ih v0_ v1_ w_ _ h_ r hx)
          · rw [if_neg hc] at h
            refine tb_Es (k := 2) (st' := (38, [(2, .int x3.1), (1, .int 0), (0, .ref v0)], [.ref v0, .ref v0], x5.2)) rfl ?_
            replace h := Option.bind_eq_some_iff.mp h
            obtain ⟨x6, ex6, h⟩ := h
            refine tb_e_gI rfl ex6 ?_
            refine tb_Es (k := 2) (st' := (41, [(2, .int x3.1), (1, .int 0), (0, .ref v0)], [.int (x6 + 1), .ref v0], x5.2)) rfl ?_
            replace h := Option.bind_eq_some_iff.mp h
            obtain ⟨w7, ew7, h⟩ := h
            refine tb_e_pI rfl ew7 ?_
            refine tb_Es (k := 4) (st' := (3, [(0, .ref v0), (1, .int 1)], [], w7)) rfl ?_
            exact ih v0 1 w7 _ h r hx
        · rw [if_neg hc] at h
          refine tb_Es (k := 2) (st' := (3, [(0, .ref v0), (1, .int 0)], [], x4.2)) rfl ?_
          exact ih v0 0 x4.2 _ h r hx
      · rw [if_neg hc] at h
        refine tb_Es (k := 2) (st' := (16, [(2, .int x3.1), (1, .int 0), (0, .ref v0)], [.int 11, .ref v0], x4.2)) rfl ?_
        replace h := Option.bind_eq_some_iff.mp h
        obtain ⟨x8, ex8, h⟩ := h
        obtain ⟨hkx8, hcall⟩ := tb_on_some ex8
        refine tb_e_cv (v := some (.int x8.1)) rfl (Or.inl ⟨_, rfl⟩) rfl rfl (Nat.le_of_ble_eq_true rfl) rfl (Nat.le_of_ble_eq_true rfl) hkx8 ((dc_m_opens hcall).up (by decide)) ?_
        refine tb_b_ine rfl (fun hc => ?_) (fun hc => ?_)
        · rw [if_pos hc] at h
          refine tb_Es (k := 1) (st' := (19, [], [], x8.2)) rfl ?_
          exact dj_m_fact_j17 (fl_m_fact_2 n)  x8.2 _ h r hx (fun v0_ v1_ w_ h_ => ih v0_ v1_ w_ _ h_ r hx)
        · rw [if_neg hc] at h
          refine tb_Es (k := 1) (st' := (22, [(2, .int x3.1), (1, .int 0), (0, .ref v0)], [.ref v0], x8.2)) rfl ?_
          replace h := Option.bind_eq_some_iff.mp h
          obtain ⟨x9, ex9, h⟩ := h
          obtain ⟨hkx9, hcall⟩ := tb_on_some ex9
          refine tb_e_cv (v := none) rfl (Or.inl ⟨_, rfl⟩) rfl rfl (Nat.le_of_ble_eq_true rfl) rfl (Nat.le_of_ble_eq_true rfl) hkx9 ((dc_m_passWord hcall).up (by decide)) ?_
          refine tb_Es (k := 5) (st' := (3, [(0, .ref v0), (1, .int 1)], [], x9)) rfl ?_
          exact ih v0 1 x9 _ h r hx
def fb_m_fact (a0 : Nat) (w : tb_Hp) : Option (Int32 × tb_Hp) := (fl_m_fact_2 1048576 a0 1 w).bind fun o10 => some o10
set_option maxHeartbeats 4000000 in
set_option maxRecDepth 20000 in
theorem dc_m_fact {a0 : Nat} {w : tb_Hp} {o : Int32 × tb_Hp} (h : fb_m_fact a0 w = some o) : tb_Ev tb_P 7 200 (0, tb_ent [.ref a0], [], w) (some (.int o.1), o.2) := by
  unfold fb_m_fact at h
  obtain ⟨r, hr⟩ : ∃ r : Option Value × tb_Hp, r = (some (.int o.1), o.2) := ⟨_, rfl⟩
  rw [← hr]
  show tb_Ev tb_P 7 200 (0, [(0, .ref a0)], [], w) r
  refine tb_Es (k := 3) (st' := (3, [(0, .ref a0), (1, .int 1)], [], w)) rfl ?_
  replace h := Option.bind_eq_some_iff.mp h
  obtain ⟨o10, eo10, h⟩ := h
  refine dl_m_fact_2 _ a0 1 w _ eo10 r ?_
  obtain rfl := Option.some.inj h
  exact hr
/-! TannerBuntingModel.year()I -/
def fb_m_year (a0 : Nat) (w : tb_Hp) : Option (Int32 × tb_Hp) := (tb_on 22 a0 w (fb_m_isStreet a0 w)).bind fun x1 => (if x1.1 = 0 then some (-1, x1.2) else (tb_gN 22 20 a0 x1.2).bind fun p2 => (tb_lI [1, 9] p2 10 x1.2).bind fun x3 => (if x3 = 999 then some (-1, x1.2) else (tb_on 22 a0 x1.2 (fb_m_keepsAct a0 x1.2)).bind fun x4 => (tb_on 22 a0 x4 (fb_m_passes a0 x4)).bind fun x5 => some (x5.1, x5.2)))
set_option maxHeartbeats 4000000 in
set_option maxRecDepth 20000 in
theorem dc_m_year {a0 : Nat} {w : tb_Hp} {o : Int32 × tb_Hp} (h : fb_m_year a0 w = some o) : tb_Ev tb_P 7 223 (0, tb_ent [.ref a0], [], w) (some (.int o.1), o.2) := by
  unfold fb_m_year at h
  obtain ⟨r, hr⟩ : ∃ r : Option Value × tb_Hp, r = (some (.int o.1), o.2) := ⟨_, rfl⟩
  rw [← hr]
  show tb_Ev tb_P 7 223 (0, [(0, .ref a0)], [], w) r
  refine tb_Es (k := 1) (st' := (1, [(0, .ref a0)], [.ref a0], w)) rfl ?_
  replace h := Option.bind_eq_some_iff.mp h
  obtain ⟨x1, ex1, h⟩ := h
  obtain ⟨hkx1, hcall⟩ := tb_on_some ex1
  refine tb_e_cv (v := some (.int x1.1)) rfl (Or.inl ⟨_, rfl⟩) rfl rfl (Nat.le_of_ble_eq_true rfl) rfl (Nat.le_of_ble_eq_true rfl) hkx1 ((dc_m_isStreet hcall).up (by decide)) ?_
  refine tb_b_ieq rfl (fun hc => ?_) (fun hc => ?_)
  · rw [if_pos hc] at h
    refine tb_Es (k := 1) (st' := (10, [(0, .ref a0)], [.int (-1)], x1.2)) rfl ?_
    obtain rfl := Option.some.inj h
    subst hr
    exact tb_Er rfl rfl
  · rw [if_neg hc] at h
    refine tb_Es (k := 1) (st' := (4, [(0, .ref a0)], [.ref a0], x1.2)) rfl ?_
    replace h := Option.bind_eq_some_iff.mp h
    obtain ⟨p2, ep2, h⟩ := h
    refine tb_e_gN rfl ep2 ?_
    refine tb_Es (k := 1) (st' := (6, [(0, .ref a0)], [.int 10, .ref p2], x1.2)) rfl ?_
    replace h := Option.bind_eq_some_iff.mp h
    obtain ⟨x3, ex3, h⟩ := h
    refine tb_e_lI rfl (Or.inl ⟨rfl, rfl⟩) ex3 ?_
    refine tb_Es (k := 1) (st' := (8, [(0, .ref a0)], [.int 999, .int x3], x1.2)) rfl ?_
    refine tb_b_cne rfl (fun hc => ?_) (fun hc => ?_)
    · rw [if_pos hc] at h
      refine tb_Es (k := 1) (st' := (10, [(0, .ref a0)], [.int (-1)], x1.2)) rfl ?_
      obtain rfl := Option.some.inj h
      subst hr
      exact tb_Er rfl rfl
    · rw [if_neg hc] at h
      refine tb_Es (k := 1) (st' := (12, [(0, .ref a0)], [.ref a0], x1.2)) rfl ?_
      replace h := Option.bind_eq_some_iff.mp h
      obtain ⟨x4, ex4, h⟩ := h
      obtain ⟨hkx4, hcall⟩ := tb_on_some ex4
      refine tb_e_cv (v := none) rfl (Or.inl ⟨_, rfl⟩) rfl rfl (Nat.le_of_ble_eq_true rfl) rfl (Nat.le_of_ble_eq_true rfl) hkx4 ((dc_m_keepsAct hcall).up (by decide)) ?_
      refine tb_Es (k := 1) (st' := (14, [(0, .ref a0)], [.ref a0], x4)) rfl ?_
      replace h := Option.bind_eq_some_iff.mp h
      obtain ⟨x5, ex5, h⟩ := h
      obtain ⟨hkx5, hcall⟩ := tb_on_some ex5
      refine tb_e_cv (v := some (.int x5.1)) rfl (Or.inl ⟨_, rfl⟩) rfl rfl (Nat.le_of_ble_eq_true rfl) rfl (Nat.le_of_ble_eq_true rfl) hkx5 ((dc_m_passes hcall).up (by decide)) ?_
      obtain rfl := Option.some.inj h
      subst hr
      exact tb_Er rfl rfl
/-! TannerBuntingModel.passesAll(I)V -/
def fl_m_passesAll_2 : Nat → Nat → Int32 → Int32 → tb_Hp → Option (tb_Hp)
  | 0, _, _, _, _ => none
  | n + 1, v0, v1, v2, w => (if v2 < v1 then (tb_on 22 v0 w (fb_m_passes v0 w)).bind fun x1 => fl_m_passesAll_2 n v0 v1 (v2 + 1) x1.2 else some (w))
set_option maxHeartbeats 4000000 in
set_option maxRecDepth 20000 in
theorem dl_m_passesAll_2 : ∀ (n : Nat) (v0 : Nat) (v1 : Int32) (v2 : Int32) (w : tb_Hp) (o : tb_Hp), fl_m_passesAll_2 n v0 v1 v2 w = some o → ∀ (r : Option Value × tb_Hp), tb_Ev tb_P 7 254 (12, [], [], o) r → tb_Ev tb_P 7 254 (3, [(0, .ref v0), (1, .int v1), (2, .int v2)], [], w) r := by
  intro n
  induction n with
  | zero =>
    intro v0 v1 v2 w o h
    cases h
  | succ n ih =>
    intro v0 v1 v2 w o h r hx
    unfold fl_m_passesAll_2 at h
    refine tb_Es (k := 2) (st' := (5, [(0, .ref v0), (1, .int v1), (2, .int v2)], [.int v1, .int v2], w)) rfl ?_
    refine tb_b_cge rfl (fun hc => ?_) (fun hc => ?_)
    · rw [if_pos hc] at h
      refine tb_Es (k := 1) (st' := (7, [(0, .ref v0), (1, .int v1), (2, .int v2)], [.ref v0], w)) rfl ?_
      replace h := Option.bind_eq_some_iff.mp h
      obtain ⟨x1, ex1, h⟩ := h
      obtain ⟨hkx1, hcall⟩ := tb_on_some ex1
      refine tb_e_cv (v := some (.int x1.1)) rfl (Or.inl ⟨_, rfl⟩) rfl rfl (Nat.le_of_ble_eq_true rfl) rfl (Nat.le_of_ble_eq_true rfl) hkx1 ((dc_m_passes hcall).up (by decide)) ?_
      refine tb_Es (k := 4) (st' := (3, [(0, .ref v0), (1, .int v1), (2, .int (v2 + 1))], [], x1.2)) rfl ?_
      exact ih v0 v1 (v2 + 1) x1.2 _ h r hx
    · rw [if_neg hc] at h
      refine tb_Es (k := 1) (st' := (12, [], [], w)) rfl ?_
      obtain rfl := Option.some.inj h
      exact hx
def fb_m_passesAll (a0 : Nat) (a1 : Int32) (w : tb_Hp) : Option (tb_Hp) := (fl_m_passesAll_2 1048576 a0 a1 0 w).bind fun o2 => some o2
set_option maxHeartbeats 4000000 in
set_option maxRecDepth 20000 in
theorem dc_m_passesAll {a0 : Nat} {a1 : Int32} {w : tb_Hp} {o : tb_Hp} (h : fb_m_passesAll a0 a1 w = some o) : tb_Ev tb_P 7 254 (0, tb_ent [.ref a0, .int a1], [], w) (none, o) := by
  unfold fb_m_passesAll at h
  obtain ⟨r, hr⟩ : ∃ r : Option Value × tb_Hp, r = (none, o) := ⟨_, rfl⟩
  rw [← hr]
  show tb_Ev tb_P 7 254 (0, [(0, .ref a0), (1, .int a1)], [], w) r
  refine tb_Es (k := 3) (st' := (3, [(0, .ref a0), (1, .int a1), (2, .int 0)], [], w)) rfl ?_
  replace h := Option.bind_eq_some_iff.mp h
  obtain ⟨o2, eo2, h⟩ := h
  refine dl_m_passesAll_2 _ a0 a1 0 w _ eo2 r ?_
  obtain rfl := Option.some.inj h
  subst hr
  exact tb_Er rfl rfl
/-! TannerBuntingModel.falls(I)I -/
def fl_m_falls_17 : Nat → Nat → Int32 → Int32 → Int32 → tb_Hp → Option (Nat × Int32 × tb_Hp)
  | 0, _, _, _, _, _ => none
  | n + 1, v0, v1, v2, v3, w => (if v3 < 200 then (if v2 < 0 then (tb_on 22 v0 w (fb_m_passes v0 w)).bind fun x4 => (if x4.1 = 0 then fl_m_falls_17 n v0 v1 v2 (v3 + 1) x4.2 else (if v1 = 0 then (tb_gN 22 20 v0 x4.2).bind fun p5 => (tb_lI [1, 9] p5 10 x4.2).bind fun x6 => fl_m_falls_17 n v0 v1 (x6 - 1) (v3 + 1) x4.2 else (fb_m_leastOf x4.1 x4.2).bind fun x7 => fl_m_falls_17 n v0 v1 x7.1 (v3 + 1) x7.2)) else some ((v0, v2, w))) else some ((v0, v2, w)))
set_option maxHeartbeats 4000000 in
set_option maxRecDepth 20000 in
theorem dl_m_falls_17 : ∀ (n : Nat) (v0 : Nat) (v1 : Int32) (v2 : Int32) (v3 : Int32) (w : tb_Hp) (o : Nat × Int32 × tb_Hp), fl_m_falls_17 n v0 v1 v2 v3 w = some o → ∀ (r : Option Value × tb_Hp), tb_Ev tb_P 7 257 (43, [(0, .ref o.1), (2, .int o.2.1)], [], o.2.2) r → tb_Ev tb_P 7 257 (18, [(0, .ref v0), (1, .int v1), (2, .int v2), (3, .int v3)], [], w) r := by
  intro n
  induction n with
  | zero =>
    intro v0 v1 v2 v3 w o h
    cases h
  | succ n ih =>
    intro v0 v1 v2 v3 w o h r hx
    unfold fl_m_falls_17 at h
    refine tb_Es (k := 2) (st' := (20, [(0, .ref v0), (1, .int v1), (2, .int v2), (3, .int v3)], [.int 200, .int v3], w)) rfl ?_
    refine tb_b_cge rfl (fun hc => ?_) (fun hc => ?_)
    · rw [if_pos hc] at h
      refine tb_Es (k := 1) (st' := (22, [(0, .ref v0), (1, .int v1), (2, .int v2), (3, .int v3)], [.int v2], w)) rfl ?_
      refine tb_b_ige rfl (fun hc => ?_) (fun hc => ?_)
      · rw [if_pos hc] at h
        refine tb_Es (k := 1) (st' := (24, [(0, .ref v0), (1, .int v1), (2, .int v2), (3, .int v3)], [.ref v0], w)) rfl ?_
        replace h := Option.bind_eq_some_iff.mp h
        obtain ⟨x4, ex4, h⟩ := h
        obtain ⟨hkx4, hcall⟩ := tb_on_some ex4
        refine tb_e_cv (v := some (.int x4.1)) rfl (Or.inl ⟨_, rfl⟩) rfl rfl (Nat.le_of_ble_eq_true rfl) rfl (Nat.le_of_ble_eq_true rfl) hkx4 ((dc_m_passes hcall).up (by decide)) ?_
        refine tb_Es (k := 2) (st' := (27, [(4, .int x4.1), (0, .ref v0), (1, .int v1), (2, .int v2), (3, .int v3)], [.int x4.1], x4.2)) rfl ?_
        refine tb_b_ieq rfl (fun hc => ?_) (fun hc => ?_)
        · rw [if_pos hc] at h
          refine tb_Es (k := 3) (st' := (18, [(0, .ref v0), (1, .int v1), (2, .int v2), (3, .int (v3 + 1))], [], x4.2)) rfl ?_
          exact ih v0 v1 v2 (v3 + 1) x4.2 _ h r hx
        · rw [if_neg hc] at h
          refine tb_Es (k := 1) (st' := (29, [(4, .int x4.1), (0, .ref v0), (1, .int v1), (2, .int v2), (3, .int v3)], [.int v1], x4.2)) rfl ?_
          refine tb_b_ine rfl (fun hc => ?_) (fun hc => ?_)
          · rw [if_pos hc] at h
            refine tb_Es (k := 1) (st' := (31, [(4, .int x4.1), (0, .ref v0), (1, .int v1), (2, .int v2), (3, .int v3)], [.ref v0], x4.2)) rfl ?_
            replace h := Option.bind_eq_some_iff.mp h
            obtain ⟨p5, ep5, h⟩ := h
            refine tb_e_gN rfl ep5 ?_
            refine tb_Es (k := 1) (st' := (33, [(4, .int x4.1), (0, .ref v0), (1, .int v1), (2, .int v2), (3, .int v3)], [.int 10, .ref p5], x4.2)) rfl ?_
            replace h := Option.bind_eq_some_iff.mp h
            obtain ⟨x6, ex6, h⟩ := h
            refine tb_e_lI rfl (Or.inl ⟨rfl, rfl⟩) ex6 ?_
            refine tb_Es (k := 7) (st' := (18, [(0, .ref v0), (1, .int v1), (2, .int (x6 - 1)), (3, .int (v3 + 1))], [], x4.2)) rfl ?_
            exact ih v0 v1 (x6 - 1) (v3 + 1) x4.2 _ h r hx
          · rw [if_neg hc] at h
            refine tb_Es (k := 1) (st' := (38, [(4, .int x4.1), (0, .ref v0), (1, .int v1), (2, .int v2), (3, .int v3)], [.int x4.1], x4.2)) rfl ?_
            replace h := Option.bind_eq_some_iff.mp h
            obtain ⟨x7, ex7, h⟩ := h
            have hcall := ex7
            refine tb_e_cs (v := some (.int x7.1)) rfl rfl rfl (Nat.le_of_ble_eq_true rfl) rfl (Nat.le_of_ble_eq_true rfl) ((dc_m_leastOf hcall).up (by decide)) ?_
            refine tb_Es (k := 4) (st' := (18, [(0, .ref v0), (1, .int v1), (2, .int x7.1), (3, .int (v3 + 1))], [], x7.2)) rfl ?_
            exact ih v0 v1 x7.1 (v3 + 1) x7.2 _ h r hx
      · rw [if_neg hc] at h
        refine tb_Es (k := 1) (st' := (43, [(0, .ref v0), (2, .int v2)], [], w)) rfl ?_
        obtain rfl := Option.some.inj h
        exact hx
    · rw [if_neg hc] at h
      refine tb_Es (k := 1) (st' := (43, [(0, .ref v0), (2, .int v2)], [], w)) rfl ?_
      obtain rfl := Option.some.inj h
      exact hx
def fb_m_falls (a0 : Nat) (a1 : Int32) (w : tb_Hp) : Option (Int32 × tb_Hp) := (tb_on 22 a0 w (fb_m_isStreet a0 w)).bind fun x1 => (if x1.1 = 0 then some (-1, x1.2) else (fb_m_in (Int32.toInt64 a1) 0 1 x1.2).bind fun x2 => (if x2.1 = 0 then some (-1, x2.2) else (tb_on 22 a0 x2.2 (fb_m_keeps a0 x2.2)).bind fun x3 => (fl_m_falls_17 1048576 a0 a1 (-2) 0 x3).bind fun o8 => (tb_on 22 o8.1 o8.2.2 (fb_m_laysBack o8.1 o8.2.2)).bind fun x9 => some (o8.2.1, x9)))
set_option maxHeartbeats 4000000 in
set_option maxRecDepth 20000 in
theorem dc_m_falls {a0 : Nat} {a1 : Int32} {w : tb_Hp} {o : Int32 × tb_Hp} (h : fb_m_falls a0 a1 w = some o) : tb_Ev tb_P 7 257 (0, tb_ent [.ref a0, .int a1], [], w) (some (.int o.1), o.2) := by
  unfold fb_m_falls at h
  obtain ⟨r, hr⟩ : ∃ r : Option Value × tb_Hp, r = (some (.int o.1), o.2) := ⟨_, rfl⟩
  rw [← hr]
  show tb_Ev tb_P 7 257 (0, [(0, .ref a0), (1, .int a1)], [], w) r
  refine tb_Es (k := 1) (st' := (1, [(0, .ref a0), (1, .int a1)], [.ref a0], w)) rfl ?_
  replace h := Option.bind_eq_some_iff.mp h
  obtain ⟨x1, ex1, h⟩ := h
  obtain ⟨hkx1, hcall⟩ := tb_on_some ex1
  refine tb_e_cv (v := some (.int x1.1)) rfl (Or.inl ⟨_, rfl⟩) rfl rfl (Nat.le_of_ble_eq_true rfl) rfl (Nat.le_of_ble_eq_true rfl) hkx1 ((dc_m_isStreet hcall).up (by decide)) ?_
  refine tb_b_ieq rfl (fun hc => ?_) (fun hc => ?_)
  · rw [if_pos hc] at h
    refine tb_Es (k := 1) (st' := (10, [(0, .ref a0), (1, .int a1)], [.int (-1)], x1.2)) rfl ?_
    obtain rfl := Option.some.inj h
    subst hr
    exact tb_Er rfl rfl
  · rw [if_neg hc] at h
    refine tb_Es (k := 4) (st' := (7, [(0, .ref a0), (1, .int a1)], [.long 1, .long 0, .long (Int32.toInt64 a1)], x1.2)) rfl ?_
    replace h := Option.bind_eq_some_iff.mp h
    obtain ⟨x2, ex2, h⟩ := h
    have hcall := ex2
    refine tb_e_cs (v := some (.int x2.1)) rfl rfl rfl (Nat.le_of_ble_eq_true rfl) rfl (Nat.le_of_ble_eq_true rfl) ((dc_m_in hcall).up (by decide)) ?_
    refine tb_b_ine rfl (fun hc => ?_) (fun hc => ?_)
    · rw [if_pos hc] at h
      refine tb_Es (k := 1) (st' := (10, [(0, .ref a0), (1, .int a1)], [.int (-1)], x2.2)) rfl ?_
      obtain rfl := Option.some.inj h
      subst hr
      exact tb_Er rfl rfl
    · rw [if_neg hc] at h
      refine tb_Es (k := 3) (st' := (14, [(2, .int (-2)), (0, .ref a0), (1, .int a1)], [.ref a0], x2.2)) rfl ?_
      replace h := Option.bind_eq_some_iff.mp h
      obtain ⟨x3, ex3, h⟩ := h
      obtain ⟨hkx3, hcall⟩ := tb_on_some ex3
      refine tb_e_cv (v := none) rfl (Or.inl ⟨_, rfl⟩) rfl rfl (Nat.le_of_ble_eq_true rfl) rfl (Nat.le_of_ble_eq_true rfl) hkx3 ((dc_m_keeps hcall).up (by decide)) ?_
      refine tb_Es (k := 3) (st' := (18, [(0, .ref a0), (1, .int a1), (2, .int (-2)), (3, .int 0)], [], x3)) rfl ?_
      replace h := Option.bind_eq_some_iff.mp h
      obtain ⟨o8, eo8, h⟩ := h
      refine dl_m_falls_17 _ a0 a1 (-2) 0 x3 _ eo8 r ?_
      refine tb_Es (k := 1) (st' := (44, [(0, .ref o8.1), (2, .int o8.2.1)], [.ref o8.1], o8.2.2)) rfl ?_
      replace h := Option.bind_eq_some_iff.mp h
      obtain ⟨x9, ex9, h⟩ := h
      obtain ⟨hkx9, hcall⟩ := tb_on_some ex9
      refine tb_e_cv (v := none) rfl (Or.inl ⟨_, rfl⟩) rfl rfl (Nat.le_of_ble_eq_true rfl) rfl (Nat.le_of_ble_eq_true rfl) hkx9 ((dc_m_laysBack hcall).up (by decide)) ?_
      refine tb_Es (k := 1) (st' := (46, [(0, .ref o8.1), (2, .int o8.2.1)], [.int o8.2.1], x9)) rfl ?_
      obtain rfl := Option.some.inj h
      subst hr
      exact tb_Er rfl rfl
/-! TannerBuntingModel.lasts(I)I -/
def fl_m_lasts_12 : Nat → Nat → Int32 → Int32 → Int32 → tb_Hp → Option (Nat × Int32 × tb_Hp)
  | 0, _, _, _, _, _ => none
  | n + 1, v0, v1, v2, v3, w => (if v3 < 200 then (if v2 < 0 then (tb_on 22 v0 w (fb_m_passes v0 w)).bind fun x3 => (fb_m_isOf x3.1 v1 x3.2).bind fun x4 => (if x4.1 = 0 then fl_m_lasts_12 n v0 v1 v2 (v3 + 1) x4.2 else (tb_gN 22 20 v0 x4.2).bind fun p5 => (tb_lI [1, 9] p5 10 x4.2).bind fun x6 => fl_m_lasts_12 n v0 v1 (x6 - 1) (v3 + 1) x4.2) else some ((v0, v2, w))) else some ((v0, v2, w)))
set_option maxHeartbeats 4000000 in
set_option maxRecDepth 20000 in
theorem dl_m_lasts_12 : ∀ (n : Nat) (v0 : Nat) (v1 : Int32) (v2 : Int32) (v3 : Int32) (w : tb_Hp) (o : Nat × Int32 × tb_Hp), fl_m_lasts_12 n v0 v1 v2 v3 w = some o → ∀ (r : Option Value × tb_Hp), tb_Ev tb_P 7 259 (33, [(0, .ref o.1), (2, .int o.2.1)], [], o.2.2) r → tb_Ev tb_P 7 259 (13, [(0, .ref v0), (1, .int v1), (2, .int v2), (3, .int v3)], [], w) r := by
  intro n
  induction n with
  | zero =>
    intro v0 v1 v2 v3 w o h
    cases h
  | succ n ih =>
    intro v0 v1 v2 v3 w o h r hx
    unfold fl_m_lasts_12 at h
    refine tb_Es (k := 2) (st' := (15, [(0, .ref v0), (1, .int v1), (2, .int v2), (3, .int v3)], [.int 200, .int v3], w)) rfl ?_
    refine tb_b_cge rfl (fun hc => ?_) (fun hc => ?_)
    · rw [if_pos hc] at h
      refine tb_Es (k := 1) (st' := (17, [(0, .ref v0), (1, .int v1), (2, .int v2), (3, .int v3)], [.int v2], w)) rfl ?_
      refine tb_b_ige rfl (fun hc => ?_) (fun hc => ?_)
      · rw [if_pos hc] at h
        refine tb_Es (k := 1) (st' := (19, [(0, .ref v0), (1, .int v1), (2, .int v2), (3, .int v3)], [.ref v0], w)) rfl ?_
        replace h := Option.bind_eq_some_iff.mp h
        obtain ⟨x3, ex3, h⟩ := h
        obtain ⟨hkx3, hcall⟩ := tb_on_some ex3
        refine tb_e_cv (v := some (.int x3.1)) rfl (Or.inl ⟨_, rfl⟩) rfl rfl (Nat.le_of_ble_eq_true rfl) rfl (Nat.le_of_ble_eq_true rfl) hkx3 ((dc_m_passes hcall).up (by decide)) ?_
        refine tb_Es (k := 1) (st' := (21, [(0, .ref v0), (1, .int v1), (2, .int v2), (3, .int v3)], [.int v1, .int x3.1], x3.2)) rfl ?_
        replace h := Option.bind_eq_some_iff.mp h
        obtain ⟨x4, ex4, h⟩ := h
        have hcall := ex4
        refine tb_e_cs (v := some (.int x4.1)) rfl rfl rfl (Nat.le_of_ble_eq_true rfl) rfl (Nat.le_of_ble_eq_true rfl) ((dc_m_isOf hcall).up (by decide)) ?_
        refine tb_b_ieq rfl (fun hc => ?_) (fun hc => ?_)
        · rw [if_pos hc] at h
          refine tb_Es (k := 3) (st' := (13, [(0, .ref v0), (1, .int v1), (2, .int v2), (3, .int (v3 + 1))], [], x4.2)) rfl ?_
          exact ih v0 v1 v2 (v3 + 1) x4.2 _ h r hx
        · rw [if_neg hc] at h
          refine tb_Es (k := 1) (st' := (24, [(0, .ref v0), (1, .int v1), (2, .int v2), (3, .int v3)], [.ref v0], x4.2)) rfl ?_
          replace h := Option.bind_eq_some_iff.mp h
          obtain ⟨p5, ep5, h⟩ := h
          refine tb_e_gN rfl ep5 ?_
          refine tb_Es (k := 1) (st' := (26, [(0, .ref v0), (1, .int v1), (2, .int v2), (3, .int v3)], [.int 10, .ref p5], x4.2)) rfl ?_
          replace h := Option.bind_eq_some_iff.mp h
          obtain ⟨x6, ex6, h⟩ := h
          refine tb_e_lI rfl (Or.inl ⟨rfl, rfl⟩) ex6 ?_
          refine tb_Es (k := 6) (st' := (13, [(0, .ref v0), (1, .int v1), (2, .int (x6 - 1)), (3, .int (v3 + 1))], [], x4.2)) rfl ?_
          exact ih v0 v1 (x6 - 1) (v3 + 1) x4.2 _ h r hx
      · rw [if_neg hc] at h
        refine tb_Es (k := 1) (st' := (33, [(0, .ref v0), (2, .int v2)], [], w)) rfl ?_
        obtain rfl := Option.some.inj h
        exact hx
    · rw [if_neg hc] at h
      refine tb_Es (k := 1) (st' := (33, [(0, .ref v0), (2, .int v2)], [], w)) rfl ?_
      obtain rfl := Option.some.inj h
      exact hx
def fb_m_lasts (a0 : Nat) (a1 : Int32) (w : tb_Hp) : Option (Int32 × tb_Hp) := (tb_on 22 a0 w (fb_m_isStanding a0 a1 w)).bind fun x1 => (if x1.1 = 0 then some (-1, x1.2) else (tb_on 22 a0 x1.2 (fb_m_keeps a0 x1.2)).bind fun x2 => (fl_m_lasts_12 1048576 a0 a1 (-2) 0 x2).bind fun o7 => (tb_on 22 o7.1 o7.2.2 (fb_m_laysBack o7.1 o7.2.2)).bind fun x8 => some (o7.2.1, x8))
set_option maxHeartbeats 4000000 in
set_option maxRecDepth 20000 in
theorem dc_m_lasts {a0 : Nat} {a1 : Int32} {w : tb_Hp} {o : Int32 × tb_Hp} (h : fb_m_lasts a0 a1 w = some o) : tb_Ev tb_P 7 259 (0, tb_ent [.ref a0, .int a1], [], w) (some (.int o.1), o.2) := by
  unfold fb_m_lasts at h
  obtain ⟨r, hr⟩ : ∃ r : Option Value × tb_Hp, r = (some (.int o.1), o.2) := ⟨_, rfl⟩
  rw [← hr]
  show tb_Ev tb_P 7 259 (0, [(0, .ref a0), (1, .int a1)], [], w) r
  refine tb_Es (k := 2) (st' := (2, [(0, .ref a0), (1, .int a1)], [.int a1, .ref a0], w)) rfl ?_
  replace h := Option.bind_eq_some_iff.mp h
  obtain ⟨x1, ex1, h⟩ := h
  obtain ⟨hkx1, hcall⟩ := tb_on_some ex1
  refine tb_e_cv (v := some (.int x1.1)) rfl (Or.inl ⟨_, rfl⟩) rfl rfl (Nat.le_of_ble_eq_true rfl) rfl (Nat.le_of_ble_eq_true rfl) hkx1 ((dc_m_isStanding hcall).up (by decide)) ?_
  refine tb_b_ine rfl (fun hc => ?_) (fun hc => ?_)
  · rw [if_pos hc] at h
    refine tb_Es (k := 1) (st' := (5, [(0, .ref a0), (1, .int a1)], [.int (-1)], x1.2)) rfl ?_
    obtain rfl := Option.some.inj h
    subst hr
    exact tb_Er rfl rfl
  · rw [if_neg hc] at h
    refine tb_Es (k := 3) (st' := (9, [(2, .int (-2)), (0, .ref a0), (1, .int a1)], [.ref a0], x1.2)) rfl ?_
    replace h := Option.bind_eq_some_iff.mp h
    obtain ⟨x2, ex2, h⟩ := h
    obtain ⟨hkx2, hcall⟩ := tb_on_some ex2
    refine tb_e_cv (v := none) rfl (Or.inl ⟨_, rfl⟩) rfl rfl (Nat.le_of_ble_eq_true rfl) rfl (Nat.le_of_ble_eq_true rfl) hkx2 ((dc_m_keeps hcall).up (by decide)) ?_
    refine tb_Es (k := 3) (st' := (13, [(0, .ref a0), (1, .int a1), (2, .int (-2)), (3, .int 0)], [], x2)) rfl ?_
    replace h := Option.bind_eq_some_iff.mp h
    obtain ⟨o7, eo7, h⟩ := h
    refine dl_m_lasts_12 _ a0 a1 (-2) 0 x2 _ eo7 r ?_
    refine tb_Es (k := 1) (st' := (34, [(0, .ref o7.1), (2, .int o7.2.1)], [.ref o7.1], o7.2.2)) rfl ?_
    replace h := Option.bind_eq_some_iff.mp h
    obtain ⟨x8, ex8, h⟩ := h
    obtain ⟨hkx8, hcall⟩ := tb_on_some ex8
    refine tb_e_cv (v := none) rfl (Or.inl ⟨_, rfl⟩) rfl rfl (Nat.le_of_ble_eq_true rfl) rfl (Nat.le_of_ble_eq_true rfl) hkx8 ((dc_m_laysBack hcall).up (by decide)) ?_
    refine tb_Es (k := 1) (st' := (36, [(0, .ref o7.1), (2, .int o7.2.1)], [.int o7.2.1], x8)) rfl ?_
    obtain rfl := Option.some.inj h
    subst hr
    exact tb_Er rfl rfl
/-! TannerBuntingModel.needed()I -/
def fl_m_needed_11 : Nat → Nat → Int32 → Int32 → tb_Hp → Option (Int32 × tb_Hp)
  | 0, _, _, _, _ => none
  | n + 1, v0, v1, v2, w => (tb_gN 22 20 v0 w).bind fun p3 => (tb_lI [1, 9] p3 11 w).bind fun x4 => (if v2 < x4 then (tb_on 22 v0 w (fb_m_isUp v0 v2 w)).bind fun x5 => (if x5.1 = 0 then fl_m_needed_11 n v0 (v1 ||| 0) (v2 + 1) x5.2 else (tb_on 22 v0 x5.2 (fb_m_fallBy v0 (1 <<< (v2 &&& 31)) x5.2)).bind fun x6 => (if x6.1 = 0 then fl_m_needed_11 n v0 (v1 ||| 0) (v2 + 1) x6.2 else fl_m_needed_11 n v0 (v1 ||| (1 <<< (v2 &&& 31))) (v2 + 1) x6.2)) else some ((v1, w)))
set_option maxHeartbeats 4000000 in
set_option maxRecDepth 20000 in
theorem dl_m_needed_11 : ∀ (n : Nat) (v0 : Nat) (v1 : Int32) (v2 : Int32) (w : tb_Hp) (o : Int32 × tb_Hp), fl_m_needed_11 n v0 v1 v2 w = some o → ∀ (r : Option Value × tb_Hp), tb_Ev tb_P 7 261 (39, [(1, .int o.1)], [], o.2) r → tb_Ev tb_P 7 261 (12, [(0, .ref v0), (1, .int v1), (2, .int v2)], [], w) r := by
  intro n
  induction n with
  | zero =>
    intro v0 v1 v2 w o h
    cases h
  | succ n ih =>
    intro v0 v1 v2 w o h r hx
    unfold fl_m_needed_11 at h
    refine tb_Es (k := 2) (st' := (14, [(0, .ref v0), (1, .int v1), (2, .int v2)], [.ref v0, .int v2], w)) rfl ?_
    replace h := Option.bind_eq_some_iff.mp h
    obtain ⟨p3, ep3, h⟩ := h
    refine tb_e_gN rfl ep3 ?_
    refine tb_Es (k := 1) (st' := (16, [(0, .ref v0), (1, .int v1), (2, .int v2)], [.int 11, .ref p3, .int v2], w)) rfl ?_
    replace h := Option.bind_eq_some_iff.mp h
    obtain ⟨x4, ex4, h⟩ := h
    refine tb_e_lI rfl (Or.inl ⟨rfl, rfl⟩) ex4 ?_
    refine tb_b_cge rfl (fun hc => ?_) (fun hc => ?_)
    · rw [if_pos hc] at h
      refine tb_Es (k := 3) (st' := (21, [(0, .ref v0), (1, .int v1), (2, .int v2)], [.int v2, .ref v0, .int v1], w)) rfl ?_
      replace h := Option.bind_eq_some_iff.mp h
      obtain ⟨x5, ex5, h⟩ := h
      obtain ⟨hkx5, hcall⟩ := tb_on_some ex5
      refine tb_e_cv (v := some (.int x5.1)) rfl (Or.inl ⟨_, rfl⟩) rfl rfl (Nat.le_of_ble_eq_true rfl) rfl (Nat.le_of_ble_eq_true rfl) hkx5 ((dc_m_isUp hcall).up (by decide)) ?_
      refine tb_b_ieq rfl (fun hc => ?_) (fun hc => ?_)
      · rw [if_pos hc] at h
        refine tb_Es (k := 6) (st' := (12, [(0, .ref v0), (1, .int (v1 ||| 0)), (2, .int (v2 + 1))], [], x5.2)) rfl ?_
        exact ih v0 (v1 ||| 0) (v2 + 1) x5.2 _ h r hx
      · rw [if_neg hc] at h
        refine tb_Es (k := 4) (st' := (27, [(0, .ref v0), (1, .int v1), (2, .int v2)], [.int (1 <<< (v2 &&& 31)), .ref v0, .int v1], x5.2)) rfl ?_
        replace h := Option.bind_eq_some_iff.mp h
        obtain ⟨x6, ex6, h⟩ := h
        obtain ⟨hkx6, hcall⟩ := tb_on_some ex6
        refine tb_e_cv (v := some (.int x6.1)) rfl (Or.inl ⟨_, rfl⟩) rfl rfl (Nat.le_of_ble_eq_true rfl) rfl (Nat.le_of_ble_eq_true rfl) hkx6 ((dc_m_fallBy hcall).up (by decide)) ?_
        refine tb_b_ieq rfl (fun hc => ?_) (fun hc => ?_)
        · rw [if_pos hc] at h
          refine tb_Es (k := 6) (st' := (12, [(0, .ref v0), (1, .int (v1 ||| 0)), (2, .int (v2 + 1))], [], x6.2)) rfl ?_
          exact ih v0 (v1 ||| 0) (v2 + 1) x6.2 _ h r hx
        · rw [if_neg hc] at h
          refine tb_Es (k := 9) (st' := (12, [(0, .ref v0), (1, .int (v1 ||| (1 <<< (v2 &&& 31)))), (2, .int (v2 + 1))], [], x6.2)) rfl ?_
          exact ih v0 (v1 ||| (1 <<< (v2 &&& 31))) (v2 + 1) x6.2 _ h r hx
    · rw [if_neg hc] at h
      refine tb_Es (k := 1) (st' := (39, [(1, .int v1)], [], w)) rfl ?_
      obtain rfl := Option.some.inj h
      exact hx
def fb_m_needed (a0 : Nat) (w : tb_Hp) : Option (Int32 × tb_Hp) := (tb_on 22 a0 w (fb_m_isStreet a0 w)).bind fun x1 => (if x1.1 = 0 then some (-1, x1.2) else (tb_on 22 a0 x1.2 (fb_m_keeps a0 x1.2)).bind fun x2 => (fl_m_needed_11 1048576 a0 0 0 x2).bind fun o7 => some (o7.1, o7.2))
set_option maxHeartbeats 4000000 in
set_option maxRecDepth 20000 in
theorem dc_m_needed {a0 : Nat} {w : tb_Hp} {o : Int32 × tb_Hp} (h : fb_m_needed a0 w = some o) : tb_Ev tb_P 7 261 (0, tb_ent [.ref a0], [], w) (some (.int o.1), o.2) := by
  unfold fb_m_needed at h
  obtain ⟨r, hr⟩ : ∃ r : Option Value × tb_Hp, r = (some (.int o.1), o.2) := ⟨_, rfl⟩
  rw [← hr]
  show tb_Ev tb_P 7 261 (0, [(0, .ref a0)], [], w) r
  refine tb_Es (k := 1) (st' := (1, [(0, .ref a0)], [.ref a0], w)) rfl ?_
  replace h := Option.bind_eq_some_iff.mp h
  obtain ⟨x1, ex1, h⟩ := h
  obtain ⟨hkx1, hcall⟩ := tb_on_some ex1
  refine tb_e_cv (v := some (.int x1.1)) rfl (Or.inl ⟨_, rfl⟩) rfl rfl (Nat.le_of_ble_eq_true rfl) rfl (Nat.le_of_ble_eq_true rfl) hkx1 ((dc_m_isStreet hcall).up (by decide)) ?_
  refine tb_b_ine rfl (fun hc => ?_) (fun hc => ?_)
  · rw [if_pos hc] at h
    refine tb_Es (k := 1) (st' := (4, [(0, .ref a0)], [.int (-1)], x1.2)) rfl ?_
    obtain rfl := Option.some.inj h
    subst hr
    exact tb_Er rfl rfl
  · rw [if_neg hc] at h
    refine tb_Es (k := 3) (st' := (8, [(1, .int 0), (0, .ref a0)], [.ref a0], x1.2)) rfl ?_
    replace h := Option.bind_eq_some_iff.mp h
    obtain ⟨x2, ex2, h⟩ := h
    obtain ⟨hkx2, hcall⟩ := tb_on_some ex2
    refine tb_e_cv (v := none) rfl (Or.inl ⟨_, rfl⟩) rfl rfl (Nat.le_of_ble_eq_true rfl) rfl (Nat.le_of_ble_eq_true rfl) hkx2 ((dc_m_keeps hcall).up (by decide)) ?_
    refine tb_Es (k := 3) (st' := (12, [(0, .ref a0), (1, .int 0), (2, .int 0)], [], x2)) rfl ?_
    replace h := Option.bind_eq_some_iff.mp h
    obtain ⟨o7, eo7, h⟩ := h
    refine dl_m_needed_11 _ a0 0 0 x2 _ eo7 r ?_
    refine tb_Es (k := 1) (st' := (40, [(1, .int o7.1)], [.int o7.1], o7.2)) rfl ?_
    obtain rfl := Option.some.inj h
    subst hr
    exact tb_Er rfl rfl
/-! TannerBuntingModel.fewestSoThat(I)I -/
def fj_m_fewestSoThat_j26 (k : Nat → Int32 → Int32 → Int32 → Int32 → tb_Hp → Option (Int32 × tb_Hp)) (v0 : Nat) (v1 : Int32) (v2 : Int32) (v3 : Int32) (v4 : Int32) (w : tb_Hp) : Option (Int32 × tb_Hp) := (tb_on 22 v0 w (fb_m_fallBy v0 v4 w)).bind fun x3 => (if (v1 &&& (x3.1 ^^^ (-1))) = 0 then k v0 v1 v4 v3 (v4 + 1) x3.2 else k v0 v1 v2 v3 (v4 + 1) x3.2)
set_option maxHeartbeats 4000000 in
set_option maxRecDepth 20000 in
theorem dj_m_fewestSoThat_j26 (k : Nat → Int32 → Int32 → Int32 → Int32 → tb_Hp → Option (Int32 × tb_Hp)) (v0 : Nat) (v1 : Int32) (v2 : Int32) (v3 : Int32) (v4 : Int32) (w : tb_Hp) (o : Int32 × tb_Hp) (h : fj_m_fewestSoThat_j26 k v0 v1 v2 v3 v4 w = some o) (r : Option Value × tb_Hp) (hx : tb_Ev tb_P 7 264 (41, [(2, .int o.1)], [], o.2) r) (hk : ∀ (v0 : Nat) (v1 : Int32) (v2 : Int32) (v3 : Int32) (v4 : Int32) (w : tb_Hp), k v0 v1 v2 v3 v4 w = some o → tb_Ev tb_P 7 264 (10, [(0, .ref v0), (1, .int v1), (2, .int v2), (3, .int v3), (4, .int v4)], [], w) r) : tb_Ev tb_P 7 264 (28, [(0, .ref v0), (1, .int v1), (2, .int v2), (3, .int v3), (4, .int v4)], [], w) r := by
  unfold fj_m_fewestSoThat_j26 at h
  refine tb_Es (k := 3) (st' := (31, [(0, .ref v0), (1, .int v1), (2, .int v2), (3, .int v3), (4, .int v4)], [.int v4, .ref v0, .int v1], w)) rfl ?_
  replace h := Option.bind_eq_some_iff.mp h
  obtain ⟨x3, ex3, h⟩ := h
  obtain ⟨hkx3, hcall⟩ := tb_on_some ex3
  refine tb_e_cv (v := some (.int x3.1)) rfl (Or.inl ⟨_, rfl⟩) rfl rfl (Nat.le_of_ble_eq_true rfl) rfl (Nat.le_of_ble_eq_true rfl) hkx3 ((dc_m_fallBy hcall).up (by decide)) ?_
  refine tb_Es (k := 3) (st' := (35, [(0, .ref v0), (1, .int v1), (2, .int v2), (3, .int v3), (4, .int v4)], [.int (v1 &&& (x3.1 ^^^ (-1)))], x3.2)) rfl ?_
  refine tb_b_ine rfl (fun hc => ?_) (fun hc => ?_)
  · rw [if_pos hc] at h
    refine tb_Es (k := 5) (st' := (10, [(0, .ref v0), (1, .int v1), (2, .int v4), (3, .int v3), (4, .int (v4 + 1))], [], x3.2)) rfl ?_
    exact hk v0 v1 v4 v3 (v4 + 1) x3.2 h
  · rw [if_neg hc] at h
    refine tb_Es (k := 3) (st' := (10, [(0, .ref v0), (1, .int v1), (2, .int v2), (3, .int v3), (4, .int (v4 + 1))], [], x3.2)) rfl ?_
    exact hk v0 v1 v2 v3 (v4 + 1) x3.2 h
def fl_m_fewestSoThat_9 : Nat → Nat → Int32 → Int32 → Int32 → Int32 → tb_Hp → Option (Int32 × tb_Hp)
  | 0, _, _, _, _, _, _ => none
  | n + 1, v0, v1, v2, v3, v4, w => (if v4 ≤ v3 then (if (v4 &&& (v3 ^^^ (-1))) = 0 then (if v2 < 0 then fj_m_fewestSoThat_j26 (fl_m_fewestSoThat_9 n) v0 v1 v2 v3 v4 w else (fb_m_bits v4 w).bind fun x4 => (fb_m_bits v2 x4.2).bind fun x5 => (if x4.1 < x5.1 then fj_m_fewestSoThat_j26 (fl_m_fewestSoThat_9 n) v0 v1 v2 v3 v4 x5.2 else fl_m_fewestSoThat_9 n v0 v1 v2 v3 (v4 + 1) x5.2)) else fl_m_fewestSoThat_9 n v0 v1 v2 v3 (v4 + 1) w) else some ((v2, w)))
set_option maxHeartbeats 4000000 in
set_option maxRecDepth 20000 in
theorem dl_m_fewestSoThat_9 : ∀ (n : Nat) (v0 : Nat) (v1 : Int32) (v2 : Int32) (v3 : Int32) (v4 : Int32) (w : tb_Hp) (o : Int32 × tb_Hp), fl_m_fewestSoThat_9 n v0 v1 v2 v3 v4 w = some o → ∀ (r : Option Value × tb_Hp), tb_Ev tb_P 7 264 (41, [(2, .int o.1)], [], o.2) r → tb_Ev tb_P 7 264 (10, [(0, .ref v0), (1, .int v1), (2, .int v2), (3, .int v3), (4, .int v4)], [], w) r := by
  intro n
  induction n with
  | zero =>
    intro v0 v1 v2 v3 v4 w o h
    cases h
  | succ n ih =>
    intro v0 v1 v2 v3 v4 w o h r hx
    unfold fl_m_fewestSoThat_9 at h
    refine tb_Es (k := 2) (st' := (12, [(0, .ref v0), (1, .int v1), (2, .int v2), (3, .int v3), (4, .int v4)], [.int v3, .int v4], w)) rfl ?_
    refine tb_b_cgt rfl (fun hc => ?_) (fun hc => ?_)
    · rw [if_pos hc] at h
      refine tb_Es (k := 5) (st' := (18, [(0, .ref v0), (1, .int v1), (2, .int v2), (3, .int v3), (4, .int v4)], [.int (v4 &&& (v3 ^^^ (-1)))], w)) rfl ?_
      refine tb_b_ine rfl (fun hc => ?_) (fun hc => ?_)
      · rw [if_pos hc] at h
        refine tb_Es (k := 1) (st' := (20, [(0, .ref v0), (1, .int v1), (2, .int v2), (3, .int v3), (4, .int v4)], [.int v2], w)) rfl ?_
        refine tb_b_ilt rfl (fun hc => ?_) (fun hc => ?_)
        · rw [if_pos hc] at h
          refine tb_Es (k := 1) (st' := (28, [(0, .ref v0), (1, .int v1), (2, .int v2), (3, .int v3), (4, .int v4)], [], w)) rfl ?_
          exact dj_m_fewestSoThat_j26 (fl_m_fewestSoThat_9 n) v0 v1 v2 v3 v4 w _ h r hx (fun v0_ v1_ v2_ v3_ v4_ w_ h_ => ih v0_ v1_ v2_ v3_ v4_ w_ _ h_ r hx)
        · rw [if_neg hc] at h
          refine tb_Es (k := 1) (st' := (22, [(0, .ref v0), (1, .int v1), (2, .int v2), (3, .int v3), (4, .int v4)], [.int v4], w)) rfl ?_
          replace h := Option.bind_eq_some_iff.mp h
          obtain ⟨x4, ex4, h⟩ := h
          have hcall := ex4
          refine tb_e_cs (v := some (.int x4.1)) rfl rfl rfl (Nat.le_of_ble_eq_true rfl) rfl (Nat.le_of_ble_eq_true rfl) ((dc_m_bits hcall).up (by decide)) ?_
          refine tb_Es (k := 1) (st' := (24, [(0, .ref v0), (1, .int v1), (2, .int v2), (3, .int v3), (4, .int v4)], [.int v2, .int x4.1], x4.2)) rfl ?_
          replace h := Option.bind_eq_some_iff.mp h
          obtain ⟨x5, ex5, h⟩ := h
          have hcall := ex5
          refine tb_e_cs (v := some (.int x5.1)) rfl rfl rfl (Nat.le_of_ble_eq_true rfl) rfl (Nat.le_of_ble_eq_true rfl) ((dc_m_bits hcall).up (by decide)) ?_
          refine tb_b_clt rfl (fun hc => ?_) (fun hc => ?_)
          · rw [if_pos hc] at h
            refine tb_Es (k := 1) (st' := (28, [(0, .ref v0), (1, .int v1), (2, .int v2), (3, .int v3), (4, .int v4)], [], x5.2)) rfl ?_
            exact dj_m_fewestSoThat_j26 (fl_m_fewestSoThat_9 n) v0 v1 v2 v3 v4 x5.2 _ h r hx (fun v0_ v1_ v2_ v3_ v4_ w_ h_ => ih v0_ v1_ v2_ v3_ v4_ w_ _ h_ r hx)
          · rw [if_neg hc] at h
            refine tb_Es (k := 4) (st' := (10, [(0, .ref v0), (1, .int v1), (2, .int v2), (3, .int v3), (4, .int (v4 + 1))], [], x5.2)) rfl ?_
            exact ih v0 v1 v2 v3 (v4 + 1) x5.2 _ h r hx
      · rw [if_neg hc] at h
        refine tb_Es (k := 3) (st' := (10, [(0, .ref v0), (1, .int v1), (2, .int v2), (3, .int v3), (4, .int (v4 + 1))], [], w)) rfl ?_
        exact ih v0 v1 v2 v3 (v4 + 1) w _ h r hx
    · rw [if_neg hc] at h
      refine tb_Es (k := 1) (st' := (41, [(2, .int v2)], [], w)) rfl ?_
      obtain rfl := Option.some.inj h
      exact hx
def fb_m_fewestSoThat (a0 : Nat) (a1 : Int32) (w : tb_Hp) : Option (Int32 × tb_Hp) := (tb_on 22 a0 w (fb_m_linesUp a0 w)).bind fun x1 => (tb_on 22 a0 x1.2 (fb_m_keeps a0 x1.2)).bind fun x2 => (fl_m_fewestSoThat_9 1048576 a0 a1 (-1) x1.1 0 x2).bind fun o6 => some (o6.1, o6.2)
set_option maxHeartbeats 4000000 in
set_option maxRecDepth 20000 in
theorem dc_m_fewestSoThat {a0 : Nat} {a1 : Int32} {w : tb_Hp} {o : Int32 × tb_Hp} (h : fb_m_fewestSoThat a0 a1 w = some o) : tb_Ev tb_P 7 264 (0, tb_ent [.ref a0, .int a1], [], w) (some (.int o.1), o.2) := by
  unfold fb_m_fewestSoThat at h
  obtain ⟨r, hr⟩ : ∃ r : Option Value × tb_Hp, r = (some (.int o.1), o.2) := ⟨_, rfl⟩
  rw [← hr]
  show tb_Ev tb_P 7 264 (0, [(0, .ref a0), (1, .int a1)], [], w) r
  refine tb_Es (k := 3) (st' := (3, [(2, .int (-1)), (0, .ref a0), (1, .int a1)], [.ref a0], w)) rfl ?_
  replace h := Option.bind_eq_some_iff.mp h
  obtain ⟨x1, ex1, h⟩ := h
  obtain ⟨hkx1, hcall⟩ := tb_on_some ex1
  refine tb_e_cv (v := some (.int x1.1)) rfl (Or.inl ⟨_, rfl⟩) rfl rfl (Nat.le_of_ble_eq_true rfl) rfl (Nat.le_of_ble_eq_true rfl) hkx1 ((dc_m_linesUp hcall).up (by decide)) ?_
  refine tb_Es (k := 2) (st' := (6, [(3, .int x1.1), (2, .int (-1)), (0, .ref a0), (1, .int a1)], [.ref a0], x1.2)) rfl ?_
  replace h := Option.bind_eq_some_iff.mp h
  obtain ⟨x2, ex2, h⟩ := h
  obtain ⟨hkx2, hcall⟩ := tb_on_some ex2
  refine tb_e_cv (v := none) rfl (Or.inl ⟨_, rfl⟩) rfl rfl (Nat.le_of_ble_eq_true rfl) rfl (Nat.le_of_ble_eq_true rfl) hkx2 ((dc_m_keeps hcall).up (by decide)) ?_
  refine tb_Es (k := 3) (st' := (10, [(0, .ref a0), (1, .int a1), (2, .int (-1)), (3, .int x1.1), (4, .int 0)], [], x2)) rfl ?_
  replace h := Option.bind_eq_some_iff.mp h
  obtain ⟨o6, eo6, h⟩ := h
  refine dl_m_fewestSoThat_9 _ a0 a1 (-1) x1.1 0 x2 _ eo6 r ?_
  refine tb_Es (k := 1) (st' := (42, [(2, .int o6.1)], [.int o6.1], o6.2)) rfl ?_
  obtain rfl := Option.some.inj h
  subst hr
  exact tb_Er rfl rfl
/-! TannerBuntingModel.byThese(I)I -/
def fj_m_byThese_j37 (k : Nat → Int32 → Int32 → Int32 → Int32 → tb_Hp → Option (Int32 × Int32 × tb_Hp)) (v0 : Nat) (v1 : Int32) (v2 : Int32) (v3 : Int32) (v4 : Int32) (w : tb_Hp) : Option (Int32 × Int32 × tb_Hp) := (tb_on 22 v0 w (fb_m_fallBy v0 (v3 &&& (v4 ^^^ (-1))) w)).bind fun x5 => (if x5.1 = 0 then k v0 v1 v4 v3 (v4 + 1) x5.2 else k v0 v1 v2 v3 (v4 + 1) x5.2)
set_option maxHeartbeats 4000000 in
set_option maxRecDepth 20000 in
theorem dj_m_byThese_j37 (k : Nat → Int32 → Int32 → Int32 → Int32 → tb_Hp → Option (Int32 × Int32 × tb_Hp)) (v0 : Nat) (v1 : Int32) (v2 : Int32) (v3 : Int32) (v4 : Int32) (w : tb_Hp) (o : Int32 × Int32 × tb_Hp) (h : fj_m_byThese_j37 k v0 v1 v2 v3 v4 w = some o) (r : Option Value × tb_Hp) (hx : tb_Ev tb_P 7 267 (52, [(1, .int o.1), (2, .int o.2.1)], [], o.2.2) r) (hk : ∀ (v0 : Nat) (v1 : Int32) (v2 : Int32) (v3 : Int32) (v4 : Int32) (w : tb_Hp), k v0 v1 v2 v3 v4 w = some o → tb_Ev tb_P 7 267 (21, [(0, .ref v0), (1, .int v1), (2, .int v2), (3, .int v3), (4, .int v4)], [], w) r) : tb_Ev tb_P 7 267 (39, [(0, .ref v0), (1, .int v1), (2, .int v2), (3, .int v3), (4, .int v4)], [], w) r := by
  unfold fj_m_byThese_j37 at h
  refine tb_Es (k := 6) (st' := (45, [(0, .ref v0), (1, .int v1), (2, .int v2), (3, .int v3), (4, .int v4)], [.int (v3 &&& (v4 ^^^ (-1))), .ref v0], w)) rfl ?_
  replace h := Option.bind_eq_some_iff.mp h
  obtain ⟨x5, ex5, h⟩ := h
  obtain ⟨hkx5, hcall⟩ := tb_on_some ex5
  refine tb_e_cv (v := some (.int x5.1)) rfl (Or.inl ⟨_, rfl⟩) rfl rfl (Nat.le_of_ble_eq_true rfl) rfl (Nat.le_of_ble_eq_true rfl) hkx5 ((dc_m_fallBy hcall).up (by decide)) ?_
  refine tb_b_ine rfl (fun hc => ?_) (fun hc => ?_)
  · rw [if_pos hc] at h
    refine tb_Es (k := 5) (st' := (21, [(0, .ref v0), (1, .int v1), (2, .int v4), (3, .int v3), (4, .int (v4 + 1))], [], x5.2)) rfl ?_
    exact hk v0 v1 v4 v3 (v4 + 1) x5.2 h
  · rw [if_neg hc] at h
    refine tb_Es (k := 3) (st' := (21, [(0, .ref v0), (1, .int v1), (2, .int v2), (3, .int v3), (4, .int (v4 + 1))], [], x5.2)) rfl ?_
    exact hk v0 v1 v2 v3 (v4 + 1) x5.2 h
def fl_m_byThese_20 : Nat → Nat → Int32 → Int32 → Int32 → Int32 → tb_Hp → Option (Int32 × Int32 × tb_Hp)
  | 0, _, _, _, _, _, _ => none
  | n + 1, v0, v1, v2, v3, v4, w => (if v4 ≤ v3 then (if (v4 &&& (v3 ^^^ (-1))) = 0 then (if v2 < 0 then fj_m_byThese_j37 (fl_m_byThese_20 n) v0 v1 v2 v3 v4 w else (fb_m_bits v4 w).bind fun x6 => (fb_m_bits v2 x6.2).bind fun x7 => (if x6.1 < x7.1 then fj_m_byThese_j37 (fl_m_byThese_20 n) v0 v1 v2 v3 v4 x7.2 else fl_m_byThese_20 n v0 v1 v2 v3 (v4 + 1) x7.2)) else fl_m_byThese_20 n v0 v1 v2 v3 (v4 + 1) w) else some ((v1, v2, w)))
set_option maxHeartbeats 4000000 in
set_option maxRecDepth 20000 in
theorem dl_m_byThese_20 : ∀ (n : Nat) (v0 : Nat) (v1 : Int32) (v2 : Int32) (v3 : Int32) (v4 : Int32) (w : tb_Hp) (o : Int32 × Int32 × tb_Hp), fl_m_byThese_20 n v0 v1 v2 v3 v4 w = some o → ∀ (r : Option Value × tb_Hp), tb_Ev tb_P 7 267 (52, [(1, .int o.1), (2, .int o.2.1)], [], o.2.2) r → tb_Ev tb_P 7 267 (21, [(0, .ref v0), (1, .int v1), (2, .int v2), (3, .int v3), (4, .int v4)], [], w) r := by
  intro n
  induction n with
  | zero =>
    intro v0 v1 v2 v3 v4 w o h
    cases h
  | succ n ih =>
    intro v0 v1 v2 v3 v4 w o h r hx
    unfold fl_m_byThese_20 at h
    refine tb_Es (k := 2) (st' := (23, [(0, .ref v0), (1, .int v1), (2, .int v2), (3, .int v3), (4, .int v4)], [.int v3, .int v4], w)) rfl ?_
    refine tb_b_cgt rfl (fun hc => ?_) (fun hc => ?_)
    · rw [if_pos hc] at h
      refine tb_Es (k := 5) (st' := (29, [(0, .ref v0), (1, .int v1), (2, .int v2), (3, .int v3), (4, .int v4)], [.int (v4 &&& (v3 ^^^ (-1)))], w)) rfl ?_
      refine tb_b_ine rfl (fun hc => ?_) (fun hc => ?_)
      · rw [if_pos hc] at h
        refine tb_Es (k := 1) (st' := (31, [(0, .ref v0), (1, .int v1), (2, .int v2), (3, .int v3), (4, .int v4)], [.int v2], w)) rfl ?_
        refine tb_b_ilt rfl (fun hc => ?_) (fun hc => ?_)
        · rw [if_pos hc] at h
          refine tb_Es (k := 1) (st' := (39, [(0, .ref v0), (1, .int v1), (2, .int v2), (3, .int v3), (4, .int v4)], [], w)) rfl ?_
          exact dj_m_byThese_j37 (fl_m_byThese_20 n) v0 v1 v2 v3 v4 w _ h r hx (fun v0_ v1_ v2_ v3_ v4_ w_ h_ => ih v0_ v1_ v2_ v3_ v4_ w_ _ h_ r hx)
        · rw [if_neg hc] at h
          refine tb_Es (k := 1) (st' := (33, [(0, .ref v0), (1, .int v1), (2, .int v2), (3, .int v3), (4, .int v4)], [.int v4], w)) rfl ?_
          replace h := Option.bind_eq_some_iff.mp h
          obtain ⟨x6, ex6, h⟩ := h
          have hcall := ex6
          refine tb_e_cs (v := some (.int x6.1)) rfl rfl rfl (Nat.le_of_ble_eq_true rfl) rfl (Nat.le_of_ble_eq_true rfl) ((dc_m_bits hcall).up (by decide)) ?_
          refine tb_Es (k := 1) (st' := (35, [(0, .ref v0), (1, .int v1), (2, .int v2), (3, .int v3), (4, .int v4)], [.int v2, .int x6.1], x6.2)) rfl ?_
          replace h := Option.bind_eq_some_iff.mp h
          obtain ⟨x7, ex7, h⟩ := h
          have hcall := ex7
          refine tb_e_cs (v := some (.int x7.1)) rfl rfl rfl (Nat.le_of_ble_eq_true rfl) rfl (Nat.le_of_ble_eq_true rfl) ((dc_m_bits hcall).up (by decide)) ?_
          refine tb_b_clt rfl (fun hc => ?_) (fun hc => ?_)
          · rw [if_pos hc] at h
            refine tb_Es (k := 1) (st' := (39, [(0, .ref v0), (1, .int v1), (2, .int v2), (3, .int v3), (4, .int v4)], [], x7.2)) rfl ?_
            exact dj_m_byThese_j37 (fl_m_byThese_20 n) v0 v1 v2 v3 v4 x7.2 _ h r hx (fun v0_ v1_ v2_ v3_ v4_ w_ h_ => ih v0_ v1_ v2_ v3_ v4_ w_ _ h_ r hx)
          · rw [if_neg hc] at h
            refine tb_Es (k := 4) (st' := (21, [(0, .ref v0), (1, .int v1), (2, .int v2), (3, .int v3), (4, .int (v4 + 1))], [], x7.2)) rfl ?_
            exact ih v0 v1 v2 v3 (v4 + 1) x7.2 _ h r hx
      · rw [if_neg hc] at h
        refine tb_Es (k := 3) (st' := (21, [(0, .ref v0), (1, .int v1), (2, .int v2), (3, .int v3), (4, .int (v4 + 1))], [], w)) rfl ?_
        exact ih v0 v1 v2 v3 (v4 + 1) w _ h r hx
    · rw [if_neg hc] at h
      refine tb_Es (k := 1) (st' := (52, [(1, .int v1), (2, .int v2)], [], w)) rfl ?_
      obtain rfl := Option.some.inj h
      exact hx
def fb_m_byThese (a0 : Nat) (a1 : Int32) (w : tb_Hp) : Option (Int32 × tb_Hp) := (tb_on 22 a0 w (fb_m_isStreet a0 w)).bind fun x1 => (if x1.1 = 0 then some (-1, x1.2) else (fb_m_in (Int32.toInt64 a1) 0 1 x1.2).bind fun x2 => (if x2.1 = 0 then some (-1, x2.2) else (tb_on 22 a0 x2.2 (fb_m_linesUp a0 x2.2)).bind fun x3 => (tb_on 22 a0 x3.2 (fb_m_keeps a0 x3.2)).bind fun x4 => (fl_m_byThese_20 1048576 a0 a1 (-1) x3.1 0 x4).bind fun o8 => (fb_m_toldOf o8.2.1 o8.1 o8.2.2).bind fun x9 => some (x9.1, x9.2)))
set_option maxHeartbeats 4000000 in
set_option maxRecDepth 20000 in
theorem dc_m_byThese {a0 : Nat} {a1 : Int32} {w : tb_Hp} {o : Int32 × tb_Hp} (h : fb_m_byThese a0 a1 w = some o) : tb_Ev tb_P 7 267 (0, tb_ent [.ref a0, .int a1], [], w) (some (.int o.1), o.2) := by
  unfold fb_m_byThese at h
  obtain ⟨r, hr⟩ : ∃ r : Option Value × tb_Hp, r = (some (.int o.1), o.2) := ⟨_, rfl⟩
  rw [← hr]
  show tb_Ev tb_P 7 267 (0, [(0, .ref a0), (1, .int a1)], [], w) r
  refine tb_Es (k := 1) (st' := (1, [(0, .ref a0), (1, .int a1)], [.ref a0], w)) rfl ?_
  replace h := Option.bind_eq_some_iff.mp h
  obtain ⟨x1, ex1, h⟩ := h
  obtain ⟨hkx1, hcall⟩ := tb_on_some ex1
  refine tb_e_cv (v := some (.int x1.1)) rfl (Or.inl ⟨_, rfl⟩) rfl rfl (Nat.le_of_ble_eq_true rfl) rfl (Nat.le_of_ble_eq_true rfl) hkx1 ((dc_m_isStreet hcall).up (by decide)) ?_
  refine tb_b_ieq rfl (fun hc => ?_) (fun hc => ?_)
  · rw [if_pos hc] at h
    refine tb_Es (k := 1) (st' := (10, [(0, .ref a0), (1, .int a1)], [.int (-1)], x1.2)) rfl ?_
    obtain rfl := Option.some.inj h
    subst hr
    exact tb_Er rfl rfl
  · rw [if_neg hc] at h
    refine tb_Es (k := 4) (st' := (7, [(0, .ref a0), (1, .int a1)], [.long 1, .long 0, .long (Int32.toInt64 a1)], x1.2)) rfl ?_
    replace h := Option.bind_eq_some_iff.mp h
    obtain ⟨x2, ex2, h⟩ := h
    have hcall := ex2
    refine tb_e_cs (v := some (.int x2.1)) rfl rfl rfl (Nat.le_of_ble_eq_true rfl) rfl (Nat.le_of_ble_eq_true rfl) ((dc_m_in hcall).up (by decide)) ?_
    refine tb_b_ine rfl (fun hc => ?_) (fun hc => ?_)
    · rw [if_pos hc] at h
      refine tb_Es (k := 1) (st' := (10, [(0, .ref a0), (1, .int a1)], [.int (-1)], x2.2)) rfl ?_
      obtain rfl := Option.some.inj h
      subst hr
      exact tb_Er rfl rfl
    · rw [if_neg hc] at h
      refine tb_Es (k := 3) (st' := (14, [(2, .int (-1)), (0, .ref a0), (1, .int a1)], [.ref a0], x2.2)) rfl ?_
      replace h := Option.bind_eq_some_iff.mp h
      obtain ⟨x3, ex3, h⟩ := h
      obtain ⟨hkx3, hcall⟩ := tb_on_some ex3
      refine tb_e_cv (v := some (.int x3.1)) rfl (Or.inl ⟨_, rfl⟩) rfl rfl (Nat.le_of_ble_eq_true rfl) rfl (Nat.le_of_ble_eq_true rfl) hkx3 ((dc_m_linesUp hcall).up (by decide)) ?_
      refine tb_Es (k := 2) (st' := (17, [(3, .int x3.1), (2, .int (-1)), (0, .ref a0), (1, .int a1)], [.ref a0], x3.2)) rfl ?_
      replace h := Option.bind_eq_some_iff.mp h
      obtain ⟨x4, ex4, h⟩ := h
      obtain ⟨hkx4, hcall⟩ := tb_on_some ex4
      refine tb_e_cv (v := none) rfl (Or.inl ⟨_, rfl⟩) rfl rfl (Nat.le_of_ble_eq_true rfl) rfl (Nat.le_of_ble_eq_true rfl) hkx4 ((dc_m_keeps hcall).up (by decide)) ?_
      refine tb_Es (k := 3) (st' := (21, [(0, .ref a0), (1, .int a1), (2, .int (-1)), (3, .int x3.1), (4, .int 0)], [], x4)) rfl ?_
      replace h := Option.bind_eq_some_iff.mp h
      obtain ⟨o8, eo8, h⟩ := h
      refine dl_m_byThese_20 _ a0 a1 (-1) x3.1 0 x4 _ eo8 r ?_
      refine tb_Es (k := 2) (st' := (54, [(1, .int o8.1), (2, .int o8.2.1)], [.int o8.1, .int o8.2.1], o8.2.2)) rfl ?_
      replace h := Option.bind_eq_some_iff.mp h
      obtain ⟨x9, ex9, h⟩ := h
      have hcall := ex9
      refine tb_e_cs (v := some (.int x9.1)) rfl rfl rfl (Nat.le_of_ble_eq_true rfl) rfl (Nat.le_of_ble_eq_true rfl) ((dc_m_toldOf hcall).up (by decide)) ?_
      obtain rfl := Option.some.inj h
      subst hr
      exact tb_Er rfl rfl
/-! TannerBuntingModel.fillsRest(IIII)V -/
def fl_m_fillsRest_46 : Nat → Nat → Int32 → Int32 → Int32 → Int32 → Int32 → tb_Hp → Option (Nat × Int32 × Int32 × Int32 × tb_Hp)
  | 0, _, _, _, _, _, _, _ => none
  | n + 1, v0, v1, v2, v4, v5, v7, w => (if v7 < v4 then (tb_on 22 v0 w (fb_m_passes v0 w)).bind fun x9 => (tb_gN 22 28 v0 x9.2).bind fun p10 => (tb_lI [1, 9] p10 v5 x9.2).bind fun x11 => (tb_gN 22 20 v0 x9.2).bind fun p12 => (tb_lI [1, 9] p12 (32 + v1) x9.2).bind fun x13 => (tb_tI p10 v5 (x11 + x13) x9.2).bind fun w14 => (tb_gN 22 28 v0 w14).bind fun p15 => (tb_lI [1, 9] p15 (v5 + 1) w14).bind fun x16 => (tb_gN 22 20 v0 w14).bind fun p17 => (tb_lI [1, 9] p17 (32 + v2) w14).bind fun x18 => (tb_tI p15 (v5 + 1) (x16 + x18) w14).bind fun w19 => fl_m_fillsRest_46 n v0 v1 v2 v4 v5 (v7 + 1) w19 else some ((v0, v1, v2, v5, w)))
set_option maxHeartbeats 4000000 in
set_option maxRecDepth 20000 in
theorem dl_m_fillsRest_46 : ∀ (n : Nat) (v0 : Nat) (v1 : Int32) (v2 : Int32) (v4 : Int32) (v5 : Int32) (v7 : Int32) (w : tb_Hp) (o : Nat × Int32 × Int32 × Int32 × tb_Hp), fl_m_fillsRest_46 n v0 v1 v2 v4 v5 v7 w = some o → ∀ (r : Option Value × tb_Hp), tb_Ev tb_P 7 281 (86, [(0, .ref o.1), (1, .int o.2.1), (2, .int o.2.2.1), (5, .int o.2.2.2.1)], [], o.2.2.2.2) r → tb_Ev tb_P 7 281 (49, [(0, .ref v0), (1, .int v1), (2, .int v2), (4, .int v4), (5, .int v5), (7, .int v7)], [], w) r := by
  intro n
  induction n with
  | zero =>
    intro v0 v1 v2 v4 v5 v7 w o h
    cases h
  | succ n ih =>
    intro v0 v1 v2 v4 v5 v7 w o h r hx
    unfold fl_m_fillsRest_46 at h
    refine tb_Es (k := 2) (st' := (51, [(0, .ref v0), (1, .int v1), (2, .int v2), (4, .int v4), (5, .int v5), (7, .int v7)], [.int v4, .int v7], w)) rfl ?_
    refine tb_b_cge rfl (fun hc => ?_) (fun hc => ?_)
    · rw [if_pos hc] at h
      refine tb_Es (k := 1) (st' := (53, [(0, .ref v0), (1, .int v1), (2, .int v2), (4, .int v4), (5, .int v5), (7, .int v7)], [.ref v0], w)) rfl ?_
      replace h := Option.bind_eq_some_iff.mp h
      obtain ⟨x9, ex9, h⟩ := h
      obtain ⟨hkx9, hcall⟩ := tb_on_some ex9
      refine tb_e_cv (v := some (.int x9.1)) rfl (Or.inl ⟨_, rfl⟩) rfl rfl (Nat.le_of_ble_eq_true rfl) rfl (Nat.le_of_ble_eq_true rfl) hkx9 ((dc_m_passes hcall).up (by decide)) ?_
      refine tb_Es (k := 2) (st' := (56, [(0, .ref v0), (1, .int v1), (2, .int v2), (4, .int v4), (5, .int v5), (7, .int v7)], [.ref v0], x9.2)) rfl ?_
      replace h := Option.bind_eq_some_iff.mp h
      obtain ⟨p10, ep10, h⟩ := h
      refine tb_e_gN rfl ep10 ?_
      refine tb_Es (k := 2) (st' := (59, [(0, .ref v0), (1, .int v1), (2, .int v2), (4, .int v4), (5, .int v5), (7, .int v7)], [.int v5, .ref p10, .int v5, .ref p10], x9.2)) rfl ?_
      replace h := Option.bind_eq_some_iff.mp h
      obtain ⟨x11, ex11, h⟩ := h
      refine tb_e_lI rfl (Or.inl ⟨rfl, rfl⟩) ex11 ?_
      refine tb_Es (k := 1) (st' := (61, [(0, .ref v0), (1, .int v1), (2, .int v2), (4, .int v4), (5, .int v5), (7, .int v7)], [.ref v0, .int x11, .int v5, .ref p10], x9.2)) rfl ?_
      replace h := Option.bind_eq_some_iff.mp h
      obtain ⟨p12, ep12, h⟩ := h
      refine tb_e_gN rfl ep12 ?_
      refine tb_Es (k := 3) (st' := (65, [(0, .ref v0), (1, .int v1), (2, .int v2), (4, .int v4), (5, .int v5), (7, .int v7)], [.int (32 + v1), .ref p12, .int x11, .int v5, .ref p10], x9.2)) rfl ?_
      replace h := Option.bind_eq_some_iff.mp h
      obtain ⟨x13, ex13, h⟩ := h
      refine tb_e_lI rfl (Or.inl ⟨rfl, rfl⟩) ex13 ?_
      refine tb_Es (k := 1) (st' := (67, [(0, .ref v0), (1, .int v1), (2, .int v2), (4, .int v4), (5, .int v5), (7, .int v7)], [.int (x11 + x13), .int v5, .ref p10], x9.2)) rfl ?_
      replace h := Option.bind_eq_some_iff.mp h
      obtain ⟨w14, ew14, h⟩ := h
      refine tb_e_tI rfl ew14 ?_
      refine tb_Es (k := 1) (st' := (69, [(0, .ref v0), (1, .int v1), (2, .int v2), (4, .int v4), (5, .int v5), (7, .int v7)], [.ref v0], w14)) rfl ?_
      replace h := Option.bind_eq_some_iff.mp h
      obtain ⟨p15, ep15, h⟩ := h
      refine tb_e_gN rfl ep15 ?_
      refine tb_Es (k := 4) (st' := (74, [(0, .ref v0), (1, .int v1), (2, .int v2), (4, .int v4), (5, .int v5), (7, .int v7)], [.int (v5 + 1), .ref p15, .int (v5 + 1), .ref p15], w14)) rfl ?_
      replace h := Option.bind_eq_some_iff.mp h
      obtain ⟨x16, ex16, h⟩ := h
      refine tb_e_lI rfl (Or.inl ⟨rfl, rfl⟩) ex16 ?_
      refine tb_Es (k := 1) (st' := (76, [(0, .ref v0), (1, .int v1), (2, .int v2), (4, .int v4), (5, .int v5), (7, .int v7)], [.ref v0, .int x16, .int (v5 + 1), .ref p15], w14)) rfl ?_
      replace h := Option.bind_eq_some_iff.mp h
      obtain ⟨p17, ep17, h⟩ := h
      refine tb_e_gN rfl ep17 ?_
      refine tb_Es (k := 3) (st' := (80, [(0, .ref v0), (1, .int v1), (2, .int v2), (4, .int v4), (5, .int v5), (7, .int v7)], [.int (32 + v2), .ref p17, .int x16, .int (v5 + 1), .ref p15], w14)) rfl ?_
      replace h := Option.bind_eq_some_iff.mp h
      obtain ⟨x18, ex18, h⟩ := h
      refine tb_e_lI rfl (Or.inl ⟨rfl, rfl⟩) ex18 ?_
      refine tb_Es (k := 1) (st' := (82, [(0, .ref v0), (1, .int v1), (2, .int v2), (4, .int v4), (5, .int v5), (7, .int v7)], [.int (x16 + x18), .int (v5 + 1), .ref p15], w14)) rfl ?_
      replace h := Option.bind_eq_some_iff.mp h
      obtain ⟨w19, ew19, h⟩ := h
      refine tb_e_tI rfl ew19 ?_
      refine tb_Es (k := 3) (st' := (49, [(0, .ref v0), (1, .int v1), (2, .int v2), (4, .int v4), (5, .int v5), (7, .int (v7 + 1))], [], w19)) rfl ?_
      exact ih v0 v1 v2 v4 v5 (v7 + 1) w19 _ h r hx
    · rw [if_neg hc] at h
      refine tb_Es (k := 1) (st' := (86, [(0, .ref v0), (1, .int v1), (2, .int v2), (5, .int v5)], [], w)) rfl ?_
      obtain rfl := Option.some.inj h
      exact hx
def fj_m_fillsRest_j36 (v0 : Nat) (v1 : Int32) (v2 : Int32) (v4 : Int32) (v5 : Int32) (s0 : Int32) (s1 : Int32) (w : tb_Hp) : Option (tb_Hp) := (tb_on 22 v0 w (fb_m_downsAll v0 (s1 ||| s0) w)).bind fun x7 => (tb_on 22 v0 x7 (fb_m_givesWay v0 x7)).bind fun x8 => (fl_m_fillsRest_46 1048576 v0 v1 v2 v4 v5 0 x8.2).bind fun o20 => (tb_gN 22 28 o20.1 o20.2.2.2.2).bind fun p21 => (tb_lI [1, 9] p21 o20.2.2.2.1 o20.2.2.2.2).bind fun x22 => (tb_on 22 o20.1 o20.2.2.2.2 (fb_m_linesAt o20.1 o20.2.1 o20.2.2.2.2)).bind fun x23 => (fb_m_bits x23.1 x23.2).bind fun x24 => (tb_tI p21 o20.2.2.2.1 (x22 + x24.1) x24.2).bind fun w25 => (tb_gN 22 28 o20.1 w25).bind fun p26 => (tb_lI [1, 9] p26 (o20.2.2.2.1 + 1) w25).bind fun x27 => (tb_on 22 o20.1 w25 (fb_m_linesAt o20.1 o20.2.2.1 w25)).bind fun x28 => (fb_m_bits x28.1 x28.2).bind fun x29 => (tb_tI p26 (o20.2.2.2.1 + 1) (x27 + x29.1) x29.2).bind fun w30 => (tb_on 22 o20.1 w30 (fb_m_laysBack o20.1 w30)).bind fun x31 => some x31
set_option maxHeartbeats 4000000 in
set_option maxRecDepth 20000 in
theorem dj_m_fillsRest_j36 (v0 : Nat) (v1 : Int32) (v2 : Int32) (v4 : Int32) (v5 : Int32) (s0 : Int32) (s1 : Int32) (w : tb_Hp) (o : tb_Hp) (h : fj_m_fillsRest_j36 v0 v1 v2 v4 v5 s0 s1 w = some o) (r : Option Value × tb_Hp) (hr : r = (none, o)) : tb_Ev tb_P 7 281 (38, [(0, .ref v0), (1, .int v1), (2, .int v2), (4, .int v4), (5, .int v5)], [.int s0, .int s1], w) r := by
  unfold fj_m_fillsRest_j36 at h
  refine tb_Es (k := 4) (st' := (42, [(6, .int (s1 ||| s0)), (0, .ref v0), (1, .int v1), (2, .int v2), (4, .int v4), (5, .int v5)], [.int (s1 ||| s0), .ref v0], w)) rfl ?_
  replace h := Option.bind_eq_some_iff.mp h
  obtain ⟨x7, ex7, h⟩ := h
  obtain ⟨hkx7, hcall⟩ := tb_on_some ex7
  refine tb_e_cv (v := none) rfl (Or.inl ⟨_, rfl⟩) rfl rfl (Nat.le_of_ble_eq_true rfl) rfl (Nat.le_of_ble_eq_true rfl) hkx7 ((dc_m_downsAll hcall).up (by decide)) ?_
  refine tb_Es (k := 1) (st' := (44, [(6, .int (s1 ||| s0)), (0, .ref v0), (1, .int v1), (2, .int v2), (4, .int v4), (5, .int v5)], [.ref v0], x7)) rfl ?_
  replace h := Option.bind_eq_some_iff.mp h
  obtain ⟨x8, ex8, h⟩ := h
  obtain ⟨hkx8, hcall⟩ := tb_on_some ex8
  refine tb_e_cv (v := some (.int x8.1)) rfl (Or.inl ⟨_, rfl⟩) rfl rfl (Nat.le_of_ble_eq_true rfl) rfl (Nat.le_of_ble_eq_true rfl) hkx8 ((dc_m_givesWay hcall).up (by decide)) ?_
  refine tb_Es (k := 4) (st' := (49, [(0, .ref v0), (1, .int v1), (2, .int v2), (4, .int v4), (5, .int v5), (7, .int 0)], [], x8.2)) rfl ?_
  replace h := Option.bind_eq_some_iff.mp h
  obtain ⟨o20, eo20, h⟩ := h
  refine dl_m_fillsRest_46 _ v0 v1 v2 v4 v5 0 x8.2 _ eo20 r ?_
  refine tb_Es (k := 1) (st' := (87, [(0, .ref o20.1), (1, .int o20.2.1), (2, .int o20.2.2.1), (5, .int o20.2.2.2.1)], [.ref o20.1], o20.2.2.2.2)) rfl ?_
  replace h := Option.bind_eq_some_iff.mp h
  obtain ⟨p21, ep21, h⟩ := h
  refine tb_e_gN rfl ep21 ?_
  refine tb_Es (k := 2) (st' := (90, [(0, .ref o20.1), (1, .int o20.2.1), (2, .int o20.2.2.1), (5, .int o20.2.2.2.1)], [.int o20.2.2.2.1, .ref p21, .int o20.2.2.2.1, .ref p21], o20.2.2.2.2)) rfl ?_
  replace h := Option.bind_eq_some_iff.mp h
  obtain ⟨x22, ex22, h⟩ := h
  refine tb_e_lI rfl (Or.inl ⟨rfl, rfl⟩) ex22 ?_
  refine tb_Es (k := 2) (st' := (93, [(0, .ref o20.1), (1, .int o20.2.1), (2, .int o20.2.2.1), (5, .int o20.2.2.2.1)], [.int o20.2.1, .ref o20.1, .int x22, .int o20.2.2.2.1, .ref p21], o20.2.2.2.2)) rfl ?_
  replace h := Option.bind_eq_some_iff.mp h
  obtain ⟨x23, ex23, h⟩ := h
  obtain ⟨hkx23, hcall⟩ := tb_on_some ex23
  refine tb_e_cv (v := some (.int x23.1)) rfl (Or.inl ⟨_, rfl⟩) rfl rfl (Nat.le_of_ble_eq_true rfl) rfl (Nat.le_of_ble_eq_true rfl) hkx23 ((dc_m_linesAt hcall).up (by decide)) ?_
  replace h := Option.bind_eq_some_iff.mp h
  obtain ⟨x24, ex24, h⟩ := h
  have hcall := ex24
  refine tb_e_cs (v := some (.int x24.1)) rfl rfl rfl (Nat.le_of_ble_eq_true rfl) rfl (Nat.le_of_ble_eq_true rfl) ((dc_m_bits hcall).up (by decide)) ?_
  refine tb_Es (k := 1) (st' := (96, [(0, .ref o20.1), (1, .int o20.2.1), (2, .int o20.2.2.1), (5, .int o20.2.2.2.1)], [.int (x22 + x24.1), .int o20.2.2.2.1, .ref p21], x24.2)) rfl ?_
  replace h := Option.bind_eq_some_iff.mp h
  obtain ⟨w25, ew25, h⟩ := h
  refine tb_e_tI rfl ew25 ?_
  refine tb_Es (k := 1) (st' := (98, [(0, .ref o20.1), (1, .int o20.2.1), (2, .int o20.2.2.1), (5, .int o20.2.2.2.1)], [.ref o20.1], w25)) rfl ?_
  replace h := Option.bind_eq_some_iff.mp h
  obtain ⟨p26, ep26, h⟩ := h
  refine tb_e_gN rfl ep26 ?_
  refine tb_Es (k := 4) (st' := (103, [(0, .ref o20.1), (1, .int o20.2.1), (2, .int o20.2.2.1), (5, .int o20.2.2.2.1)], [.int (o20.2.2.2.1 + 1), .ref p26, .int (o20.2.2.2.1 + 1), .ref p26], w25)) rfl ?_
  replace h := Option.bind_eq_some_iff.mp h
  obtain ⟨x27, ex27, h⟩ := h
  refine tb_e_lI rfl (Or.inl ⟨rfl, rfl⟩) ex27 ?_
  refine tb_Es (k := 2) (st' := (106, [(0, .ref o20.1), (1, .int o20.2.1), (2, .int o20.2.2.1), (5, .int o20.2.2.2.1)], [.int o20.2.2.1, .ref o20.1, .int x27, .int (o20.2.2.2.1 + 1), .ref p26], w25)) rfl ?_
  replace h := Option.bind_eq_some_iff.mp h
  obtain ⟨x28, ex28, h⟩ := h
  obtain ⟨hkx28, hcall⟩ := tb_on_some ex28
  refine tb_e_cv (v := some (.int x28.1)) rfl (Or.inl ⟨_, rfl⟩) rfl rfl (Nat.le_of_ble_eq_true rfl) rfl (Nat.le_of_ble_eq_true rfl) hkx28 ((dc_m_linesAt hcall).up (by decide)) ?_
  replace h := Option.bind_eq_some_iff.mp h
  obtain ⟨x29, ex29, h⟩ := h
  have hcall := ex29
  refine tb_e_cs (v := some (.int x29.1)) rfl rfl rfl (Nat.le_of_ble_eq_true rfl) rfl (Nat.le_of_ble_eq_true rfl) ((dc_m_bits hcall).up (by decide)) ?_
  refine tb_Es (k := 1) (st' := (109, [(0, .ref o20.1), (1, .int o20.2.1), (2, .int o20.2.2.1), (5, .int o20.2.2.2.1)], [.int (x27 + x29.1), .int (o20.2.2.2.1 + 1), .ref p26], x29.2)) rfl ?_
  replace h := Option.bind_eq_some_iff.mp h
  obtain ⟨w30, ew30, h⟩ := h
  refine tb_e_tI rfl ew30 ?_
  refine tb_Es (k := 1) (st' := (111, [(0, .ref o20.1), (1, .int o20.2.1), (2, .int o20.2.2.1), (5, .int o20.2.2.2.1)], [.ref o20.1], w30)) rfl ?_
  replace h := Option.bind_eq_some_iff.mp h
  obtain ⟨x31, ex31, h⟩ := h
  obtain ⟨hkx31, hcall⟩ := tb_on_some ex31
  refine tb_e_cv (v := none) rfl (Or.inl ⟨_, rfl⟩) rfl rfl (Nat.le_of_ble_eq_true rfl) rfl (Nat.le_of_ble_eq_true rfl) hkx31 ((dc_m_laysBack hcall).up (by decide)) ?_
  obtain rfl := Option.some.inj h
  subst hr
  exact tb_Er rfl rfl
def fj_m_fillsRest_j26 (v0 : Nat) (v1 : Int32) (v2 : Int32) (v3 : Int32) (v4 : Int32) (v5 : Int32) (s0 : Int32) (w : tb_Hp) : Option (tb_Hp) := (if (v3 - v3 / 2 * 2) = 1 then (tb_on 22 v0 w (fb_m_linesAt v0 v2 w)).bind fun x6 => fj_m_fillsRest_j36 v0 v1 v2 v4 v5 x6.1 s0 x6.2 else fj_m_fillsRest_j36 v0 v1 v2 v4 v5 0 s0 w)
set_option maxHeartbeats 4000000 in
set_option maxRecDepth 20000 in
theorem dj_m_fillsRest_j26 (v0 : Nat) (v1 : Int32) (v2 : Int32) (v3 : Int32) (v4 : Int32) (v5 : Int32) (s0 : Int32) (w : tb_Hp) (o : tb_Hp) (h : fj_m_fillsRest_j26 v0 v1 v2 v3 v4 v5 s0 w = some o) (r : Option Value × tb_Hp) (hr : r = (none, o)) : tb_Ev tb_P 7 281 (27, [(0, .ref v0), (1, .int v1), (2, .int v2), (3, .int v3), (4, .int v4), (5, .int v5)], [.int s0], w) r := by
  unfold fj_m_fillsRest_j26 at h
  refine tb_Es (k := 2) (st' := (29, [(0, .ref v0), (1, .int v1), (2, .int v2), (3, .int v3), (4, .int v4), (5, .int v5)], [.int 2, .int v3, .int s0], w)) rfl ?_
  refine tb_e_irem rfl (by decide) ?_
  refine tb_Es (k := 1) (st' := (31, [(0, .ref v0), (1, .int v1), (2, .int v2), (3, .int v3), (4, .int v4), (5, .int v5)], [.int 1, .int (v3 - v3 / 2 * 2), .int s0], w)) rfl ?_
  refine tb_b_cne rfl (fun hc => ?_) (fun hc => ?_)
  · rw [if_pos hc] at h
    refine tb_Es (k := 2) (st' := (34, [(0, .ref v0), (1, .int v1), (2, .int v2), (3, .int v3), (4, .int v4), (5, .int v5)], [.int v2, .ref v0, .int s0], w)) rfl ?_
    replace h := Option.bind_eq_some_iff.mp h
    obtain ⟨x6, ex6, h⟩ := h
    obtain ⟨hkx6, hcall⟩ := tb_on_some ex6
    refine tb_e_cv (v := some (.int x6.1)) rfl (Or.inl ⟨_, rfl⟩) rfl rfl (Nat.le_of_ble_eq_true rfl) rfl (Nat.le_of_ble_eq_true rfl) hkx6 ((dc_m_linesAt hcall).up (by decide)) ?_
    refine tb_Es (k := 2) (st' := (38, [(0, .ref v0), (1, .int v1), (2, .int v2), (4, .int v4), (5, .int v5)], [.int x6.1, .int s0], x6.2)) rfl ?_
    exact dj_m_fillsRest_j36 v0 v1 v2 v4 v5 x6.1 s0 x6.2 _ h r hr
  · rw [if_neg hc] at h
    refine tb_Es (k := 2) (st' := (38, [(0, .ref v0), (1, .int v1), (2, .int v2), (4, .int v4), (5, .int v5)], [.int 0, .int s0], w)) rfl ?_
    exact dj_m_fillsRest_j36 v0 v1 v2 v4 v5 0 s0 w _ h r hr
def fb_m_fillsRest (a0 : Nat) (a1 : Int32) (a2 : Int32) (a3 : Int32) (a4 : Int32) (w : tb_Hp) : Option (tb_Hp) := (tb_gN 22 28 a0 w).bind fun p1 => (tb_tI p1 (2 * a3) 0 w).bind fun w2 => (tb_gN 22 28 a0 w2).bind fun p3 => (tb_tI p3 ((2 * a3) + 1) 0 w2).bind fun w4 => (if (a3 / 2) = 1 then (tb_on 22 a0 w4 (fb_m_linesAt a0 a1 w4)).bind fun x5 => fj_m_fillsRest_j26 a0 a1 a2 a3 a4 (2 * a3) x5.1 x5.2 else fj_m_fillsRest_j26 a0 a1 a2 a3 a4 (2 * a3) 0 w4)
set_option maxHeartbeats 4000000 in
set_option maxRecDepth 20000 in
theorem dc_m_fillsRest {a0 : Nat} {a1 : Int32} {a2 : Int32} {a3 : Int32} {a4 : Int32} {w : tb_Hp} {o : tb_Hp} (h : fb_m_fillsRest a0 a1 a2 a3 a4 w = some o) : tb_Ev tb_P 7 281 (0, tb_ent [.ref a0, .int a1, .int a2, .int a3, .int a4], [], w) (none, o) := by
  unfold fb_m_fillsRest at h
  obtain ⟨r, hr⟩ : ∃ r : Option Value × tb_Hp, r = (none, o) := ⟨_, rfl⟩
  rw [← hr]
  show tb_Ev tb_P 7 281 (0, [(0, .ref a0), (1, .int a1), (2, .int a2), (3, .int a3), (4, .int a4)], [], w) r
  refine tb_Es (k := 5) (st' := (5, [(5, .int (2 * a3)), (0, .ref a0), (1, .int a1), (2, .int a2), (3, .int a3), (4, .int a4)], [.ref a0], w)) rfl ?_
  replace h := Option.bind_eq_some_iff.mp h
  obtain ⟨p1, ep1, h⟩ := h
  refine tb_e_gN rfl ep1 ?_
  refine tb_Es (k := 2) (st' := (8, [(5, .int (2 * a3)), (0, .ref a0), (1, .int a1), (2, .int a2), (3, .int a3), (4, .int a4)], [.int 0, .int (2 * a3), .ref p1], w)) rfl ?_
  replace h := Option.bind_eq_some_iff.mp h
  obtain ⟨w2, ew2, h⟩ := h
  refine tb_e_tI rfl ew2 ?_
  refine tb_Es (k := 1) (st' := (10, [(5, .int (2 * a3)), (0, .ref a0), (1, .int a1), (2, .int a2), (3, .int a3), (4, .int a4)], [.ref a0], w2)) rfl ?_
  replace h := Option.bind_eq_some_iff.mp h
  obtain ⟨p3, ep3, h⟩ := h
  refine tb_e_gN rfl ep3 ?_
  refine tb_Es (k := 4) (st' := (15, [(5, .int (2 * a3)), (0, .ref a0), (1, .int a1), (2, .int a2), (3, .int a3), (4, .int a4)], [.int 0, .int ((2 * a3) + 1), .ref p3], w2)) rfl ?_
  replace h := Option.bind_eq_some_iff.mp h
  obtain ⟨w4, ew4, h⟩ := h
  refine tb_e_tI rfl ew4 ?_
  refine tb_Es (k := 2) (st' := (18, [(5, .int (2 * a3)), (0, .ref a0), (1, .int a1), (2, .int a2), (3, .int a3), (4, .int a4)], [.int 2, .int a3], w4)) rfl ?_
  refine tb_e_idiv rfl (by decide) ?_
  refine tb_Es (k := 1) (st' := (20, [(5, .int (2 * a3)), (0, .ref a0), (1, .int a1), (2, .int a2), (3, .int a3), (4, .int a4)], [.int 1, .int (a3 / 2)], w4)) rfl ?_
  refine tb_b_cne rfl (fun hc => ?_) (fun hc => ?_)
  · rw [if_pos hc] at h
    refine tb_Es (k := 2) (st' := (23, [(5, .int (2 * a3)), (0, .ref a0), (1, .int a1), (2, .int a2), (3, .int a3), (4, .int a4)], [.int a1, .ref a0], w4)) rfl ?_
    replace h := Option.bind_eq_some_iff.mp h
    obtain ⟨x5, ex5, h⟩ := h
    obtain ⟨hkx5, hcall⟩ := tb_on_some ex5
    refine tb_e_cv (v := some (.int x5.1)) rfl (Or.inl ⟨_, rfl⟩) rfl rfl (Nat.le_of_ble_eq_true rfl) rfl (Nat.le_of_ble_eq_true rfl) hkx5 ((dc_m_linesAt hcall).up (by decide)) ?_
    refine tb_Es (k := 2) (st' := (27, [(0, .ref a0), (1, .int a1), (2, .int a2), (3, .int a3), (4, .int a4), (5, .int (2 * a3))], [.int x5.1], x5.2)) rfl ?_
    exact dj_m_fillsRest_j26 a0 a1 a2 a3 a4 (2 * a3) x5.1 x5.2 _ h r hr
  · rw [if_neg hc] at h
    refine tb_Es (k := 2) (st' := (27, [(0, .ref a0), (1, .int a1), (2, .int a2), (3, .int a3), (4, .int a4), (5, .int (2 * a3))], [.int 0], w4)) rfl ?_
    exact dj_m_fillsRest_j26 a0 a1 a2 a3 a4 (2 * a3) 0 w4 _ h r hr
