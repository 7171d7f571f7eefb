/-! TannerBuntingModel.takesWord(J)Z -/
def fb_m_takesWord (a0 : Nat) (a1 : Int64) (w : tb_Hp) : Option (Int32 × tb_Hp) := (tb_on 22 a0 w (fb_m_isWord a0 a1 w)).bind fun x1 => (if x1.1 = 0 then some (0, x1.2) else (tb_on 22 a0 x1.2 (fb_m_passWord a0 x1.2)).bind fun x2 => some (1, x2))
set_option maxHeartbeats 4000000 in
set_option maxRecDepth 20000 in
theorem dc_m_takesWord {a0 : Nat} {a1 : Int64} {w : tb_Hp} {o : Int32 × tb_Hp} (h : fb_m_takesWord a0 a1 w = some o) : tb_Ev tb_P 2 198 (0, tb_ent [.ref a0, .long a1], [], w) (some (.int o.1), o.2) := by
  unfold fb_m_takesWord at h
  obtain ⟨r, hr⟩ : ∃ r : Option Value × tb_Hp, r = (some (.int o.1), o.2) := ⟨_, rfl⟩
  rw [← hr]
  show tb_Ev tb_P 2 198 (0, [(0, .ref a0), (1, .long a1)], [], w) r
  refine tb_Es (k := 2) (st' := (2, [(0, .ref a0), (1, .long a1)], [.long a1, .ref a0], w)) rfl ?_
  replace h := Option.bind_eq_some_iff.mp h
  obtain ⟨x1, ex1, h⟩ := h
  obtain ⟨hkx1, hcall⟩ := tb_on_some ex1
  refine tb_e_cv (v := some (.int x1.1)) rfl (Or.inl ⟨_, rfl⟩) rfl rfl (Nat.le_of_ble_eq_true rfl) rfl (Nat.le_of_ble_eq_true rfl) hkx1 ((dc_m_isWord hcall).up (by decide)) ?_
  refine tb_b_ine rfl (fun hc => ?_) (fun hc => ?_)
  · rw [if_pos hc] at h
    refine tb_Es (k := 1) (st' := (5, [(0, .ref a0), (1, .long a1)], [.int 0], x1.2)) rfl ?_
    obtain rfl := Option.some.inj h
    subst hr
    exact tb_Er rfl rfl
  · rw [if_neg hc] at h
    refine tb_Es (k := 1) (st' := (7, [(0, .ref a0), (1, .long a1)], [.ref a0], x1.2)) rfl ?_
    replace h := Option.bind_eq_some_iff.mp h
    obtain ⟨x2, ex2, h⟩ := h
    obtain ⟨hkx2, hcall⟩ := tb_on_some ex2
    refine tb_e_cv (v := none) rfl (Or.inl ⟨_, rfl⟩) rfl rfl (Nat.le_of_ble_eq_true rfl) rfl (Nat.le_of_ble_eq_true rfl) hkx2 ((dc_m_passWord hcall).up (by decide)) ?_
    refine tb_Es (k := 1) (st' := (9, [(0, .ref a0), (1, .long a1)], [.int 1], x2)) rfl ?_
    obtain rfl := Option.some.inj h
    subst hr
    exact tb_Er rfl rfl
/-! TannerBuntingModel.closes()V -/
def fl_m_closes_3 : Nat → Nat → tb_Hp → Option (tb_Hp)
  | 0, _, _ => none
  | n + 1, v0, w => (tb_on 22 v0 w (fb_m_see v0 w)).bind fun x2 => (if x2.1 = 93 then (tb_on 22 v0 x2.2 (fb_m_isInside v0 x2.2)).bind fun x3 => (if x3.1 = 0 then some (x3.2) else (tb_on 22 v0 x3.2 (fb_m_layDown v0 1 x3.2)).bind fun x4 => (tb_gI 22 16 v0 x4).bind fun x5 => (tb_pI 22 16 v0 (x5 - 1) x4).bind fun w6 => (tb_gI 22 13 v0 w6).bind fun x7 => (tb_pI 22 13 v0 (x7 - 1) w6).bind fun w8 => (tb_gI 22 8 v0 w8).bind fun x9 => (tb_pI 22 8 v0 (x9 + 1) w8).bind fun w10 => (tb_on 22 v0 w10 (fb_m_layDown v0 3 w10)).bind fun x11 => fl_m_closes_3 n v0 x11) else some (x2.2))
set_option maxHeartbeats 4000000 in
set_option maxRecDepth 20000 in
theorem dl_m_closes_3 : ∀ (n : Nat) (v0 : Nat) (w : tb_Hp) (o : tb_Hp), fl_m_closes_3 n v0 w = some o → ∀ (r : Option Value × tb_Hp), tb_Ev tb_P 2 203 (37, [], [], o) r → tb_Ev tb_P 2 203 (4, [(0, .ref v0)], [], w) r := by
  intro n
  induction n with
  | zero =>
    intro v0 w o h
    cases h
  | succ n ih =>
    intro v0 w o h r hx
    unfold fl_m_closes_3 at h
    refine tb_Es (k := 1) (st' := (5, [(0, .ref v0)], [.ref v0], w)) rfl ?_
    replace h := Option.bind_eq_some_iff.mp h
    obtain ⟨x2, ex2, h⟩ := h
    obtain ⟨hkx2, hcall⟩ := tb_on_some ex2
    refine tb_e_cv (v := some (.int x2.1)) rfl (Or.inl ⟨_, rfl⟩) rfl rfl (Nat.le_of_ble_eq_true rfl) rfl (Nat.le_of_ble_eq_true rfl) hkx2 ((dc_m_see hcall).up (by decide)) ?_
    refine tb_Es (k := 1) (st' := (7, [(0, .ref v0)], [.int 93, .int x2.1], x2.2)) rfl ?_
    refine tb_b_cne rfl (fun hc => ?_) (fun hc => ?_)
    · rw [if_pos hc] at h
      refine tb_Es (k := 1) (st' := (9, [(0, .ref v0)], [.ref v0], x2.2)) rfl ?_
      replace h := Option.bind_eq_some_iff.mp h
      obtain ⟨x3, ex3, h⟩ := h
      obtain ⟨hkx3, hcall⟩ := tb_on_some ex3
      refine tb_e_cv (v := some (.int x3.1)) rfl (Or.inl ⟨_, rfl⟩) rfl rfl (Nat.le_of_ble_eq_true rfl) rfl (Nat.le_of_ble_eq_true rfl) hkx3 ((dc_m_isInside hcall).up (by decide)) ?_
      refine tb_b_ieq rfl (fun hc => ?_) (fun hc => ?_)
      · rw [if_pos hc] at h
        refine tb_Es (k := 1) (st' := (37, [], [], x3.2)) rfl ?_
        obtain rfl := Option.some.inj h
        exact hx
      · rw [if_neg hc] at h
        refine tb_Es (k := 2) (st' := (13, [(0, .ref v0)], [.int 1, .ref v0], x3.2)) rfl ?_
        replace h := Option.bind_eq_some_iff.mp h
        obtain ⟨x4, ex4, h⟩ := h
        obtain ⟨hkx4, hcall⟩ := tb_on_some ex4
        refine tb_e_cv (v := none) rfl (Or.inl ⟨_, rfl⟩) rfl rfl (Nat.le_of_ble_eq_true rfl) rfl (Nat.le_of_ble_eq_true rfl) hkx4 ((dc_m_layDown hcall).up (by decide)) ?_
        refine tb_Es (k := 2) (st' := (16, [(0, .ref v0)], [.ref v0, .ref v0], x4)) rfl ?_
        replace h := Option.bind_eq_some_iff.mp h
        obtain ⟨x5, ex5, h⟩ := h
        refine tb_e_gI rfl ex5 ?_
        refine tb_Es (k := 2) (st' := (19, [(0, .ref v0)], [.int (x5 - 1), .ref v0], x4)) rfl ?_
        replace h := Option.bind_eq_some_iff.mp h
        obtain ⟨w6, ew6, h⟩ := h
        refine tb_e_pI rfl ew6 ?_
        refine tb_Es (k := 2) (st' := (22, [(0, .ref v0)], [.ref v0, .ref v0], w6)) rfl ?_
        replace h := Option.bind_eq_some_iff.mp h
        obtain ⟨x7, ex7, h⟩ := h
        refine tb_e_gI rfl ex7 ?_
        refine tb_Es (k := 2) (st' := (25, [(0, .ref v0)], [.int (x7 - 1), .ref v0], w6)) rfl ?_
        replace h := Option.bind_eq_some_iff.mp h
        obtain ⟨w8, ew8, h⟩ := h
        refine tb_e_pI rfl ew8 ?_
        refine tb_Es (k := 2) (st' := (28, [(0, .ref v0)], [.ref v0, .ref v0], w8)) rfl ?_
        replace h := Option.bind_eq_some_iff.mp h
        obtain ⟨x9, ex9, h⟩ := h
        refine tb_e_gI rfl ex9 ?_
        refine tb_Es (k := 2) (st' := (31, [(0, .ref v0)], [.int (x9 + 1), .ref v0], w8)) rfl ?_
        replace h := Option.bind_eq_some_iff.mp h
        obtain ⟨w10, ew10, h⟩ := h
        refine tb_e_pI rfl ew10 ?_
        refine tb_Es (k := 2) (st' := (34, [(0, .ref v0)], [.int 3, .ref v0], w10)) rfl ?_
        replace h := Option.bind_eq_some_iff.mp h
        obtain ⟨x11, ex11, h⟩ := h
        obtain ⟨hkx11, hcall⟩ := tb_on_some ex11
        refine tb_e_cv (v := none) rfl (Or.inl ⟨_, rfl⟩) rfl rfl (Nat.le_of_ble_eq_true rfl) rfl (Nat.le_of_ble_eq_true rfl) hkx11 ((dc_m_layDown hcall).up (by decide)) ?_
        refine tb_Es (k := 2) (st' := (4, [(0, .ref v0)], [], x11)) rfl ?_
        exact ih v0 x11 _ h r hx
    · rw [if_neg hc] at h
      refine tb_Es (k := 1) (st' := (37, [], [], x2.2)) rfl ?_
      obtain rfl := Option.some.inj h
      exact hx
def fb_m_closes (a0 : Nat) (w : tb_Hp) : Option (tb_Hp) := (tb_on 22 a0 w (fb_m_layDown a0 3 w)).bind fun x1 => (fl_m_closes_3 1048576 a0 x1).bind fun o12 => some o12
set_option maxHeartbeats 4000000 in
set_option maxRecDepth 20000 in
theorem dc_m_closes {a0 : Nat} {w : tb_Hp} {o : tb_Hp} (h : fb_m_closes a0 w = some o) : tb_Ev tb_P 2 203 (0, tb_ent [.ref a0], [], w) (none, o) := by
  unfold fb_m_closes at h
  obtain ⟨r, hr⟩ : ∃ r : Option Value × tb_Hp, r = (none, o) := ⟨_, rfl⟩
  rw [← hr]
  show tb_Ev tb_P 2 203 (0, [(0, .ref a0)], [], w) r
  refine tb_Es (k := 2) (st' := (2, [(0, .ref a0)], [.int 3, .ref a0], w)) rfl ?_
  replace h := Option.bind_eq_some_iff.mp h
  obtain ⟨x1, ex1, h⟩ := h
  obtain ⟨hkx1, hcall⟩ := tb_on_some ex1
  refine tb_e_cv (v := none) rfl (Or.inl ⟨_, rfl⟩) rfl rfl (Nat.le_of_ble_eq_true rfl) rfl (Nat.le_of_ble_eq_true rfl) hkx1 ((dc_m_layDown hcall).up (by decide)) ?_
  refine tb_Es (k := 1) (st' := (4, [(0, .ref a0)], [], x1)) rfl ?_
  replace h := Option.bind_eq_some_iff.mp h
  obtain ⟨o12, eo12, h⟩ := h
  refine dl_m_closes_3 _ a0 x1 _ eo12 r ?_
  obtain rfl := Option.some.inj h
  subst hr
  exact tb_Er rfl rfl
/-! TannerBuntingModel.isAt(II)Z -/
def fb_m_isAt (a0 : Nat) (a1 : Int32) (a2 : Int32) (w : tb_Hp) : Option (Int32 × tb_Hp) := (tb_on 22 a0 w (fb_m_isUp a0 a1 w)).bind fun x1 => (if x1.1 = 0 then some (0, x1.2) else (tb_on 22 a0 x1.2 (fb_m_oddOf a0 a1 x1.2)).bind fun x2 => (if x2.1 = a2 then some (1, x2.2) else (tb_on 22 a0 x2.2 (fb_m_evenOf a0 a1 x2.2)).bind fun x3 => (if x3.1 = a2 then some (1, x3.2) else some (0, x3.2))))
set_option maxHeartbeats 4000000 in
set_option maxRecDepth 20000 in
theorem dc_m_isAt {a0 : Nat} {a1 : Int32} {a2 : Int32} {w : tb_Hp} {o : Int32 × tb_Hp} (h : fb_m_isAt a0 a1 a2 w = some o) : tb_Ev tb_P 2 216 (0, tb_ent [.ref a0, .int a1, .int a2], [], w) (some (.int o.1), o.2) := by
  unfold fb_m_isAt at h
  obtain ⟨r, hr⟩ : ∃ r : Option Value × tb_Hp, r = (some (.int o.1), o.2) := ⟨_, rfl⟩
  rw [← hr]
  show tb_Ev tb_P 2 216 (0, [(0, .ref a0), (1, .int a1), (2, .int a2)], [], w) r
  refine tb_Es (k := 2) (st' := (2, [(0, .ref a0), (1, .int a1), (2, .int a2)], [.int a1, .ref a0], w)) rfl ?_
  replace h := Option.bind_eq_some_iff.mp h
  obtain ⟨x1, ex1, h⟩ := h
  obtain ⟨hkx1, hcall⟩ := tb_on_some ex1
  refine tb_e_cv (v := some (.int x1.1)) rfl (Or.inl ⟨_, rfl⟩) rfl rfl (Nat.le_of_ble_eq_true rfl) rfl (Nat.le_of_ble_eq_true rfl) hkx1 ((dc_m_isUp hcall).up (by decide)) ?_
  refine tb_b_ieq rfl (fun hc => ?_) (fun hc => ?_)
  · rw [if_pos hc] at h
    refine tb_Es (k := 1) (st' := (17, [(0, .ref a0), (1, .int a1), (2, .int a2)], [.int 0], x1.2)) rfl ?_
    obtain rfl := Option.some.inj h
    subst hr
    exact tb_Er rfl rfl
  · rw [if_neg hc] at h
    refine tb_Es (k := 2) (st' := (6, [(0, .ref a0), (1, .int a1), (2, .int a2)], [.int a1, .ref a0], x1.2)) rfl ?_
    replace h := Option.bind_eq_some_iff.mp h
    obtain ⟨x2, ex2, h⟩ := h
    obtain ⟨hkx2, hcall⟩ := tb_on_some ex2
    refine tb_e_cv (v := some (.int x2.1)) rfl (Or.inl ⟨_, rfl⟩) rfl rfl (Nat.le_of_ble_eq_true rfl) rfl (Nat.le_of_ble_eq_true rfl) hkx2 ((dc_m_oddOf hcall).up (by decide)) ?_
    refine tb_Es (k := 1) (st' := (8, [(0, .ref a0), (1, .int a1), (2, .int a2)], [.int a2, .int x2.1], x2.2)) rfl ?_
    refine tb_b_ceq rfl (fun hc => ?_) (fun hc => ?_)
    · rw [if_pos hc] at h
      refine tb_Es (k := 2) (st' := (17, [(0, .ref a0), (1, .int a1), (2, .int a2)], [.int 1], x2.2)) rfl ?_
      obtain rfl := Option.some.inj h
      subst hr
      exact tb_Er rfl rfl
    · rw [if_neg hc] at h
      refine tb_Es (k := 2) (st' := (11, [(0, .ref a0), (1, .int a1), (2, .int a2)], [.int a1, .ref a0], x2.2)) rfl ?_
      replace h := Option.bind_eq_some_iff.mp h
      obtain ⟨x3, ex3, h⟩ := h
      obtain ⟨hkx3, hcall⟩ := tb_on_some ex3
      refine tb_e_cv (v := some (.int x3.1)) rfl (Or.inl ⟨_, rfl⟩) rfl rfl (Nat.le_of_ble_eq_true rfl) rfl (Nat.le_of_ble_eq_true rfl) hkx3 ((dc_m_evenOf hcall).up (by decide)) ?_
      refine tb_Es (k := 1) (st' := (13, [(0, .ref a0), (1, .int a1), (2, .int a2)], [.int a2, .int x3.1], x3.2)) rfl ?_
      refine tb_b_cne rfl (fun hc => ?_) (fun hc => ?_)
      · rw [if_pos hc] at h
        refine tb_Es (k := 2) (st' := (17, [(0, .ref a0), (1, .int a1), (2, .int a2)], [.int 1], x3.2)) rfl ?_
        obtain rfl := Option.some.inj h
        subst hr
        exact tb_Er rfl rfl
      · rw [if_neg hc] at h
        refine tb_Es (k := 1) (st' := (17, [(0, .ref a0), (1, .int a1), (2, .int a2)], [.int 0], x3.2)) rfl ?_
        obtain rfl := Option.some.inj h
        subst hr
        exact tb_Er rfl rfl
/-! TannerBuntingModel.linesUp()I -/
def fl_m_linesUp_4 : Nat → Nat → Int32 → Int32 → tb_Hp → Option (Int32 × tb_Hp)
  | 0, _, _, _, _ => none
  | n + 1, v0, v1, v2, w => (tb_gN 22 20 v0 w).bind fun p1 => (tb_lI [1, 9] p1 11 w).bind fun x2 => (if v2 < x2 then (tb_on 22 v0 w (fb_m_isUp v0 v2 w)).bind fun x3 => (if x3.1 = 0 then fl_m_linesUp_4 n v0 (v1 ||| 0) (v2 + 1) x3.2 else fl_m_linesUp_4 n v0 (v1 ||| (1 <<< (v2 &&& 31))) (v2 + 1) x3.2) else some ((v1, w)))
set_option maxHeartbeats 4000000 in
set_option maxRecDepth 20000 in
theorem dl_m_linesUp_4 : ∀ (n : Nat) (v0 : Nat) (v1 : Int32) (v2 : Int32) (w : tb_Hp) (o : Int32 × tb_Hp), fl_m_linesUp_4 n v0 v1 v2 w = some o → ∀ (r : Option Value × tb_Hp), tb_Ev tb_P 2 230 (26, [(1, .int o.1)], [], o.2) r → tb_Ev tb_P 2 230 (5, [(0, .ref v0), (1, .int v1), (2, .int v2)], [], w) r := by
  intro n
  induction n with
  | zero =>
    intro v0 v1 v2 w o h
    cases h
  | succ n ih =>
    intro v0 v1 v2 w o h r hx
    unfold fl_m_linesUp_4 at h
    refine tb_Es (k := 2) (st' := (7, [(0, .ref v0), (1, .int v1), (2, .int v2)], [.ref v0, .int v2], w)) rfl ?_
    replace h := Option.bind_eq_some_iff.mp h
    obtain ⟨p1, ep1, h⟩ := h
    refine tb_e_gN rfl ep1 ?_
    refine tb_Es (k := 1) (st' := (9, [(0, .ref v0), (1, .int v1), (2, .int v2)], [.int 11, .ref p1, .int v2], w)) rfl ?_
    replace h := Option.bind_eq_some_iff.mp h
    obtain ⟨x2, ex2, h⟩ := h
    refine tb_e_lI rfl (Or.inl ⟨rfl, rfl⟩) ex2 ?_
    refine tb_b_cge rfl (fun hc => ?_) (fun hc => ?_)
    · rw [if_pos hc] at h
      refine tb_Es (k := 3) (st' := (14, [(0, .ref v0), (1, .int v1), (2, .int v2)], [.int v2, .ref v0, .int v1], w)) rfl ?_
      replace h := Option.bind_eq_some_iff.mp h
      obtain ⟨x3, ex3, h⟩ := h
      obtain ⟨hkx3, hcall⟩ := tb_on_some ex3
      refine tb_e_cv (v := some (.int x3.1)) rfl (Or.inl ⟨_, rfl⟩) rfl rfl (Nat.le_of_ble_eq_true rfl) rfl (Nat.le_of_ble_eq_true rfl) hkx3 ((dc_m_isUp hcall).up (by decide)) ?_
      refine tb_b_ieq rfl (fun hc => ?_) (fun hc => ?_)
      · rw [if_pos hc] at h
        refine tb_Es (k := 6) (st' := (5, [(0, .ref v0), (1, .int (v1 ||| 0)), (2, .int (v2 + 1))], [], x3.2)) rfl ?_
        exact ih v0 (v1 ||| 0) (v2 + 1) x3.2 _ h r hx
      · rw [if_neg hc] at h
        refine tb_Es (k := 9) (st' := (5, [(0, .ref v0), (1, .int (v1 ||| (1 <<< (v2 &&& 31)))), (2, .int (v2 + 1))], [], x3.2)) rfl ?_
        exact ih v0 (v1 ||| (1 <<< (v2 &&& 31))) (v2 + 1) x3.2 _ h r hx
    · rw [if_neg hc] at h
      refine tb_Es (k := 1) (st' := (26, [(1, .int v1)], [], w)) rfl ?_
      obtain rfl := Option.some.inj h
      exact hx
def fb_m_linesUp (a0 : Nat) (w : tb_Hp) : Option (Int32 × tb_Hp) := (fl_m_linesUp_4 1048576 a0 0 0 w).bind fun o4 => some (o4.1, o4.2)
set_option maxHeartbeats 4000000 in
set_option maxRecDepth 20000 in
theorem dc_m_linesUp {a0 : Nat} {w : tb_Hp} {o : Int32 × tb_Hp} (h : fb_m_linesUp a0 w = some o) : tb_Ev tb_P 2 230 (0, tb_ent [.ref a0], [], w) (some (.int o.1), o.2) := by
  unfold fb_m_linesUp at h
  obtain ⟨r, hr⟩ : ∃ r : Option Value × tb_Hp, r = (some (.int o.1), o.2) := ⟨_, rfl⟩
  rw [← hr]
  show tb_Ev tb_P 2 230 (0, [(0, .ref a0)], [], w) r
  refine tb_Es (k := 5) (st' := (5, [(0, .ref a0), (1, .int 0), (2, .int 0)], [], w)) rfl ?_
  replace h := Option.bind_eq_some_iff.mp h
  obtain ⟨o4, eo4, h⟩ := h
  refine dl_m_linesUp_4 _ a0 0 0 w _ eo4 r ?_
  refine tb_Es (k := 1) (st' := (27, [(1, .int o4.1)], [.int o4.1], o4.2)) rfl ?_
  obtain rfl := Option.some.inj h
  subst hr
  exact tb_Er rfl rfl
/-! TannerBuntingModel.isStanding(I)Z -/
def fb_m_isStanding (a0 : Nat) (a1 : Int32) (w : tb_Hp) : Option (Int32 × tb_Hp) := (tb_on 22 a0 w (fb_m_isHouse a0 a1 w)).bind fun x1 => (if x1.1 = 0 then some (0, x1.2) else (tb_gN 22 20 a0 x1.2).bind fun p2 => (tb_lI [1, 9] p2 (32 + a1) x1.2).bind fun x3 => (if x3 = 1 then some (1, x1.2) else some (0, x1.2)))
set_option maxHeartbeats 4000000 in
set_option maxRecDepth 20000 in
theorem dc_m_isStanding {a0 : Nat} {a1 : Int32} {w : tb_Hp} {o : Int32 × tb_Hp} (h : fb_m_isStanding a0 a1 w = some o) : tb_Ev tb_P 2 233 (0, tb_ent [.ref a0, .int a1], [], w) (some (.int o.1), o.2) := by
  unfold fb_m_isStanding at h
  obtain ⟨r, hr⟩ : ∃ r : Option Value × tb_Hp, r = (some (.int o.1), o.2) := ⟨_, rfl⟩
  rw [← hr]
  show tb_Ev tb_P 2 233 (0, [(0, .ref a0), (1, .int a1)], [], w) r
  refine tb_Es (k := 2) (st' := (2, [(0, .ref a0), (1, .int a1)], [.int a1, .ref a0], w)) rfl ?_
  replace h := Option.bind_eq_some_iff.mp h
  obtain ⟨x1, ex1, h⟩ := h
  obtain ⟨hkx1, hcall⟩ := tb_on_some ex1
  refine tb_e_cv (v := some (.int x1.1)) rfl (Or.inl ⟨_, rfl⟩) rfl rfl (Nat.le_of_ble_eq_true rfl) rfl (Nat.le_of_ble_eq_true rfl) hkx1 ((dc_m_isHouse hcall).up (by decide)) ?_
  refine tb_b_ieq rfl (fun hc => ?_) (fun hc => ?_)
  · rw [if_pos hc] at h
    refine tb_Es (k := 1) (st' := (15, [(0, .ref a0), (1, .int a1)], [.int 0], x1.2)) rfl ?_
    obtain rfl := Option.some.inj h
    subst hr
    exact tb_Er rfl rfl
  · rw [if_neg hc] at h
    refine tb_Es (k := 1) (st' := (5, [(0, .ref a0), (1, .int a1)], [.ref a0], x1.2)) rfl ?_
    replace h := Option.bind_eq_some_iff.mp h
    obtain ⟨p2, ep2, h⟩ := h
    refine tb_e_gN rfl ep2 ?_
    refine tb_Es (k := 3) (st' := (9, [(0, .ref a0), (1, .int a1)], [.int (32 + a1), .ref p2], x1.2)) rfl ?_
    replace h := Option.bind_eq_some_iff.mp h
    obtain ⟨x3, ex3, h⟩ := h
    refine tb_e_lI rfl (Or.inl ⟨rfl, rfl⟩) ex3 ?_
    refine tb_Es (k := 1) (st' := (11, [(0, .ref a0), (1, .int a1)], [.int 1, .int x3], x1.2)) rfl ?_
    refine tb_b_cne rfl (fun hc => ?_) (fun hc => ?_)
    · rw [if_pos hc] at h
      refine tb_Es (k := 2) (st' := (15, [(0, .ref a0), (1, .int a1)], [.int 1], x1.2)) rfl ?_
      obtain rfl := Option.some.inj h
      subst hr
      exact tb_Er rfl rfl
    · rw [if_neg hc] at h
      refine tb_Es (k := 1) (st' := (15, [(0, .ref a0), (1, .int a1)], [.int 0], x1.2)) rfl ?_
      obtain rfl := Option.some.inj h
      subst hr
      exact tb_Er rfl rfl
/-! TannerBuntingModel.summedBy(I)J -/
def fj_m_summedBy_j41 (k : Nat → Int32 → Int32 → tb_Hp → Option (Int64 × tb_Hp)) (v0 : Nat) (v1 : Int32) (v3 : Int32) (w : tb_Hp) : Option (Int64 × tb_Hp) := (tb_gN 22 5 v0 w).bind fun p5 => (tb_lI [1, 9] p5 v3 w).bind fun x6 => (tb_gN 22 5 v0 w).bind fun p7 => (tb_lI [1, 9] p7 (v3 + 1) w).bind fun x8 => (tb_on 22 v0 w (fb_m_reckons v0 v1 x6 x8 w)).bind fun x9 => some ((x9.1, x9.2))
set_option maxHeartbeats 4000000 in
set_option maxRecDepth 20000 in
theorem dj_m_summedBy_j41 (k : Nat → Int32 → Int32 → tb_Hp → Option (Int64 × tb_Hp)) (v0 : Nat) (v1 : Int32) (v3 : Int32) (w : tb_Hp) (o : Int64 × tb_Hp) (h : fj_m_summedBy_j41 k v0 v1 v3 w = some o) (r : Option Value × tb_Hp) (hx : r = (some (.long o.1), o.2)) (hk : ∀ (v0 : Nat) (v1 : Int32) (v2 : Int32) (w : tb_Hp), k v0 v1 v2 w = some o → tb_Ev tb_P 2 234 (3, [(0, .ref v0), (1, .int v1), (2, .int v2)], [], w) r) : tb_Ev tb_P 2 234 (43, [(0, .ref v0), (1, .int v1), (3, .int v3)], [], w) r := by
  unfold fj_m_summedBy_j41 at h
  refine tb_Es (k := 3) (st' := (46, [(0, .ref v0), (1, .int v1), (3, .int v3)], [.ref v0, .int v1, .ref v0], w)) rfl ?_
  replace h := Option.bind_eq_some_iff.mp h
  obtain ⟨p5, ep5, h⟩ := h
  refine tb_e_gN rfl ep5 ?_
  refine tb_Es (k := 1) (st' := (48, [(0, .ref v0), (1, .int v1), (3, .int v3)], [.int v3, .ref p5, .int v1, .ref v0], w)) rfl ?_
  replace h := Option.bind_eq_some_iff.mp h
  obtain ⟨x6, ex6, h⟩ := h
  refine tb_e_lI rfl (Or.inl ⟨rfl, rfl⟩) ex6 ?_
  refine tb_Es (k := 1) (st' := (50, [(0, .ref v0), (1, .int v1), (3, .int v3)], [.ref v0, .int x6, .int v1, .ref v0], w)) rfl ?_
  replace h := Option.bind_eq_some_iff.mp h
  obtain ⟨p7, ep7, h⟩ := h
  refine tb_e_gN rfl ep7 ?_
  refine tb_Es (k := 3) (st' := (54, [(0, .ref v0), (1, .int v1), (3, .int v3)], [.int (v3 + 1), .ref p7, .int x6, .int v1, .ref v0], w)) rfl ?_
  replace h := Option.bind_eq_some_iff.mp h
  obtain ⟨x8, ex8, h⟩ := h
  refine tb_e_lI rfl (Or.inl ⟨rfl, rfl⟩) ex8 ?_
  replace h := Option.bind_eq_some_iff.mp h
  obtain ⟨x9, ex9, h⟩ := h
  obtain ⟨hkx9, hcall⟩ := tb_on_some ex9
  refine tb_e_cv (v := some (.long x9.1)) rfl (Or.inl ⟨_, rfl⟩) rfl rfl (Nat.le_of_ble_eq_true rfl) rfl (Nat.le_of_ble_eq_true rfl) hkx9 ((dc_m_reckons hcall).up (by decide)) ?_
  obtain rfl := Option.some.inj h
  replace hx : r = _ := hx
  subst hx
  exact tb_Er rfl rfl
def fj_m_summedBy_j57 (k : Nat → Int32 → Int32 → tb_Hp → Option (Int64 × tb_Hp)) (w : tb_Hp) : Option (Int64 × tb_Hp) := some ((0, w))
set_option maxHeartbeats 4000000 in
set_option maxRecDepth 20000 in
theorem dj_m_summedBy_j57 (k : Nat → Int32 → Int32 → tb_Hp → Option (Int64 × tb_Hp)) (w : tb_Hp) (o : Int64 × tb_Hp) (h : fj_m_summedBy_j57 k  w = some o) (r : Option Value × tb_Hp) (hx : r = (some (.long o.1), o.2)) (hk : ∀ (v0 : Nat) (v1 : Int32) (v2 : Int32) (w : tb_Hp), k v0 v1 v2 w = some o → tb_Ev tb_P 2 234 (3, [(0, .ref v0), (1, .int v1), (2, .int v2)], [], w) r) : tb_Ev tb_P 2 234 (60, [], [], w) r := by
  unfold fj_m_summedBy_j57 at h
  refine tb_Es (k := 1) (st' := (61, [], [.long 0], w)) rfl ?_
  obtain rfl := Option.some.inj h
  replace hx : r = _ := hx
  subst hx
  exact tb_Er rfl rfl
def fl_m_summedBy_2 : Nat → Nat → Int32 → Int32 → tb_Hp → Option (Int64 × tb_Hp)
  | 0, _, _, _, _ => none
  | n + 1, v0, v1, v2, w => (tb_gN 22 6 v0 w).bind fun p1 => (tb_lI [1, 9] p1 v1 w).bind fun x2 => (if v2 < x2 then (tb_gN 22 5 v0 w).bind fun p3 => (tb_lI [1, 9] p3 (((48 * v1) + (4 * v2)) + 2) w).bind fun x4 => (if x4 < 0 then fj_m_summedBy_j41 (fl_m_summedBy_2 n) v0 v1 ((48 * v1) + (4 * v2)) w else (tb_gN 22 5 v0 w).bind fun p10 => (tb_lI [1, 9] p10 (((48 * v1) + (4 * v2)) + 2) w).bind fun x11 => (tb_gN 22 5 v0 w).bind fun p12 => (tb_lI [1, 9] p12 (((48 * v1) + (4 * v2)) + 3) w).bind fun x13 => (tb_on 22 v0 w (fb_m_reckons v0 v1 x11 x13 w)).bind fun x14 => (if (lg_cmp x14.1 1) = 0 then fj_m_summedBy_j41 (fl_m_summedBy_2 n) v0 v1 ((48 * v1) + (4 * v2)) x14.2 else fl_m_summedBy_2 n v0 v1 (v2 + 1) x14.2)) else fj_m_summedBy_j57 (fl_m_summedBy_2 n)  w)
set_option maxHeartbeats 4000000 in
set_option maxRecDepth 20000 in
theorem dl_m_summedBy_2 : ∀ (n : Nat) (v0 : Nat) (v1 : Int32) (v2 : Int32) (w : tb_Hp) (o : Int64 × tb_Hp), fl_m_summedBy_2 n v0 v1 v2 w = some o → ∀ (r : Option Value × tb_Hp), r = (some (.long o.1), o.2) → tb_Ev tb_P 2 234 (3, [(0, .ref v0), (1, .int v1), (2, .int v2)], [], w) r := by
  intro n
  induction n with
  | zero =>
    intro v0 v1 v2 w o h
    cases h
  | succ n ih =>
    intro v0 v1 v2 w o h r hx
    unfold fl_m_summedBy_2 at h
    refine tb_Es (k := 2) (st' := (5, [(0, .ref v0), (1, .int v1), (2, .int v2)], [.ref v0, .int v2], w)) rfl ?_
    replace h := Option.bind_eq_some_iff.mp h
    obtain ⟨p1, ep1, h⟩ := h
    refine tb_e_gN rfl ep1 ?_
    refine tb_Es (k := 1) (st' := (7, [(0, .ref v0), (1, .int v1), (2, .int v2)], [.int v1, .ref p1, .int v2], w)) rfl ?_
    replace h := Option.bind_eq_some_iff.mp h
    obtain ⟨x2, ex2, h⟩ := h
    refine tb_e_lI rfl (Or.inl ⟨rfl, rfl⟩) ex2 ?_
    refine tb_b_cge rfl (fun hc => ?_) (fun hc => ?_)
    · rw [if_pos hc] at h
      refine tb_Es (k := 9) (st' := (18, [(3, .int ((48 * v1) + (4 * v2))), (0, .ref v0), (1, .int v1), (2, .int v2)], [.ref v0], w)) rfl ?_
      replace h := Option.bind_eq_some_iff.mp h
      obtain ⟨p3, ep3, h⟩ := h
      refine tb_e_gN rfl ep3 ?_
      refine tb_Es (k := 3) (st' := (22, [(3, .int ((48 * v1) + (4 * v2))), (0, .ref v0), (1, .int v1), (2, .int v2)], [.int (((48 * v1) + (4 * v2)) + 2), .ref p3], w)) rfl ?_
      replace h := Option.bind_eq_some_iff.mp h
      obtain ⟨x4, ex4, h⟩ := h
      refine tb_e_lI rfl (Or.inl ⟨rfl, rfl⟩) ex4 ?_
      refine tb_b_ilt rfl (fun hc => ?_) (fun hc => ?_)
      · rw [if_pos hc] at h
        refine tb_Es (k := 1) (st' := (43, [(0, .ref v0), (1, .int v1), (3, .int ((48 * v1) + (4 * v2)))], [], w)) rfl ?_
        exact dj_m_summedBy_j41 (fl_m_summedBy_2 n) v0 v1 ((48 * v1) + (4 * v2)) w _ h r hx (fun v0_ v1_ v2_ w_ h_ => ih v0_ v1_ v2_ w_ _ h_ r hx)
      · rw [if_neg hc] at h
        refine tb_Es (k := 3) (st' := (27, [(3, .int ((48 * v1) + (4 * v2))), (0, .ref v0), (1, .int v1), (2, .int v2)], [.ref v0, .int v1, .ref v0], w)) rfl ?_
        replace h := Option.bind_eq_some_iff.mp h
        obtain ⟨p10, ep10, h⟩ := h
        refine tb_e_gN rfl ep10 ?_
        refine tb_Es (k := 3) (st' := (31, [(3, .int ((48 * v1) + (4 * v2))), (0, .ref v0), (1, .int v1), (2, .int v2)], [.int (((48 * v1) + (4 * v2)) + 2), .ref p10, .int v1, .ref v0], w)) rfl ?_
        replace h := Option.bind_eq_some_iff.mp h
        obtain ⟨x11, ex11, h⟩ := h
        refine tb_e_lI rfl (Or.inl ⟨rfl, rfl⟩) ex11 ?_
        refine tb_Es (k := 1) (st' := (33, [(3, .int ((48 * v1) + (4 * v2))), (0, .ref v0), (1, .int v1), (2, .int v2)], [.ref v0, .int x11, .int v1, .ref v0], w)) rfl ?_
        replace h := Option.bind_eq_some_iff.mp h
        obtain ⟨p12, ep12, h⟩ := h
        refine tb_e_gN rfl ep12 ?_
        refine tb_Es (k := 3) (st' := (37, [(3, .int ((48 * v1) + (4 * v2))), (0, .ref v0), (1, .int v1), (2, .int v2)], [.int (((48 * v1) + (4 * v2)) + 3), .ref p12, .int x11, .int v1, .ref v0], w)) rfl ?_
        replace h := Option.bind_eq_some_iff.mp h
        obtain ⟨x13, ex13, h⟩ := h
        refine tb_e_lI rfl (Or.inl ⟨rfl, rfl⟩) ex13 ?_
        replace h := Option.bind_eq_some_iff.mp h
        obtain ⟨x14, ex14, h⟩ := h
        obtain ⟨hkx14, hcall⟩ := tb_on_some ex14
        refine tb_e_cv (v := some (.long x14.1)) rfl (Or.inl ⟨_, rfl⟩) rfl rfl (Nat.le_of_ble_eq_true rfl) rfl (Nat.le_of_ble_eq_true rfl) hkx14 ((dc_m_reckons hcall).up (by decide)) ?_
        refine tb_Es (k := 2) (st' := (41, [(3, .int ((48 * v1) + (4 * v2))), (0, .ref v0), (1, .int v1), (2, .int v2)], [.int (lg_cmp x14.1 1)], x14.2)) rfl ?_
        refine tb_b_ine rfl (fun hc => ?_) (fun hc => ?_)
        · rw [if_pos hc] at h
          refine tb_Es (k := 1) (st' := (43, [(0, .ref v0), (1, .int v1), (3, .int ((48 * v1) + (4 * v2)))], [], x14.2)) rfl ?_
          exact dj_m_summedBy_j41 (fl_m_summedBy_2 n) v0 v1 ((48 * v1) + (4 * v2)) x14.2 _ h r hx (fun v0_ v1_ v2_ w_ h_ => ih v0_ v1_ v2_ w_ _ h_ r hx)
        · rw [if_neg hc] at h
          refine tb_Es (k := 3) (st' := (3, [(0, .ref v0), (1, .int v1), (2, .int (v2 + 1))], [], x14.2)) rfl ?_
          exact ih v0 v1 (v2 + 1) x14.2 _ h r hx
    · rw [if_neg hc] at h
      refine tb_Es (k := 1) (st' := (60, [], [], w)) rfl ?_
      exact dj_m_summedBy_j57 (fl_m_summedBy_2 n)  w _ h r hx (fun v0_ v1_ v2_ w_ h_ => ih v0_ v1_ v2_ w_ _ h_ r hx)
def fb_m_summedBy (a0 : Nat) (a1 : Int32) (w : tb_Hp) : Option (Int64 × tb_Hp) := (fl_m_summedBy_2 1048576 a0 a1 0 w).bind fun o15 => some o15
set_option maxHeartbeats 4000000 in
set_option maxRecDepth 20000 in
theorem dc_m_summedBy {a0 : Nat} {a1 : Int32} {w : tb_Hp} {o : Int64 × tb_Hp} (h : fb_m_summedBy a0 a1 w = some o) : tb_Ev tb_P 2 234 (0, tb_ent [.ref a0, .int a1], [], w) (some (.long o.1), o.2) := by
  unfold fb_m_summedBy at h
  obtain ⟨r, hr⟩ : ∃ r : Option Value × tb_Hp, r = (some (.long o.1), o.2) := ⟨_, rfl⟩
  rw [← hr]
  show tb_Ev tb_P 2 234 (0, [(0, .ref a0), (1, .int a1)], [], w) r
  refine tb_Es (k := 3) (st' := (3, [(0, .ref a0), (1, .int a1), (2, .int 0)], [], w)) rfl ?_
  replace h := Option.bind_eq_some_iff.mp h
  obtain ⟨o15, eo15, h⟩ := h
  refine dl_m_summedBy_2 _ a0 a1 0 w _ eo15 r ?_
  obtain rfl := Option.some.inj h
  exact hr
/-! TannerBuntingModel.fade()V -/
def fl_m_fade_2 : Nat → Nat → Int32 → tb_Hp → Option (tb_Hp)
  | 0, _, _, _ => none
  | n + 1, v0, v1, w => (tb_gN 22 20 v0 w).bind fun p1 => (tb_lI [1, 9] p1 11 w).bind fun x2 => (if v1 < x2 then (tb_on 22 v0 w (fb_m_isUp v0 v1 w)).bind fun x3 => (if x3.1 = 0 then fl_m_fade_2 n v0 (v1 + 1) x3.2 else (tb_gN 22 20 v0 x3.2).bind fun p4 => (tb_lI [1, 9] p4 ((42 + (4 * v1)) + 2) x3.2).bind fun x5 => (tb_gN 22 20 v0 x3.2).bind fun p6 => (tb_lI [1, 9] p6 2 x3.2).bind fun x7 => (tb_tI p4 ((42 + (4 * v1)) + 2) (x5 - x7) x3.2).bind fun w8 => (tb_on 22 v0 w8 (fb_m_pullOf v0 v1 w8)).bind fun x9 => (if x9.1 ≤ 0 then (tb_on 22 v0 x9.2 (fb_m_downs v0 v1 x9.2)).bind fun x10 => fl_m_fade_2 n v0 (v1 + 1) x10 else fl_m_fade_2 n v0 (v1 + 1) x9.2)) else some (w))
set_option maxHeartbeats 4000000 in
set_option maxRecDepth 20000 in
theorem dl_m_fade_2 : ∀ (n : Nat) (v0 : Nat) (v1 : Int32) (w : tb_Hp) (o : tb_Hp), fl_m_fade_2 n v0 v1 w = some o → ∀ (r : Option Value × tb_Hp), tb_Ev tb_P 2 242 (41, [], [], o) r → tb_Ev tb_P 2 242 (3, [(0, .ref v0), (1, .int v1)], [], w) r := by
  intro n
  induction n with
  | zero =>
    intro v0 v1 w o h
    cases h
  | succ n ih =>
    intro v0 v1 w o h r hx
    unfold fl_m_fade_2 at h
    refine tb_Es (k := 2) (st' := (5, [(0, .ref v0), (1, .int v1)], [.ref v0, .int v1], w)) rfl ?_
    replace h := Option.bind_eq_some_iff.mp h
    obtain ⟨p1, ep1, h⟩ := h
    refine tb_e_gN rfl ep1 ?_
    refine tb_Es (k := 1) (st' := (7, [(0, .ref v0), (1, .int v1)], [.int 11, .ref p1, .int v1], w)) rfl ?_
    replace h := Option.bind_eq_some_iff.mp h
    obtain ⟨x2, ex2, h⟩ := h
    refine tb_e_lI rfl (Or.inl ⟨rfl, rfl⟩) ex2 ?_
    refine tb_b_cge rfl (fun hc => ?_) (fun hc => ?_)
    · rw [if_pos hc] at h
      refine tb_Es (k := 2) (st' := (11, [(0, .ref v0), (1, .int v1)], [.int v1, .ref v0], w)) rfl ?_
      replace h := Option.bind_eq_some_iff.mp h
      obtain ⟨x3, ex3, h⟩ := h
      obtain ⟨hkx3, hcall⟩ := tb_on_some ex3
      refine tb_e_cv (v := some (.int x3.1)) rfl (Or.inl ⟨_, rfl⟩) rfl rfl (Nat.le_of_ble_eq_true rfl) rfl (Nat.le_of_ble_eq_true rfl) hkx3 ((dc_m_isUp hcall).up (by decide)) ?_
      refine tb_b_ine rfl (fun hc => ?_) (fun hc => ?_)
      · rw [if_pos hc] at h
        refine tb_Es (k := 4) (st' := (3, [(0, .ref v0), (1, .int (v1 + 1))], [], x3.2)) rfl ?_
        exact ih v0 (v1 + 1) x3.2 _ h r hx
      · rw [if_neg hc] at h
        refine tb_Es (k := 1) (st' := (15, [(0, .ref v0), (1, .int v1)], [.ref v0], x3.2)) rfl ?_
        replace h := Option.bind_eq_some_iff.mp h
        obtain ⟨p4, ep4, h⟩ := h
        refine tb_e_gN rfl ep4 ?_
        refine tb_Es (k := 8) (st' := (24, [(0, .ref v0), (1, .int v1)], [.int ((42 + (4 * v1)) + 2), .ref p4, .int ((42 + (4 * v1)) + 2), .ref p4], x3.2)) rfl ?_
        replace h := Option.bind_eq_some_iff.mp h
        obtain ⟨x5, ex5, h⟩ := h
        refine tb_e_lI rfl (Or.inl ⟨rfl, rfl⟩) ex5 ?_
        refine tb_Es (k := 1) (st' := (26, [(0, .ref v0), (1, .int v1)], [.ref v0, .int x5, .int ((42 + (4 * v1)) + 2), .ref p4], x3.2)) rfl ?_
        replace h := Option.bind_eq_some_iff.mp h
        obtain ⟨p6, ep6, h⟩ := h
        refine tb_e_gN rfl ep6 ?_
        refine tb_Es (k := 1) (st' := (28, [(0, .ref v0), (1, .int v1)], [.int 2, .ref p6, .int x5, .int ((42 + (4 * v1)) + 2), .ref p4], x3.2)) rfl ?_
        replace h := Option.bind_eq_some_iff.mp h
        obtain ⟨x7, ex7, h⟩ := h
        refine tb_e_lI rfl (Or.inl ⟨rfl, rfl⟩) ex7 ?_
        refine tb_Es (k := 1) (st' := (30, [(0, .ref v0), (1, .int v1)], [.int (x5 - x7), .int ((42 + (4 * v1)) + 2), .ref p4], x3.2)) rfl ?_
        replace h := Option.bind_eq_some_iff.mp h
        obtain ⟨w8, ew8, h⟩ := h
        refine tb_e_tI rfl ew8 ?_
        refine tb_Es (k := 2) (st' := (33, [(0, .ref v0), (1, .int v1)], [.int v1, .ref v0], w8)) rfl ?_
        replace h := Option.bind_eq_some_iff.mp h
        obtain ⟨x9, ex9, h⟩ := h
        obtain ⟨hkx9, hcall⟩ := tb_on_some ex9
        refine tb_e_cv (v := some (.int x9.1)) rfl (Or.inl ⟨_, rfl⟩) rfl rfl (Nat.le_of_ble_eq_true rfl) rfl (Nat.le_of_ble_eq_true rfl) hkx9 ((dc_m_pullOf hcall).up (by decide)) ?_
        refine tb_b_igt rfl (fun hc => ?_) (fun hc => ?_)
        · rw [if_pos hc] at h
          refine tb_Es (k := 2) (st' := (37, [(0, .ref v0), (1, .int v1)], [.int v1, .ref v0], x9.2)) rfl ?_
          replace h := Option.bind_eq_some_iff.mp h
          obtain ⟨x10, ex10, h⟩ := h
          obtain ⟨hkx10, hcall⟩ := tb_on_some ex10
          refine tb_e_cv (v := none) rfl (Or.inl ⟨_, rfl⟩) rfl rfl (Nat.le_of_ble_eq_true rfl) rfl (Nat.le_of_ble_eq_true rfl) hkx10 ((dc_m_downs hcall).up (by decide)) ?_
          refine tb_Es (k := 3) (st' := (3, [(0, .ref v0), (1, .int (v1 + 1))], [], x10)) rfl ?_
          exact ih v0 (v1 + 1) x10 _ h r hx
        · rw [if_neg hc] at h
          refine tb_Es (k := 3) (st' := (3, [(0, .ref v0), (1, .int (v1 + 1))], [], x9.2)) rfl ?_
          exact ih v0 (v1 + 1) x9.2 _ h r hx
    · rw [if_neg hc] at h
      refine tb_Es (k := 1) (st' := (41, [], [], w)) rfl ?_
      obtain rfl := Option.some.inj h
      exact hx
def fb_m_fade (a0 : Nat) (w : tb_Hp) : Option (tb_Hp) := (fl_m_fade_2 1048576 a0 0 w).bind fun o11 => some o11
set_option maxHeartbeats 4000000 in
set_option maxRecDepth 20000 in
theorem dc_m_fade {a0 : Nat} {w : tb_Hp} {o : tb_Hp} (h : fb_m_fade a0 w = some o) : tb_Ev tb_P 2 242 (0, tb_ent [.ref a0], [], w) (none, o) := by
  unfold fb_m_fade at h
  obtain ⟨r, hr⟩ : ∃ r : Option Value × tb_Hp, r = (none, o) := ⟨_, rfl⟩
  rw [← hr]
  show tb_Ev tb_P 2 242 (0, [(0, .ref a0)], [], w) r
  refine tb_Es (k := 3) (st' := (3, [(0, .ref a0), (1, .int 0)], [], w)) rfl ?_
  replace h := Option.bind_eq_some_iff.mp h
  obtain ⟨o11, eo11, h⟩ := h
  refine dl_m_fade_2 _ a0 0 w _ eo11 r ?_
  obtain rfl := Option.some.inj h
  subst hr
  exact tb_Er rfl rfl
/-! TannerBuntingModel.tighten(II)I -/
def fb_m_tighten (a0 : Nat) (a1 : Int32) (a2 : Int32) (w : tb_Hp) : Option (Int32 × tb_Hp) := (tb_on 22 a0 w (fb_m_isUp a0 a1 w)).bind fun x1 => (if x1.1 = 0 then some (-1, x1.2) else (fb_m_in (Int32.toInt64 a2) 1 9 x1.2).bind fun x2 => (if x2.1 = 0 then some (-1, x2.2) else (tb_on 22 a0 x2.2 (fb_m_keepsAct a0 x2.2)).bind fun x3 => (tb_on 22 a0 x3 (fb_m_pullOf a0 a1 x3)).bind fun x4 => (tb_gN 22 20 a0 x4.2).bind fun p5 => (if 60 < (x4.1 + a2) then (tb_tI p5 ((42 + (4 * a1)) + 2) 60 x4.2).bind fun w6 => (tb_on 22 a0 w6 (fb_m_pullOf a0 a1 w6)).bind fun x7 => some (x7.1, x7.2) else (tb_tI p5 ((42 + (4 * a1)) + 2) (x4.1 + a2) x4.2).bind fun w8 => (tb_on 22 a0 w8 (fb_m_pullOf a0 a1 w8)).bind fun x9 => some (x9.1, x9.2))))
set_option maxHeartbeats 4000000 in
set_option maxRecDepth 20000 in
theorem dc_m_tighten {a0 : Nat} {a1 : Int32} {a2 : Int32} {w : tb_Hp} {o : Int32 × tb_Hp} (h : fb_m_tighten a0 a1 a2 w = some o) : tb_Ev tb_P 2 246 (0, tb_ent [.ref a0, .int a1, .int a2], [], w) (some (.int o.1), o.2) := by
  unfold fb_m_tighten at h
  obtain ⟨r, hr⟩ : ∃ r : Option Value × tb_Hp, r = (some (.int o.1), o.2) := ⟨_, rfl⟩
  rw [← hr]
  show tb_Ev tb_P 2 246 (0, [(0, .ref a0), (1, .int a1), (2, .int a2)], [], w) r
  refine tb_Es (k := 2) (st' := (2, [(0, .ref a0), (1, .int a1), (2, .int a2)], [.int a1, .ref a0], w)) rfl ?_
  replace h := Option.bind_eq_some_iff.mp h
  obtain ⟨x1, ex1, h⟩ := h
  obtain ⟨hkx1, hcall⟩ := tb_on_some ex1
  refine tb_e_cv (v := some (.int x1.1)) rfl (Or.inl ⟨_, rfl⟩) rfl rfl (Nat.le_of_ble_eq_true rfl) rfl (Nat.le_of_ble_eq_true rfl) hkx1 ((dc_m_isUp hcall).up (by decide)) ?_
  refine tb_b_ieq rfl (fun hc => ?_) (fun hc => ?_)
  · rw [if_pos hc] at h
    refine tb_Es (k := 1) (st' := (11, [(0, .ref a0), (1, .int a1), (2, .int a2)], [.int (-1)], x1.2)) rfl ?_
    obtain rfl := Option.some.inj h
    subst hr
    exact tb_Er rfl rfl
  · rw [if_neg hc] at h
    refine tb_Es (k := 4) (st' := (8, [(0, .ref a0), (1, .int a1), (2, .int a2)], [.long 9, .long 1, .long (Int32.toInt64 a2)], x1.2)) rfl ?_
    replace h := Option.bind_eq_some_iff.mp h
    obtain ⟨x2, ex2, h⟩ := h
    have hcall := ex2
    refine tb_e_cs (v := some (.int x2.1)) rfl rfl rfl (Nat.le_of_ble_eq_true rfl) rfl (Nat.le_of_ble_eq_true rfl) ((dc_m_in hcall).up (by decide)) ?_
    refine tb_b_ine rfl (fun hc => ?_) (fun hc => ?_)
    · rw [if_pos hc] at h
      refine tb_Es (k := 1) (st' := (11, [(0, .ref a0), (1, .int a1), (2, .int a2)], [.int (-1)], x2.2)) rfl ?_
      obtain rfl := Option.some.inj h
      subst hr
      exact tb_Er rfl rfl
    · rw [if_neg hc] at h
      refine tb_Es (k := 1) (st' := (13, [(0, .ref a0), (1, .int a1), (2, .int a2)], [.ref a0], x2.2)) rfl ?_
      replace h := Option.bind_eq_some_iff.mp h
      obtain ⟨x3, ex3, h⟩ := h
      obtain ⟨hkx3, hcall⟩ := tb_on_some ex3
      refine tb_e_cv (v := none) rfl (Or.inl ⟨_, rfl⟩) rfl rfl (Nat.le_of_ble_eq_true rfl) rfl (Nat.le_of_ble_eq_true rfl) hkx3 ((dc_m_keepsAct hcall).up (by decide)) ?_
      refine tb_Es (k := 2) (st' := (16, [(0, .ref a0), (1, .int a1), (2, .int a2)], [.int a1, .ref a0], x3)) rfl ?_
      replace h := Option.bind_eq_some_iff.mp h
      obtain ⟨x4, ex4, h⟩ := h
      obtain ⟨hkx4, hcall⟩ := tb_on_some ex4
      refine tb_e_cv (v := some (.int x4.1)) rfl (Or.inl ⟨_, rfl⟩) rfl rfl (Nat.le_of_ble_eq_true rfl) rfl (Nat.le_of_ble_eq_true rfl) hkx4 ((dc_m_pullOf hcall).up (by decide)) ?_
      refine tb_Es (k := 4) (st' := (21, [(3, .int (x4.1 + a2)), (0, .ref a0), (1, .int a1), (2, .int a2)], [.ref a0], x4.2)) rfl ?_
      replace h := Option.bind_eq_some_iff.mp h
      obtain ⟨p5, ep5, h⟩ := h
      refine tb_e_gN rfl ep5 ?_
      refine tb_Es (k := 9) (st' := (31, [(3, .int (x4.1 + a2)), (0, .ref a0), (1, .int a1), (2, .int a2)], [.int 60, .int (x4.1 + a2), .int ((42 + (4 * a1)) + 2), .ref p5], x4.2)) rfl ?_
      refine tb_b_cle rfl (fun hc => ?_) (fun hc => ?_)
      · rw [if_pos hc] at h
        refine tb_Es (k := 2) (st' := (35, [(3, .int (x4.1 + a2)), (0, .ref a0), (1, .int a1), (2, .int a2)], [.int 60, .int ((42 + (4 * a1)) + 2), .ref p5], x4.2)) rfl ?_
        replace h := Option.bind_eq_some_iff.mp h
        obtain ⟨w6, ew6, h⟩ := h
        refine tb_e_tI rfl ew6 ?_
        refine tb_Es (k := 2) (st' := (38, [(3, .int (x4.1 + a2)), (0, .ref a0), (1, .int a1), (2, .int a2)], [.int a1, .ref a0], w6)) rfl ?_
        replace h := Option.bind_eq_some_iff.mp h
        obtain ⟨x7, ex7, h⟩ := h
        obtain ⟨hkx7, hcall⟩ := tb_on_some ex7
        refine tb_e_cv (v := some (.int x7.1)) rfl (Or.inl ⟨_, rfl⟩) rfl rfl (Nat.le_of_ble_eq_true rfl) rfl (Nat.le_of_ble_eq_true rfl) hkx7 ((dc_m_pullOf hcall).up (by decide)) ?_
        obtain rfl := Option.some.inj h
        subst hr
        exact tb_Er rfl rfl
      · rw [if_neg hc] at h
        refine tb_Es (k := 1) (st' := (35, [(3, .int (x4.1 + a2)), (0, .ref a0), (1, .int a1), (2, .int a2)], [.int (x4.1 + a2), .int ((42 + (4 * a1)) + 2), .ref p5], x4.2)) rfl ?_
        replace h := Option.bind_eq_some_iff.mp h
        obtain ⟨w8, ew8, h⟩ := h
        refine tb_e_tI rfl ew8 ?_
        refine tb_Es (k := 2) (st' := (38, [(3, .int (x4.1 + a2)), (0, .ref a0), (1, .int a1), (2, .int a2)], [.int a1, .ref a0], w8)) rfl ?_
        replace h := Option.bind_eq_some_iff.mp h
        obtain ⟨x9, ex9, h⟩ := h
        obtain ⟨hkx9, hcall⟩ := tb_on_some ex9
        refine tb_e_cv (v := some (.int x9.1)) rfl (Or.inl ⟨_, rfl⟩) rfl rfl (Nat.le_of_ble_eq_true rfl) rfl (Nat.le_of_ble_eq_true rfl) hkx9 ((dc_m_pullOf hcall).up (by decide)) ?_
        obtain rfl := Option.some.inj h
        subst hr
        exact tb_Er rfl rfl
/-! TannerBuntingModel.hangs(III)I -/
def fl_m_hangs_2 : Nat → Nat → Int32 → Int32 → Int32 → Int32 → tb_Hp → Option (Nat × Int32 × Int32 × Int32 × Int32 × tb_Hp)
  | 0, _, _, _, _, _, _ => none
  | n + 1, v0, v1, v2, v3, v4, w => (tb_on 22 v0 w (fb_m_isUp v0 v4 w)).bind fun x1 => (if x1.1 = 0 then some ((v0, v1, v2, v3, v4, x1.2)) else fl_m_hangs_2 n v0 v1 v2 v3 (v4 + 1) x1.2)
set_option maxHeartbeats 4000000 in
set_option maxRecDepth 20000 in
theorem dl_m_hangs_2 : ∀ (n : Nat) (v0 : Nat) (v1 : Int32) (v2 : Int32) (v3 : Int32) (v4 : Int32) (w : tb_Hp) (o : Nat × Int32 × Int32 × Int32 × Int32 × tb_Hp), fl_m_hangs_2 n v0 v1 v2 v3 v4 w = some o → ∀ (r : Option Value × tb_Hp), tb_Ev tb_P 2 250 (10, [(0, .ref o.1), (1, .int o.2.1), (2, .int o.2.2.1), (3, .int o.2.2.2.1), (4, .int o.2.2.2.2.1)], [], o.2.2.2.2.2) r → tb_Ev tb_P 2 250 (3, [(0, .ref v0), (1, .int v1), (2, .int v2), (3, .int v3), (4, .int v4)], [], w) r := by
  intro n
  induction n with
  | zero =>
    intro v0 v1 v2 v3 v4 w o h
    cases h
  | succ n ih =>
    intro v0 v1 v2 v3 v4 w o h r hx
    unfold fl_m_hangs_2 at h
    refine tb_Es (k := 2) (st' := (5, [(0, .ref v0), (1, .int v1), (2, .int v2), (3, .int v3), (4, .int v4)], [.int v4, .ref v0], w)) rfl ?_
    replace h := Option.bind_eq_some_iff.mp h
    obtain ⟨x1, ex1, h⟩ := h
    obtain ⟨hkx1, hcall⟩ := tb_on_some ex1
    refine tb_e_cv (v := some (.int x1.1)) rfl (Or.inl ⟨_, rfl⟩) rfl rfl (Nat.le_of_ble_eq_true rfl) rfl (Nat.le_of_ble_eq_true rfl) hkx1 ((dc_m_isUp hcall).up (by decide)) ?_
    refine tb_b_ieq rfl (fun hc => ?_) (fun hc => ?_)
    · rw [if_pos hc] at h
      refine tb_Es (k := 1) (st' := (10, [(0, .ref v0), (1, .int v1), (2, .int v2), (3, .int v3), (4, .int v4)], [], x1.2)) rfl ?_
      obtain rfl := Option.some.inj h
      exact hx
    · rw [if_neg hc] at h
      refine tb_Es (k := 3) (st' := (3, [(0, .ref v0), (1, .int v1), (2, .int v2), (3, .int v3), (4, .int (v4 + 1))], [], x1.2)) rfl ?_
      exact ih v0 v1 v2 v3 (v4 + 1) x1.2 _ h r hx
def fj_m_hangs_j22 (v0 : Nat) (v1 : Int32) (v2 : Int32) (v3 : Int32) (v4 : Int32) (w : tb_Hp) : Option (Int32 × tb_Hp) := (tb_on 22 v0 w (fb_m_ups v0 v4 v1 v2 v3 w)).bind fun x8 => some (v4, x8)
set_option maxHeartbeats 4000000 in
set_option maxRecDepth 20000 in
theorem dj_m_hangs_j22 (v0 : Nat) (v1 : Int32) (v2 : Int32) (v3 : Int32) (v4 : Int32) (w : tb_Hp) (o : Int32 × tb_Hp) (h : fj_m_hangs_j22 v0 v1 v2 v3 v4 w = some o) (r : Option Value × tb_Hp) (hr : r = (some (.int o.1), o.2)) : tb_Ev tb_P 2 250 (25, [(0, .ref v0), (1, .int v1), (2, .int v2), (3, .int v3), (4, .int v4)], [], w) r := by
  unfold fj_m_hangs_j22 at h
  refine tb_Es (k := 5) (st' := (30, [(0, .ref v0), (1, .int v1), (2, .int v2), (3, .int v3), (4, .int v4)], [.int v3, .int v2, .int v1, .int v4, .ref v0], w)) rfl ?_
  replace h := Option.bind_eq_some_iff.mp h
  obtain ⟨x8, ex8, h⟩ := h
  obtain ⟨hkx8, hcall⟩ := tb_on_some ex8
  refine tb_e_cv (v := none) rfl (Or.inl ⟨_, rfl⟩) rfl rfl (Nat.le_of_ble_eq_true rfl) rfl (Nat.le_of_ble_eq_true rfl) hkx8 ((dc_m_ups hcall).up (by decide)) ?_
  refine tb_Es (k := 1) (st' := (32, [(0, .ref v0), (1, .int v1), (2, .int v2), (3, .int v3), (4, .int v4)], [.int v4], x8)) rfl ?_
  obtain rfl := Option.some.inj h
  subst hr
  exact tb_Er rfl rfl
def fb_m_hangs (a0 : Nat) (a1 : Int32) (a2 : Int32) (a3 : Int32) (w : tb_Hp) : Option (Int32 × tb_Hp) := (fl_m_hangs_2 1048576 a0 a1 a2 a3 0 w).bind fun o2 => (tb_gN 22 20 o2.1 o2.2.2.2.2.2).bind fun p3 => (tb_lI [1, 9] p3 11 o2.2.2.2.2.2).bind fun x4 => (if o2.2.2.2.2.1 = x4 then (tb_gN 22 20 o2.1 o2.2.2.2.2.2).bind fun p5 => (tb_lI [1, 9] p5 11 o2.2.2.2.2.2).bind fun x6 => (tb_tI p5 11 (x6 + 1) o2.2.2.2.2.2).bind fun w7 => fj_m_hangs_j22 o2.1 o2.2.1 o2.2.2.1 o2.2.2.2.1 o2.2.2.2.2.1 w7 else fj_m_hangs_j22 o2.1 o2.2.1 o2.2.2.1 o2.2.2.2.1 o2.2.2.2.2.1 o2.2.2.2.2.2)
set_option maxHeartbeats 4000000 in
set_option maxRecDepth 20000 in
theorem dc_m_hangs {a0 : Nat} {a1 : Int32} {a2 : Int32} {a3 : Int32} {w : tb_Hp} {o : Int32 × tb_Hp} (h : fb_m_hangs a0 a1 a2 a3 w = some o) : tb_Ev tb_P 2 250 (0, tb_ent [.ref a0, .int a1, .int a2, .int a3], [], w) (some (.int o.1), o.2) := by
  unfold fb_m_hangs at h
  obtain ⟨r, hr⟩ : ∃ r : Option Value × tb_Hp, r = (some (.int o.1), o.2) := ⟨_, rfl⟩
  rw [← hr]
  show tb_Ev tb_P 2 250 (0, [(0, .ref a0), (1, .int a1), (2, .int a2), (3, .int a3)], [], w) r
  refine tb_Es (k := 3) (st' := (3, [(0, .ref a0), (1, .int a1), (2, .int a2), (3, .int a3), (4, .int 0)], [], w)) rfl ?_
  replace h := Option.bind_eq_some_iff.mp h
  obtain ⟨o2, eo2, h⟩ := h
  refine dl_m_hangs_2 _ a0 a1 a2 a3 0 w _ eo2 r ?_
  refine tb_Es (k := 2) (st' := (12, [(0, .ref o2.1), (1, .int o2.2.1), (2, .int o2.2.2.1), (3, .int o2.2.2.2.1), (4, .int o2.2.2.2.2.1)], [.ref o2.1, .int o2.2.2.2.2.1], o2.2.2.2.2.2)) rfl ?_
  replace h := Option.bind_eq_some_iff.mp h
  obtain ⟨p3, ep3, h⟩ := h
  refine tb_e_gN rfl ep3 ?_
  refine tb_Es (k := 1) (st' := (14, [(0, .ref o2.1), (1, .int o2.2.1), (2, .int o2.2.2.1), (3, .int o2.2.2.2.1), (4, .int o2.2.2.2.2.1)], [.int 11, .ref p3, .int o2.2.2.2.2.1], o2.2.2.2.2.2)) rfl ?_
  replace h := Option.bind_eq_some_iff.mp h
  obtain ⟨x4, ex4, h⟩ := h
  refine tb_e_lI rfl (Or.inl ⟨rfl, rfl⟩) ex4 ?_
  refine tb_b_cne rfl (fun hc => ?_) (fun hc => ?_)
  · rw [if_pos hc] at h
    refine tb_Es (k := 1) (st' := (17, [(0, .ref o2.1), (1, .int o2.2.1), (2, .int o2.2.2.1), (3, .int o2.2.2.2.1), (4, .int o2.2.2.2.2.1)], [.ref o2.1], o2.2.2.2.2.2)) rfl ?_
    replace h := Option.bind_eq_some_iff.mp h
    obtain ⟨p5, ep5, h⟩ := h
    refine tb_e_gN rfl ep5 ?_
    refine tb_Es (k := 2) (st' := (20, [(0, .ref o2.1), (1, .int o2.2.1), (2, .int o2.2.2.1), (3, .int o2.2.2.2.1), (4, .int o2.2.2.2.2.1)], [.int 11, .ref p5, .int 11, .ref p5], o2.2.2.2.2.2)) rfl ?_
    replace h := Option.bind_eq_some_iff.mp h
    obtain ⟨x6, ex6, h⟩ := h
    refine tb_e_lI rfl (Or.inl ⟨rfl, rfl⟩) ex6 ?_
    refine tb_Es (k := 2) (st' := (23, [(0, .ref o2.1), (1, .int o2.2.1), (2, .int o2.2.2.1), (3, .int o2.2.2.2.1), (4, .int o2.2.2.2.2.1)], [.int (x6 + 1), .int 11, .ref p5], o2.2.2.2.2.2)) rfl ?_
    replace h := Option.bind_eq_some_iff.mp h
    obtain ⟨w7, ew7, h⟩ := h
    refine tb_e_tI rfl ew7 ?_
    refine tb_Es (k := 1) (st' := (25, [(0, .ref o2.1), (1, .int o2.2.1), (2, .int o2.2.2.1), (3, .int o2.2.2.2.1), (4, .int o2.2.2.2.2.1)], [], w7)) rfl ?_
    exact dj_m_hangs_j22 o2.1 o2.2.1 o2.2.2.1 o2.2.2.2.1 o2.2.2.2.2.1 w7 _ h r hr
  · rw [if_neg hc] at h
    refine tb_Es (k := 1) (st' := (25, [(0, .ref o2.1), (1, .int o2.2.1), (2, .int o2.2.2.1), (3, .int o2.2.2.2.1), (4, .int o2.2.2.2.2.1)], [], o2.2.2.2.2.2)) rfl ?_
    exact dj_m_hangs_j22 o2.1 o2.2.1 o2.2.2.1 o2.2.2.2.1 o2.2.2.2.2.1 o2.2.2.2.2.2 _ h r hr
/-! TannerBuntingModel.pullAll()I -/
def fl_m_pullAll_4 : Nat → Nat → Int32 → Int32 → tb_Hp → Option (Int32 × tb_Hp)
  | 0, _, _, _, _ => none
  | n + 1, v0, v1, v2, w => (tb_gN 22 20 v0 w).bind fun p1 => (tb_lI [1, 9] p1 11 w).bind fun x2 => (if v2 < x2 then (tb_on 22 v0 w (fb_m_isUp v0 v2 w)).bind fun x3 => (if x3.1 = 0 then fl_m_pullAll_4 n v0 (v1 + 0) (v2 + 1) x3.2 else (tb_on 22 v0 x3.2 (fb_m_pullOf v0 v2 x3.2)).bind fun x4 => fl_m_pullAll_4 n v0 (v1 + x4.1) (v2 + 1) x4.2) else some ((v1, w)))
set_option maxHeartbeats 4000000 in
set_option maxRecDepth 20000 in
theorem dl_m_pullAll_4 : ∀ (n : Nat) (v0 : Nat) (v1 : Int32) (v2 : Int32) (w : tb_Hp) (o : Int32 × tb_Hp), fl_m_pullAll_4 n v0 v1 v2 w = some o → ∀ (r : Option Value × tb_Hp), tb_Ev tb_P 2 255 (26, [(1, .int o.1)], [], o.2) r → tb_Ev tb_P 2 255 (5, [(0, .ref v0), (1, .int v1), (2, .int v2)], [], w) r := by
  intro n
  induction n with
  | zero =>
    intro v0 v1 v2 w o h
    cases h
  | succ n ih =>
    intro v0 v1 v2 w o h r hx
    unfold fl_m_pullAll_4 at h
    refine tb_Es (k := 2) (st' := (7, [(0, .ref v0), (1, .int v1), (2, .int v2)], [.ref v0, .int v2], w)) rfl ?_
    replace h := Option.bind_eq_some_iff.mp h
    obtain ⟨p1, ep1, h⟩ := h
    refine tb_e_gN rfl ep1 ?_
    refine tb_Es (k := 1) (st' := (9, [(0, .ref v0), (1, .int v1), (2, .int v2)], [.int 11, .ref p1, .int v2], w)) rfl ?_
    replace h := Option.bind_eq_some_iff.mp h
    obtain ⟨x2, ex2, h⟩ := h
    refine tb_e_lI rfl (Or.inl ⟨rfl, rfl⟩) ex2 ?_
    refine tb_b_cge rfl (fun hc => ?_) (fun hc => ?_)
    · rw [if_pos hc] at h
      refine tb_Es (k := 3) (st' := (14, [(0, .ref v0), (1, .int v1), (2, .int v2)], [.int v2, .ref v0, .int v1], w)) rfl ?_
      replace h := Option.bind_eq_some_iff.mp h
      obtain ⟨x3, ex3, h⟩ := h
      obtain ⟨hkx3, hcall⟩ := tb_on_some ex3
      refine tb_e_cv (v := some (.int x3.1)) rfl (Or.inl ⟨_, rfl⟩) rfl rfl (Nat.le_of_ble_eq_true rfl) rfl (Nat.le_of_ble_eq_true rfl) hkx3 ((dc_m_isUp hcall).up (by decide)) ?_
      refine tb_b_ieq rfl (fun hc => ?_) (fun hc => ?_)
      · rw [if_pos hc] at h
        refine tb_Es (k := 6) (st' := (5, [(0, .ref v0), (1, .int (v1 + 0)), (2, .int (v2 + 1))], [], x3.2)) rfl ?_
        exact ih v0 (v1 + 0) (v2 + 1) x3.2 _ h r hx
      · rw [if_neg hc] at h
        refine tb_Es (k := 2) (st' := (18, [(0, .ref v0), (1, .int v1), (2, .int v2)], [.int v2, .ref v0, .int v1], x3.2)) rfl ?_
        replace h := Option.bind_eq_some_iff.mp h
        obtain ⟨x4, ex4, h⟩ := h
        obtain ⟨hkx4, hcall⟩ := tb_on_some ex4
        refine tb_e_cv (v := some (.int x4.1)) rfl (Or.inl ⟨_, rfl⟩) rfl rfl (Nat.le_of_ble_eq_true rfl) rfl (Nat.le_of_ble_eq_true rfl) hkx4 ((dc_m_pullOf hcall).up (by decide)) ?_
        refine tb_Es (k := 6) (st' := (5, [(0, .ref v0), (1, .int (v1 + x4.1)), (2, .int (v2 + 1))], [], x4.2)) rfl ?_
        exact ih v0 (v1 + x4.1) (v2 + 1) x4.2 _ h r hx
    · rw [if_neg hc] at h
      refine tb_Es (k := 1) (st' := (26, [(1, .int v1)], [], w)) rfl ?_
      obtain rfl := Option.some.inj h
      exact hx
def fb_m_pullAll (a0 : Nat) (w : tb_Hp) : Option (Int32 × tb_Hp) := (fl_m_pullAll_4 1048576 a0 0 0 w).bind fun o5 => some (o5.1, o5.2)
set_option maxHeartbeats 4000000 in
set_option maxRecDepth 20000 in
theorem dc_m_pullAll {a0 : Nat} {w : tb_Hp} {o : Int32 × tb_Hp} (h : fb_m_pullAll a0 w = some o) : tb_Ev tb_P 2 255 (0, tb_ent [.ref a0], [], w) (some (.int o.1), o.2) := by
  unfold fb_m_pullAll at h
  obtain ⟨r, hr⟩ : ∃ r : Option Value × tb_Hp, r = (some (.int o.1), o.2) := ⟨_, rfl⟩
  rw [← hr]
  show tb_Ev tb_P 2 255 (0, [(0, .ref a0)], [], w) r
  refine tb_Es (k := 5) (st' := (5, [(0, .ref a0), (1, .int 0), (2, .int 0)], [], w)) rfl ?_
  replace h := Option.bind_eq_some_iff.mp h
  obtain ⟨o5, eo5, h⟩ := h
  refine dl_m_pullAll_4 _ a0 0 0 w _ eo5 r ?_
  refine tb_Es (k := 1) (st' := (27, [(1, .int o5.1)], [.int o5.1], o5.2)) rfl ?_
  obtain rfl := Option.some.inj h
  subst hr
  exact tb_Er rfl rfl
/-! TannerBuntingModel.joined(I)I -/
def fj_m_joined_j29 (k : Nat → Int32 → Int32 → Int32 → tb_Hp → Option (Int32 × tb_Hp)) (v0 : Nat) (v1 : Int32) (v2 : Int32) (v3 : Int32) (w : tb_Hp) : Option (Int32 × tb_Hp) := (tb_on 22 v0 w (fb_m_evenOf v0 v3 w)).bind fun x6 => (fb_m_isOf v1 x6.1 x6.2).bind fun x7 => (if x7.1 = 0 then k v0 v1 v2 (v3 + 1) x7.2 else (tb_on 22 v0 x7.2 (fb_m_oddOf v0 v3 x7.2)).bind fun x8 => k v0 v1 (v2 ||| (1 <<< (x8.1 &&& 31))) (v3 + 1) x8.2)
set_option maxHeartbeats 4000000 in
set_option maxRecDepth 20000 in
theorem dj_m_joined_j29 (k : Nat → Int32 → Int32 → Int32 → tb_Hp → Option (Int32 × tb_Hp)) (v0 : Nat) (v1 : Int32) (v2 : Int32) (v3 : Int32) (w : tb_Hp) (o : Int32 × tb_Hp) (h : fj_m_joined_j29 k v0 v1 v2 v3 w = some o) (r : Option Value × tb_Hp) (hx : tb_Ev tb_P 2 269 (48, [(2, .int o.1)], [], o.2) r) (hk : ∀ (v0 : Nat) (v1 : Int32) (v2 : Int32) (v3 : Int32) (w : tb_Hp), k v0 v1 v2 v3 w = some o → tb_Ev tb_P 2 269 (5, [(0, .ref v0), (1, .int v1), (2, .int v2), (3, .int v3)], [], w) r) : tb_Ev tb_P 2 269 (31, [(0, .ref v0), (1, .int v1), (2, .int v2), (3, .int v3)], [], w) r := by
  unfold fj_m_joined_j29 at h
  refine tb_Es (k := 3) (st' := (34, [(0, .ref v0), (1, .int v1), (2, .int v2), (3, .int v3)], [.int v3, .ref v0, .int v1], w)) rfl ?_
  replace h := Option.bind_eq_some_iff.mp h
  obtain ⟨x6, ex6, h⟩ := h
  obtain ⟨hkx6, hcall⟩ := tb_on_some ex6
  refine tb_e_cv (v := some (.int x6.1)) rfl (Or.inl ⟨_, rfl⟩) rfl rfl (Nat.le_of_ble_eq_true rfl) rfl (Nat.le_of_ble_eq_true rfl) hkx6 ((dc_m_evenOf hcall).up (by decide)) ?_
  replace h := Option.bind_eq_some_iff.mp h
  obtain ⟨x7, ex7, h⟩ := h
  have hcall := ex7
  refine tb_e_cs (v := some (.int x7.1)) rfl rfl rfl (Nat.le_of_ble_eq_true rfl) rfl (Nat.le_of_ble_eq_true rfl) ((dc_m_isOf hcall).up (by decide)) ?_
  refine tb_b_ieq rfl (fun hc => ?_) (fun hc => ?_)
  · rw [if_pos hc] at h
    refine tb_Es (k := 3) (st' := (5, [(0, .ref v0), (1, .int v1), (2, .int v2), (3, .int (v3 + 1))], [], x7.2)) rfl ?_
    exact hk v0 v1 v2 (v3 + 1) x7.2 h
  · rw [if_neg hc] at h
    refine tb_Es (k := 4) (st' := (41, [(0, .ref v0), (1, .int v1), (2, .int v2), (3, .int v3)], [.int v3, .ref v0, .int 1, .int v2], x7.2)) rfl ?_
    replace h := Option.bind_eq_some_iff.mp h
    obtain ⟨x8, ex8, h⟩ := h
    obtain ⟨hkx8, hcall⟩ := tb_on_some ex8
    refine tb_e_cv (v := some (.int x8.1)) rfl (Or.inl ⟨_, rfl⟩) rfl rfl (Nat.le_of_ble_eq_true rfl) rfl (Nat.le_of_ble_eq_true rfl) hkx8 ((dc_m_oddOf hcall).up (by decide)) ?_
    refine tb_Es (k := 6) (st' := (5, [(0, .ref v0), (1, .int v1), (2, .int (v2 ||| (1 <<< (x8.1 &&& 31)))), (3, .int (v3 + 1))], [], x8.2)) rfl ?_
    exact hk v0 v1 (v2 ||| (1 <<< (x8.1 &&& 31))) (v3 + 1) x8.2 h
def fl_m_joined_4 : Nat → Nat → Int32 → Int32 → Int32 → tb_Hp → Option (Int32 × tb_Hp)
  | 0, _, _, _, _, _ => none
  | n + 1, v0, v1, v2, v3, w => (tb_gN 22 20 v0 w).bind fun p1 => (tb_lI [1, 9] p1 11 w).bind fun x2 => (if v3 < x2 then (tb_on 22 v0 w (fb_m_isUp v0 v3 w)).bind fun x3 => (if x3.1 = 0 then fl_m_joined_4 n v0 v1 v2 (v3 + 1) x3.2 else (tb_on 22 v0 x3.2 (fb_m_oddOf v0 v3 x3.2)).bind fun x4 => (fb_m_isOf v1 x4.1 x4.2).bind fun x5 => (if x5.1 = 0 then fj_m_joined_j29 (fl_m_joined_4 n) v0 v1 v2 v3 x5.2 else (tb_on 22 v0 x5.2 (fb_m_evenOf v0 v3 x5.2)).bind fun x9 => fj_m_joined_j29 (fl_m_joined_4 n) v0 v1 (v2 ||| (1 <<< (x9.1 &&& 31))) v3 x9.2)) else some ((v2, w)))
set_option maxHeartbeats 4000000 in
set_option maxRecDepth 20000 in
theorem dl_m_joined_4 : ∀ (n : Nat) (v0 : Nat) (v1 : Int32) (v2 : Int32) (v3 : Int32) (w : tb_Hp) (o : Int32 × tb_Hp), fl_m_joined_4 n v0 v1 v2 v3 w = some o → ∀ (r : Option Value × tb_Hp), tb_Ev tb_P 2 269 (48, [(2, .int o.1)], [], o.2) r → tb_Ev tb_P 2 269 (5, [(0, .ref v0), (1, .int v1), (2, .int v2), (3, .int v3)], [], w) r := by
  intro n
  induction n with
  | zero =>
    intro v0 v1 v2 v3 w o h
    cases h
  | succ n ih =>
    intro v0 v1 v2 v3 w o h r hx
    unfold fl_m_joined_4 at h
    refine tb_Es (k := 2) (st' := (7, [(0, .ref v0), (1, .int v1), (2, .int v2), (3, .int v3)], [.ref v0, .int v3], w)) rfl ?_
    replace h := Option.bind_eq_some_iff.mp h
    obtain ⟨p1, ep1, h⟩ := h
    refine tb_e_gN rfl ep1 ?_
    refine tb_Es (k := 1) (st' := (9, [(0, .ref v0), (1, .int v1), (2, .int v2), (3, .int v3)], [.int 11, .ref p1, .int v3], w)) rfl ?_
    replace h := Option.bind_eq_some_iff.mp h
    obtain ⟨x2, ex2, h⟩ := h
    refine tb_e_lI rfl (Or.inl ⟨rfl, rfl⟩) ex2 ?_
    refine tb_b_cge rfl (fun hc => ?_) (fun hc => ?_)
    · rw [if_pos hc] at h
      refine tb_Es (k := 2) (st' := (13, [(0, .ref v0), (1, .int v1), (2, .int v2), (3, .int v3)], [.int v3, .ref v0], w)) rfl ?_
      replace h := Option.bind_eq_some_iff.mp h
      obtain ⟨x3, ex3, h⟩ := h
      obtain ⟨hkx3, hcall⟩ := tb_on_some ex3
      refine tb_e_cv (v := some (.int x3.1)) rfl (Or.inl ⟨_, rfl⟩) rfl rfl (Nat.le_of_ble_eq_true rfl) rfl (Nat.le_of_ble_eq_true rfl) hkx3 ((dc_m_isUp hcall).up (by decide)) ?_
      refine tb_b_ine rfl (fun hc => ?_) (fun hc => ?_)
      · rw [if_pos hc] at h
        refine tb_Es (k := 4) (st' := (5, [(0, .ref v0), (1, .int v1), (2, .int v2), (3, .int (v3 + 1))], [], x3.2)) rfl ?_
        exact ih v0 v1 v2 (v3 + 1) x3.2 _ h r hx
      · rw [if_neg hc] at h
        refine tb_Es (k := 3) (st' := (19, [(0, .ref v0), (1, .int v1), (2, .int v2), (3, .int v3)], [.int v3, .ref v0, .int v1], x3.2)) rfl ?_
        replace h := Option.bind_eq_some_iff.mp h
        obtain ⟨x4, ex4, h⟩ := h
        obtain ⟨hkx4, hcall⟩ := tb_on_some ex4
        refine tb_e_cv (v := some (.int x4.1)) rfl (Or.inl ⟨_, rfl⟩) rfl rfl (Nat.le_of_ble_eq_true rfl) rfl (Nat.le_of_ble_eq_true rfl) hkx4 ((dc_m_oddOf hcall).up (by decide)) ?_
        replace h := Option.bind_eq_some_iff.mp h
        obtain ⟨x5, ex5, h⟩ := h
        have hcall := ex5
        refine tb_e_cs (v := some (.int x5.1)) rfl rfl rfl (Nat.le_of_ble_eq_true rfl) rfl (Nat.le_of_ble_eq_true rfl) ((dc_m_isOf hcall).up (by decide)) ?_
        refine tb_b_ieq rfl (fun hc => ?_) (fun hc => ?_)
        · rw [if_pos hc] at h
          refine tb_Es (k := 1) (st' := (31, [(0, .ref v0), (1, .int v1), (2, .int v2), (3, .int v3)], [], x5.2)) rfl ?_
          exact dj_m_joined_j29 (fl_m_joined_4 n) v0 v1 v2 v3 x5.2 _ h r hx (fun v0_ v1_ v2_ v3_ w_ h_ => ih v0_ v1_ v2_ v3_ w_ _ h_ r hx)
        · rw [if_neg hc] at h
          refine tb_Es (k := 4) (st' := (26, [(0, .ref v0), (1, .int v1), (2, .int v2), (3, .int v3)], [.int v3, .ref v0, .int 1, .int v2], x5.2)) rfl ?_
          replace h := Option.bind_eq_some_iff.mp h
          obtain ⟨x9, ex9, h⟩ := h
          obtain ⟨hkx9, hcall⟩ := tb_on_some ex9
          refine tb_e_cv (v := some (.int x9.1)) rfl (Or.inl ⟨_, rfl⟩) rfl rfl (Nat.le_of_ble_eq_true rfl) rfl (Nat.le_of_ble_eq_true rfl) hkx9 ((dc_m_evenOf hcall).up (by decide)) ?_
          refine tb_Es (k := 4) (st' := (31, [(0, .ref v0), (1, .int v1), (2, .int (v2 ||| (1 <<< (x9.1 &&& 31)))), (3, .int v3)], [], x9.2)) rfl ?_
          exact dj_m_joined_j29 (fl_m_joined_4 n) v0 v1 (v2 ||| (1 <<< (x9.1 &&& 31))) v3 x9.2 _ h r hx (fun v0_ v1_ v2_ v3_ w_ h_ => ih v0_ v1_ v2_ v3_ w_ _ h_ r hx)
    · rw [if_neg hc] at h
      refine tb_Es (k := 1) (st' := (48, [(2, .int v2)], [], w)) rfl ?_
      obtain rfl := Option.some.inj h
      exact hx
def fb_m_joined (a0 : Nat) (a1 : Int32) (w : tb_Hp) : Option (Int32 × tb_Hp) := (fl_m_joined_4 1048576 a0 a1 a1 0 w).bind fun o10 => some (o10.1, o10.2)
set_option maxHeartbeats 4000000 in
set_option maxRecDepth 20000 in
theorem dc_m_joined {a0 : Nat} {a1 : Int32} {w : tb_Hp} {o : Int32 × tb_Hp} (h : fb_m_joined a0 a1 w = some o) : tb_Ev tb_P 2 269 (0, tb_ent [.ref a0, .int a1], [], w) (some (.int o.1), o.2) := by
  unfold fb_m_joined at h
  obtain ⟨r, hr⟩ : ∃ r : Option Value × tb_Hp, r = (some (.int o.1), o.2) := ⟨_, rfl⟩
  rw [← hr]
  show tb_Ev tb_P 2 269 (0, [(0, .ref a0), (1, .int a1)], [], w) r
  refine tb_Es (k := 5) (st' := (5, [(0, .ref a0), (1, .int a1), (2, .int a1), (3, .int 0)], [], w)) rfl ?_
  replace h := Option.bind_eq_some_iff.mp h
  obtain ⟨o10, eo10, h⟩ := h
  refine dl_m_joined_4 _ a0 a1 a1 0 w _ eo10 r ?_
  refine tb_Es (k := 1) (st' := (49, [(2, .int o10.1)], [.int o10.1], o10.2)) rfl ?_
  obtain rfl := Option.some.inj h
  subst hr
  exact tb_Er rfl rfl
/-! TannerBuntingModel.isJoined(II)Z -/
def fj_m_isJoined_j22 (k : Nat → Int32 → Int32 → Int32 → tb_Hp → Option (Int32 × tb_Hp)) (w : tb_Hp) : Option (Int32 × tb_Hp) := some ((1, w))
set_option maxHeartbeats 4000000 in
set_option maxRecDepth 20000 in
theorem dj_m_isJoined_j22 (k : Nat → Int32 → Int32 → Int32 → tb_Hp → Option (Int32 × tb_Hp)) (w : tb_Hp) (o : Int32 × tb_Hp) (h : fj_m_isJoined_j22 k  w = some o) (r : Option Value × tb_Hp) (hx : r = (some (.int o.1), o.2)) (hk : ∀ (v0 : Nat) (v1 : Int32) (v2 : Int32) (v3 : Int32) (w : tb_Hp), k v0 v1 v2 v3 w = some o → tb_Ev tb_P 2 277 (3, [(0, .ref v0), (1, .int v1), (2, .int v2), (3, .int v3)], [], w) r) : tb_Ev tb_P 2 277 (24, [], [], w) r := by
  unfold fj_m_isJoined_j22 at h
  refine tb_Es (k := 1) (st' := (25, [], [.int 1], w)) rfl ?_
  obtain rfl := Option.some.inj h
  replace hx : r = _ := hx
  subst hx
  exact tb_Er rfl rfl
def fj_m_isJoined_j26 (k : Nat → Int32 → Int32 → Int32 → tb_Hp → Option (Int32 × tb_Hp)) (w : tb_Hp) : Option (Int32 × tb_Hp) := some ((0, w))
set_option maxHeartbeats 4000000 in
set_option maxRecDepth 20000 in
theorem dj_m_isJoined_j26 (k : Nat → Int32 → Int32 → Int32 → tb_Hp → Option (Int32 × tb_Hp)) (w : tb_Hp) (o : Int32 × tb_Hp) (h : fj_m_isJoined_j26 k  w = some o) (r : Option Value × tb_Hp) (hx : r = (some (.int o.1), o.2)) (hk : ∀ (v0 : Nat) (v1 : Int32) (v2 : Int32) (v3 : Int32) (w : tb_Hp), k v0 v1 v2 v3 w = some o → tb_Ev tb_P 2 277 (3, [(0, .ref v0), (1, .int v1), (2, .int v2), (3, .int v3)], [], w) r) : tb_Ev tb_P 2 277 (29, [], [], w) r := by
  unfold fj_m_isJoined_j26 at h
  refine tb_Es (k := 1) (st' := (30, [], [.int 0], w)) rfl ?_
  obtain rfl := Option.some.inj h
  replace hx : r = _ := hx
  subst hx
  exact tb_Er rfl rfl
def fl_m_isJoined_2 : Nat → Nat → Int32 → Int32 → Int32 → tb_Hp → Option (Int32 × tb_Hp)
  | 0, _, _, _, _, _ => none
  | n + 1, v0, v1, v2, v3, w => (tb_gN 22 20 v0 w).bind fun p1 => (tb_lI [1, 9] p1 11 w).bind fun x2 => (if v3 < x2 then (tb_on 22 v0 w (fb_m_isUp v0 v3 w)).bind fun x3 => (if x3.1 = 0 then fl_m_isJoined_2 n v0 v1 v2 (v3 + 1) x3.2 else (tb_on 22 v0 x3.2 (fb_m_oddOf v0 v3 x3.2)).bind fun x4 => (if x4.1 = v1 then (tb_on 22 v0 x4.2 (fb_m_evenOf v0 v3 x4.2)).bind fun x5 => (if x5.1 = v2 then fj_m_isJoined_j22 (fl_m_isJoined_2 n)  x5.2 else fl_m_isJoined_2 n v0 v1 v2 (v3 + 1) x5.2) else fl_m_isJoined_2 n v0 v1 v2 (v3 + 1) x4.2)) else fj_m_isJoined_j26 (fl_m_isJoined_2 n)  w)
set_option maxHeartbeats 4000000 in
set_option maxRecDepth 20000 in
theorem dl_m_isJoined_2 : ∀ (n : Nat) (v0 : Nat) (v1 : Int32) (v2 : Int32) (v3 : Int32) (w : tb_Hp) (o : Int32 × tb_Hp), fl_m_isJoined_2 n v0 v1 v2 v3 w = some o → ∀ (r : Option Value × tb_Hp), r = (some (.int o.1), o.2) → tb_Ev tb_P 2 277 (3, [(0, .ref v0), (1, .int v1), (2, .int v2), (3, .int v3)], [], w) r := by
  intro n
  induction n with
  | zero =>
    intro v0 v1 v2 v3 w o h
    cases h
  | succ n ih =>
    intro v0 v1 v2 v3 w o h r hx
    unfold fl_m_isJoined_2 at h
    refine tb_Es (k := 2) (st' := (5, [(0, .ref v0), (1, .int v1), (2, .int v2), (3, .int v3)], [.ref v0, .int v3], w)) rfl ?_
    replace h := Option.bind_eq_some_iff.mp h
    obtain ⟨p1, ep1, h⟩ := h
    refine tb_e_gN rfl ep1 ?_
    refine tb_Es (k := 1) (st' := (7, [(0, .ref v0), (1, .int v1), (2, .int v2), (3, .int v3)], [.int 11, .ref p1, .int v3], w)) rfl ?_
    replace h := Option.bind_eq_some_iff.mp h
    obtain ⟨x2, ex2, h⟩ := h
    refine tb_e_lI rfl (Or.inl ⟨rfl, rfl⟩) ex2 ?_
    refine tb_b_cge rfl (fun hc => ?_) (fun hc => ?_)
    · rw [if_pos hc] at h
      refine tb_Es (k := 2) (st' := (11, [(0, .ref v0), (1, .int v1), (2, .int v2), (3, .int v3)], [.int v3, .ref v0], w)) rfl ?_
      replace h := Option.bind_eq_some_iff.mp h
      obtain ⟨x3, ex3, h⟩ := h
      obtain ⟨hkx3, hcall⟩ := tb_on_some ex3
      refine tb_e_cv (v := some (.int x3.1)) rfl (Or.inl ⟨_, rfl⟩) rfl rfl (Nat.le_of_ble_eq_true rfl) rfl (Nat.le_of_ble_eq_true rfl) hkx3 ((dc_m_isUp hcall).up (by decide)) ?_
      refine tb_b_ieq rfl (fun hc => ?_) (fun hc => ?_)
      · rw [if_pos hc] at h
        refine tb_Es (k := 3) (st' := (3, [(0, .ref v0), (1, .int v1), (2, .int v2), (3, .int (v3 + 1))], [], x3.2)) rfl ?_
        exact ih v0 v1 v2 (v3 + 1) x3.2 _ h r hx
      · rw [if_neg hc] at h
        refine tb_Es (k := 2) (st' := (15, [(0, .ref v0), (1, .int v1), (2, .int v2), (3, .int v3)], [.int v3, .ref v0], x3.2)) rfl ?_
        replace h := Option.bind_eq_some_iff.mp h
        obtain ⟨x4, ex4, h⟩ := h
        obtain ⟨hkx4, hcall⟩ := tb_on_some ex4
        refine tb_e_cv (v := some (.int x4.1)) rfl (Or.inl ⟨_, rfl⟩) rfl rfl (Nat.le_of_ble_eq_true rfl) rfl (Nat.le_of_ble_eq_true rfl) hkx4 ((dc_m_oddOf hcall).up (by decide)) ?_
        refine tb_Es (k := 1) (st' := (17, [(0, .ref v0), (1, .int v1), (2, .int v2), (3, .int v3)], [.int v1, .int x4.1], x4.2)) rfl ?_
        refine tb_b_cne rfl (fun hc => ?_) (fun hc => ?_)
        · rw [if_pos hc] at h
          refine tb_Es (k := 2) (st' := (20, [(0, .ref v0), (1, .int v1), (2, .int v2), (3, .int v3)], [.int v3, .ref v0], x4.2)) rfl ?_
          replace h := Option.bind_eq_some_iff.mp h
          obtain ⟨x5, ex5, h⟩ := h
          obtain ⟨hkx5, hcall⟩ := tb_on_some ex5
          refine tb_e_cv (v := some (.int x5.1)) rfl (Or.inl ⟨_, rfl⟩) rfl rfl (Nat.le_of_ble_eq_true rfl) rfl (Nat.le_of_ble_eq_true rfl) hkx5 ((dc_m_evenOf hcall).up (by decide)) ?_
          refine tb_Es (k := 1) (st' := (22, [(0, .ref v0), (1, .int v1), (2, .int v2), (3, .int v3)], [.int v2, .int x5.1], x5.2)) rfl ?_
          refine tb_b_cne rfl (fun hc => ?_) (fun hc => ?_)
          · rw [if_pos hc] at h
            refine tb_Es (k := 1) (st' := (24, [], [], x5.2)) rfl ?_
            exact dj_m_isJoined_j22 (fl_m_isJoined_2 n)  x5.2 _ h r hx (fun v0_ v1_ v2_ v3_ w_ h_ => ih v0_ v1_ v2_ v3_ w_ _ h_ r hx)
          · rw [if_neg hc] at h
            refine tb_Es (k := 3) (st' := (3, [(0, .ref v0), (1, .int v1), (2, .int v2), (3, .int (v3 + 1))], [], x5.2)) rfl ?_
            exact ih v0 v1 v2 (v3 + 1) x5.2 _ h r hx
        · rw [if_neg hc] at h
          refine tb_Es (k := 3) (st' := (3, [(0, .ref v0), (1, .int v1), (2, .int v2), (3, .int (v3 + 1))], [], x4.2)) rfl ?_
          exact ih v0 v1 v2 (v3 + 1) x4.2 _ h r hx
    · rw [if_neg hc] at h
      refine tb_Es (k := 1) (st' := (29, [], [], w)) rfl ?_
      exact dj_m_isJoined_j26 (fl_m_isJoined_2 n)  w _ h r hx (fun v0_ v1_ v2_ v3_ w_ h_ => ih v0_ v1_ v2_ v3_ w_ _ h_ r hx)
def fb_m_isJoined (a0 : Nat) (a1 : Int32) (a2 : Int32) (w : tb_Hp) : Option (Int32 × tb_Hp) := (fl_m_isJoined_2 1048576 a0 a1 a2 0 w).bind fun o6 => some o6
set_option maxHeartbeats 4000000 in
set_option maxRecDepth 20000 in
theorem dc_m_isJoined {a0 : Nat} {a1 : Int32} {a2 : Int32} {w : tb_Hp} {o : Int32 × tb_Hp} (h : fb_m_isJoined a0 a1 a2 w = some o) : tb_Ev tb_P 2 277 (0, tb_ent [.ref a0, .int a1, .int a2], [], w) (some (.int o.1), o.2) := by
  unfold fb_m_isJoined at h
  obtain ⟨r, hr⟩ : ∃ r : Option Value × tb_Hp, r = (some (.int o.1), o.2) := ⟨_, rfl⟩
  rw [← hr]
  show tb_Ev tb_P 2 277 (0, [(0, .ref a0), (1, .int a1), (2, .int a2)], [], w) r
  refine tb_Es (k := 3) (st' := (3, [(0, .ref a0), (1, .int a1), (2, .int a2), (3, .int 0)], [], w)) rfl ?_
  replace h := Option.bind_eq_some_iff.mp h
  obtain ⟨o6, eo6, h⟩ := h
  refine dl_m_isJoined_2 _ a0 a1 a2 0 w _ eo6 r ?_
  obtain rfl := Option.some.inj h
  exact hr
