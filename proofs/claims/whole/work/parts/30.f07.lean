/-! TannerBuntingModel.force(I)I -/
def fj_m_force_j9 (v0 : Nat) (v1 : Int32) (w : tb_Hp) : Option (Int32 × tb_Hp) := (tb_gI 22 21 v0 w).bind fun x1 => (tb_pI 22 21 v0 v1 w).bind fun w2 => some (x1, w2)
set_option maxHeartbeats 4000000 in
set_option maxRecDepth 20000 in
theorem dj_m_force_j9 (v0 : Nat) (v1 : Int32) (w : tb_Hp) (o : Int32 × tb_Hp) (h : fj_m_force_j9 v0 v1 w = some o) (r : Option Value × tb_Hp) (hr : r = (some (.int o.1), o.2)) : tb_Ev tb_P 1 210 (10, [(0, .ref v0), (1, .int v1)], [], w) r := by
  unfold fj_m_force_j9 at h
  refine tb_Es (k := 1) (st' := (11, [(0, .ref v0), (1, .int v1)], [.ref v0], w)) rfl ?_
  replace h := Option.bind_eq_some_iff.mp h
  obtain ⟨x1, ex1, h⟩ := h
  refine tb_e_gI rfl ex1 ?_
  refine tb_Es (k := 3) (st' := (15, [(2, .int x1), (0, .ref v0), (1, .int v1)], [.int v1, .ref v0], w)) rfl ?_
  replace h := Option.bind_eq_some_iff.mp h
  obtain ⟨w2, ew2, h⟩ := h
  refine tb_e_pI rfl ew2 ?_
  refine tb_Es (k := 1) (st' := (17, [(2, .int x1), (0, .ref v0), (1, .int v1)], [.int x1], w2)) rfl ?_
  obtain rfl := Option.some.inj h
  subst hr
  exact tb_Er rfl rfl
def fb_m_force (a0 : Nat) (a1 : Int32) (w : tb_Hp) : Option (Int32 × tb_Hp) := (if a1 = (-1) then fj_m_force_j9 a0 a1 w else (tb_on 22 a0 w (fb_m_isRule a0 a1 w)).bind fun x3 => (if x3.1 = 0 then some (-2, x3.2) else fj_m_force_j9 a0 a1 x3.2))
set_option maxHeartbeats 4000000 in
set_option maxRecDepth 20000 in
theorem dc_m_force {a0 : Nat} {a1 : Int32} {w : tb_Hp} {o : Int32 × tb_Hp} (h : fb_m_force a0 a1 w = some o) : tb_Ev tb_P 1 210 (0, tb_ent [.ref a0, .int a1], [], w) (some (.int o.1), o.2) := by
  unfold fb_m_force at h
  obtain ⟨r, hr⟩ : ∃ r : Option Value × tb_Hp, r = (some (.int o.1), o.2) := ⟨_, rfl⟩
  rw [← hr]
  show tb_Ev tb_P 1 210 (0, [(0, .ref a0), (1, .int a1)], [], w) r
  refine tb_Es (k := 2) (st' := (2, [(0, .ref a0), (1, .int a1)], [.int (-1), .int a1], w)) rfl ?_
  refine tb_b_ceq rfl (fun hc => ?_) (fun hc => ?_)
  · rw [if_pos hc] at h
    refine tb_Es (k := 1) (st' := (10, [(0, .ref a0), (1, .int a1)], [], w)) rfl ?_
    exact dj_m_force_j9 a0 a1 w _ h r hr
  · rw [if_neg hc] at h
    refine tb_Es (k := 2) (st' := (5, [(0, .ref a0), (1, .int a1)], [.int a1, .ref a0], w)) rfl ?_
    replace h := Option.bind_eq_some_iff.mp h
    obtain ⟨x3, ex3, h⟩ := h
    obtain ⟨hkx3, hcall⟩ := tb_on_some ex3
    refine tb_e_cv (v := some (.int x3.1)) rfl (Or.inl ⟨_, rfl⟩) rfl rfl (Nat.le_of_ble_eq_true rfl) rfl (Nat.le_of_ble_eq_true rfl) hkx3 ((dc_m_isRule hcall).up (by decide)) ?_
    refine tb_b_ine rfl (fun hc => ?_) (fun hc => ?_)
    · rw [if_pos hc] at h
      refine tb_Es (k := 1) (st' := (8, [(0, .ref a0), (1, .int a1)], [.int (-2)], x3.2)) rfl ?_
      obtain rfl := Option.some.inj h
      subst hr
      exact tb_Er rfl rfl
    · rw [if_neg hc] at h
      refine tb_Es (k := 1) (st' := (10, [(0, .ref a0), (1, .int a1)], [], x3.2)) rfl ?_
      exact dj_m_force_j9 a0 a1 x3.2 _ h r hr
/-! TannerBuntingModel.isHouse(I)Z -/
def fb_m_isHouse (a0 : Nat) (a1 : Int32) (w : tb_Hp) : Option (Int32 × tb_Hp) := (if a1 < 0 then some (0, w) else (tb_on 22 a0 w (fb_m_houses a0 w)).bind fun x1 => (if a1 < x1.1 then some (1, x1.2) else some (0, x1.2)))
set_option maxHeartbeats 4000000 in
set_option maxRecDepth 20000 in
theorem dc_m_isHouse {a0 : Nat} {a1 : Int32} {w : tb_Hp} {o : Int32 × tb_Hp} (h : fb_m_isHouse a0 a1 w = some o) : tb_Ev tb_P 1 213 (0, tb_ent [.ref a0, .int a1], [], w) (some (.int o.1), o.2) := by
  unfold fb_m_isHouse at h
  obtain ⟨r, hr⟩ : ∃ r : Option Value × tb_Hp, r = (some (.int o.1), o.2) := ⟨_, rfl⟩
  rw [← hr]
  show tb_Ev tb_P 1 213 (0, [(0, .ref a0), (1, .int a1)], [], w) r
  refine tb_Es (k := 1) (st' := (1, [(0, .ref a0), (1, .int a1)], [.int a1], w)) rfl ?_
  refine tb_b_ilt rfl (fun hc => ?_) (fun hc => ?_)
  · rw [if_pos hc] at h
    refine tb_Es (k := 1) (st' := (9, [(0, .ref a0), (1, .int a1)], [.int 0], w)) rfl ?_
    obtain rfl := Option.some.inj h
    subst hr
    exact tb_Er rfl rfl
  · rw [if_neg hc] at h
    refine tb_Es (k := 2) (st' := (4, [(0, .ref a0), (1, .int a1)], [.ref a0, .int a1], w)) rfl ?_
    replace h := Option.bind_eq_some_iff.mp h
    obtain ⟨x1, ex1, h⟩ := h
    obtain ⟨hkx1, hcall⟩ := tb_on_some ex1
    refine tb_e_cv (v := some (.int x1.1)) rfl (Or.inl ⟨_, rfl⟩) rfl rfl (Nat.le_of_ble_eq_true rfl) rfl (Nat.le_of_ble_eq_true rfl) hkx1 ((dc_m_houses hcall).up (by decide)) ?_
    refine tb_b_cge rfl (fun hc => ?_) (fun hc => ?_)
    · rw [if_pos hc] at h
      refine tb_Es (k := 2) (st' := (9, [(0, .ref a0), (1, .int a1)], [.int 1], x1.2)) rfl ?_
      obtain rfl := Option.some.inj h
      subst hr
      exact tb_Er rfl rfl
    · rw [if_neg hc] at h
      refine tb_Es (k := 1) (st' := (9, [(0, .ref a0), (1, .int a1)], [.int 0], x1.2)) rfl ?_
      obtain rfl := Option.some.inj h
      subst hr
      exact tb_Er rfl rfl
/-! TannerBuntingModel.isUp(I)Z -/
def fb_m_isUp (a0 : Nat) (a1 : Int32) (w : tb_Hp) : Option (Int32 × tb_Hp) := (tb_on 22 a0 w (fb_m_isLine a0 a1 w)).bind fun x1 => (if x1.1 = 0 then some (0, x1.2) else (tb_gN 22 20 a0 x1.2).bind fun p2 => (tb_lI [1, 9] p2 ((42 + (4 * a1)) + 3) x1.2).bind fun x3 => (if x3 = 1 then some (1, x1.2) else some (0, x1.2)))
set_option maxHeartbeats 4000000 in
set_option maxRecDepth 20000 in
theorem dc_m_isUp {a0 : Nat} {a1 : Int32} {w : tb_Hp} {o : Int32 × tb_Hp} (h : fb_m_isUp a0 a1 w = some o) : tb_Ev tb_P 1 217 (0, tb_ent [.ref a0, .int a1], [], w) (some (.int o.1), o.2) := by
  unfold fb_m_isUp at h
  obtain ⟨r, hr⟩ : ∃ r : Option Value × tb_Hp, r = (some (.int o.1), o.2) := ⟨_, rfl⟩
  rw [← hr]
  show tb_Ev tb_P 1 217 (0, [(0, .ref a0), (1, .int a1)], [], w) r
  refine tb_Es (k := 2) (st' := (2, [(0, .ref a0), (1, .int a1)], [.int a1, .ref a0], w)) rfl ?_
  replace h := Option.bind_eq_some_iff.mp h
  obtain ⟨x1, ex1, h⟩ := h
  obtain ⟨hkx1, hcall⟩ := tb_on_some ex1
  refine tb_e_cv (v := some (.int x1.1)) rfl (Or.inl ⟨_, rfl⟩) rfl rfl (Nat.le_of_ble_eq_true rfl) rfl (Nat.le_of_ble_eq_true rfl) hkx1 ((dc_m_isLine hcall).up (by decide)) ?_
  refine tb_b_ieq rfl (fun hc => ?_) (fun hc => ?_)
  · rw [if_pos hc] at h
    refine tb_Es (k := 1) (st' := (19, [(0, .ref a0), (1, .int a1)], [.int 0], x1.2)) rfl ?_
    obtain rfl := Option.some.inj h
    subst hr
    exact tb_Er rfl rfl
  · rw [if_neg hc] at h
    refine tb_Es (k := 1) (st' := (5, [(0, .ref a0), (1, .int a1)], [.ref a0], x1.2)) rfl ?_
    replace h := Option.bind_eq_some_iff.mp h
    obtain ⟨p2, ep2, h⟩ := h
    refine tb_e_gN rfl ep2 ?_
    refine tb_Es (k := 7) (st' := (13, [(0, .ref a0), (1, .int a1)], [.int ((42 + (4 * a1)) + 3), .ref p2], x1.2)) rfl ?_
    replace h := Option.bind_eq_some_iff.mp h
    obtain ⟨x3, ex3, h⟩ := h
    refine tb_e_lI rfl (Or.inl ⟨rfl, rfl⟩) ex3 ?_
    refine tb_Es (k := 1) (st' := (15, [(0, .ref a0), (1, .int a1)], [.int 1, .int x3], x1.2)) rfl ?_
    refine tb_b_cne rfl (fun hc => ?_) (fun hc => ?_)
    · rw [if_pos hc] at h
      refine tb_Es (k := 2) (st' := (19, [(0, .ref a0), (1, .int a1)], [.int 1], x1.2)) rfl ?_
      obtain rfl := Option.some.inj h
      subst hr
      exact tb_Er rfl rfl
    · rw [if_neg hc] at h
      refine tb_Es (k := 1) (st' := (19, [(0, .ref a0), (1, .int a1)], [.int 0], x1.2)) rfl ?_
      obtain rfl := Option.some.inj h
      subst hr
      exact tb_Er rfl rfl
/-! TannerBuntingModel.line(II)I -/
def fb_m_line (a0 : Nat) (a1 : Int32) (a2 : Int32) (w : tb_Hp) : Option (Int32 × tb_Hp) := (tb_on 22 a0 w (fb_m_isLine a0 a1 w)).bind fun x1 => (if x1.1 = 0 then some (-1, x1.2) else (fb_m_in (Int32.toInt64 a2) 0 3 x1.2).bind fun x2 => (if x2.1 = 0 then some (-1, x2.2) else (tb_gN 22 20 a0 x2.2).bind fun p3 => (tb_lI [1, 9] p3 ((42 + (4 * a1)) + a2) x2.2).bind fun x4 => some (x4, x2.2)))
set_option maxHeartbeats 4000000 in
set_option maxRecDepth 20000 in
theorem dc_m_line {a0 : Nat} {a1 : Int32} {a2 : Int32} {w : tb_Hp} {o : Int32 × tb_Hp} (h : fb_m_line a0 a1 a2 w = some o) : tb_Ev tb_P 1 221 (0, tb_ent [.ref a0, .int a1, .int a2], [], w) (some (.int o.1), o.2) := by
  unfold fb_m_line at h
  obtain ⟨r, hr⟩ : ∃ r : Option Value × tb_Hp, r = (some (.int o.1), o.2) := ⟨_, rfl⟩
  rw [← hr]
  show tb_Ev tb_P 1 221 (0, [(0, .ref a0), (1, .int a1), (2, .int a2)], [], w) r
  refine tb_Es (k := 2) (st' := (2, [(0, .ref a0), (1, .int a1), (2, .int a2)], [.int a1, .ref a0], w)) rfl ?_
  replace h := Option.bind_eq_some_iff.mp h
  obtain ⟨x1, ex1, h⟩ := h
  obtain ⟨hkx1, hcall⟩ := tb_on_some ex1
  refine tb_e_cv (v := some (.int x1.1)) rfl (Or.inl ⟨_, rfl⟩) rfl rfl (Nat.le_of_ble_eq_true rfl) rfl (Nat.le_of_ble_eq_true rfl) hkx1 ((dc_m_isLine hcall).up (by decide)) ?_
  refine tb_b_ieq rfl (fun hc => ?_) (fun hc => ?_)
  · rw [if_pos hc] at h
    refine tb_Es (k := 1) (st' := (22, [(0, .ref a0), (1, .int a1), (2, .int a2)], [.int (-1)], x1.2)) rfl ?_
    obtain rfl := Option.some.inj h
    subst hr
    exact tb_Er rfl rfl
  · rw [if_neg hc] at h
    refine tb_Es (k := 4) (st' := (8, [(0, .ref a0), (1, .int a1), (2, .int a2)], [.long 3, .long 0, .long (Int32.toInt64 a2)], x1.2)) rfl ?_
    replace h := Option.bind_eq_some_iff.mp h
    obtain ⟨x2, ex2, h⟩ := h
    have hcall := ex2
    refine tb_e_cs (v := some (.int x2.1)) rfl rfl rfl (Nat.le_of_ble_eq_true rfl) rfl (Nat.le_of_ble_eq_true rfl) ((dc_m_in hcall).up (by decide)) ?_
    refine tb_b_ieq rfl (fun hc => ?_) (fun hc => ?_)
    · rw [if_pos hc] at h
      refine tb_Es (k := 1) (st' := (22, [(0, .ref a0), (1, .int a1), (2, .int a2)], [.int (-1)], x2.2)) rfl ?_
      obtain rfl := Option.some.inj h
      subst hr
      exact tb_Er rfl rfl
    · rw [if_neg hc] at h
      refine tb_Es (k := 1) (st' := (11, [(0, .ref a0), (1, .int a1), (2, .int a2)], [.ref a0], x2.2)) rfl ?_
      replace h := Option.bind_eq_some_iff.mp h
      obtain ⟨p3, ep3, h⟩ := h
      refine tb_e_gN rfl ep3 ?_
      refine tb_Es (k := 7) (st' := (19, [(0, .ref a0), (1, .int a1), (2, .int a2)], [.int ((42 + (4 * a1)) + a2), .ref p3], x2.2)) rfl ?_
      replace h := Option.bind_eq_some_iff.mp h
      obtain ⟨x4, ex4, h⟩ := h
      refine tb_e_lI rfl (Or.inl ⟨rfl, rfl⟩) ex4 ?_
      refine tb_Es (k := 1) (st' := (22, [(0, .ref a0), (1, .int a1), (2, .int a2)], [.int x4], x2.2)) rfl ?_
      obtain rfl := Option.some.inj h
      subst hr
      exact tb_Er rfl rfl
/-! TannerBuntingModel.reckons(III)J -/
def fl_m_reckons_5 : Nat → Nat → Int32 → Int32 → Int32 → tb_Hp → Option (Nat × tb_Hp)
  | 0, _, _, _, _, _ => none
  | n + 1, v0, v1, v3, v4, w => (if v4 < v3 then (tb_gN 22 3 v0 w).bind fun p2 => (tb_lI [1, 9] p2 ((400 * v1) + v4) w).bind fun x3 => (tb_gN 22 3 v0 w).bind fun p4 => (tb_lI [1, 9] p4 ((400 * v1) + v4) w).bind fun x5 => (if (x3 &&& 15) = 0 then (tb_on 22 v0 w (fb_m_push v0 (Int32.toInt64 (x5 >>> (4 &&& 31))) w)).bind fun x6 => fl_m_reckons_5 n v0 v1 v3 (v4 + 1) x6 else (if (x3 &&& 15) = 1 then (tb_gN 22 19 v0 w).bind fun p7 => (tb_lJ p7 (x5 >>> (4 &&& 31)) w).bind fun x8 => (tb_on 22 v0 w (fb_m_push v0 x8 w)).bind fun x9 => fl_m_reckons_5 n v0 v1 v3 (v4 + 1) x9 else (if (x3 &&& 15) = 11 then (tb_on 22 v0 w (fb_m_pop v0 w)).bind fun x10 => (tb_on 22 v0 x10.2 (fb_m_push v0 (1 - x10.1) x10.2)).bind fun x11 => fl_m_reckons_5 n v0 v1 v3 (v4 + 1) x11 else (tb_on 22 v0 w (fb_m_pop v0 w)).bind fun x12 => (tb_on 22 v0 x12.2 (fb_m_pop v0 x12.2)).bind fun x13 => (fb_m_one (x3 &&& 15) x13.1 x12.1 x13.2).bind fun x14 => (tb_on 22 v0 x14.2 (fb_m_push v0 x14.1 x14.2)).bind fun x15 => fl_m_reckons_5 n v0 v1 v3 (v4 + 1) x15))) else some ((v0, w)))
set_option maxHeartbeats 4000000 in
set_option maxRecDepth 20000 in
theorem dl_m_reckons_5 : ∀ (n : Nat) (v0 : Nat) (v1 : Int32) (v3 : Int32) (v4 : Int32) (w : tb_Hp) (o : Nat × tb_Hp), fl_m_reckons_5 n v0 v1 v3 v4 w = some o → ∀ (r : Option Value × tb_Hp), tb_Ev tb_P 1 235 (73, [(0, .ref o.1)], [], o.2) r → tb_Ev tb_P 1 235 (6, [(0, .ref v0), (1, .int v1), (3, .int v3), (4, .int v4)], [], w) r := by
  intro n
  induction n with
  | zero =>
    intro v0 v1 v3 v4 w o h
    cases h
  | succ n ih =>
    intro v0 v1 v3 v4 w o h r hx
    unfold fl_m_reckons_5 at h
    refine tb_Es (k := 2) (st' := (8, [(0, .ref v0), (1, .int v1), (3, .int v3), (4, .int v4)], [.int v3, .int v4], w)) rfl ?_
    refine tb_b_cge rfl (fun hc => ?_) (fun hc => ?_)
    · rw [if_pos hc] at h
      refine tb_Es (k := 1) (st' := (10, [(0, .ref v0), (1, .int v1), (3, .int v3), (4, .int v4)], [.ref v0], w)) rfl ?_
      replace h := Option.bind_eq_some_iff.mp h
      obtain ⟨p2, ep2, h⟩ := h
      refine tb_e_gN rfl ep2 ?_
      refine tb_Es (k := 5) (st' := (16, [(0, .ref v0), (1, .int v1), (3, .int v3), (4, .int v4)], [.int ((400 * v1) + v4), .ref p2], w)) rfl ?_
      replace h := Option.bind_eq_some_iff.mp h
      obtain ⟨x3, ex3, h⟩ := h
      refine tb_e_lI rfl (Or.inl ⟨rfl, rfl⟩) ex3 ?_
      refine tb_Es (k := 4) (st' := (21, [(5, .int (x3 &&& 15)), (0, .ref v0), (1, .int v1), (3, .int v3), (4, .int v4)], [.ref v0], w)) rfl ?_
      replace h := Option.bind_eq_some_iff.mp h
      obtain ⟨p4, ep4, h⟩ := h
      refine tb_e_gN rfl ep4 ?_
      refine tb_Es (k := 5) (st' := (27, [(5, .int (x3 &&& 15)), (0, .ref v0), (1, .int v1), (3, .int v3), (4, .int v4)], [.int ((400 * v1) + v4), .ref p4], w)) rfl ?_
      replace h := Option.bind_eq_some_iff.mp h
      obtain ⟨x5, ex5, h⟩ := h
      refine tb_e_lI rfl (Or.inl ⟨rfl, rfl⟩) ex5 ?_
      refine tb_Es (k := 4) (st' := (32, [(6, .int (x5 >>> (4 &&& 31))), (5, .int (x3 &&& 15)), (0, .ref v0), (1, .int v1), (3, .int v3), (4, .int v4)], [.int (x3 &&& 15)], w)) rfl ?_
      refine tb_b_ine rfl (fun hc => ?_) (fun hc => ?_)
      · rw [if_pos hc] at h
        refine tb_Es (k := 3) (st' := (36, [(6, .int (x5 >>> (4 &&& 31))), (5, .int (x3 &&& 15)), (0, .ref v0), (1, .int v1), (3, .int v3), (4, .int v4)], [.long (Int32.toInt64 (x5 >>> (4 &&& 31))), .ref v0], w)) rfl ?_
        replace h := Option.bind_eq_some_iff.mp h
        obtain ⟨x6, ex6, h⟩ := h
        obtain ⟨hkx6, hcall⟩ := tb_on_some ex6
        refine tb_e_cv (v := none) rfl (Or.inl ⟨_, rfl⟩) rfl rfl (Nat.le_of_ble_eq_true rfl) rfl (Nat.le_of_ble_eq_true rfl) hkx6 ((dc_m_push hcall).up (by decide)) ?_
        refine tb_Es (k := 4) (st' := (6, [(0, .ref v0), (1, .int v1), (3, .int v3), (4, .int (v4 + 1))], [], x6)) rfl ?_
        exact ih v0 v1 v3 (v4 + 1) x6 _ h r hx
      · rw [if_neg hc] at h
        refine tb_Es (k := 2) (st' := (40, [(6, .int (x5 >>> (4 &&& 31))), (5, .int (x3 &&& 15)), (0, .ref v0), (1, .int v1), (3, .int v3), (4, .int v4)], [.int 1, .int (x3 &&& 15)], w)) rfl ?_
        refine tb_b_cne rfl (fun hc => ?_) (fun hc => ?_)
        · rw [if_pos hc] at h
          refine tb_Es (k := 2) (st' := (43, [(6, .int (x5 >>> (4 &&& 31))), (5, .int (x3 &&& 15)), (0, .ref v0), (1, .int v1), (3, .int v3), (4, .int v4)], [.ref v0, .ref v0], w)) rfl ?_
          replace h := Option.bind_eq_some_iff.mp h
          obtain ⟨p7, ep7, h⟩ := h
          refine tb_e_gN rfl ep7 ?_
          refine tb_Es (k := 1) (st' := (45, [(6, .int (x5 >>> (4 &&& 31))), (5, .int (x3 &&& 15)), (0, .ref v0), (1, .int v1), (3, .int v3), (4, .int v4)], [.int (x5 >>> (4 &&& 31)), .ref p7, .ref v0], w)) rfl ?_
          replace h := Option.bind_eq_some_iff.mp h
          obtain ⟨x8, ex8, h⟩ := h
          refine tb_e_lJ rfl ex8 ?_
          replace h := Option.bind_eq_some_iff.mp h
          obtain ⟨x9, ex9, h⟩ := h
          obtain ⟨hkx9, hcall⟩ := tb_on_some ex9
          refine tb_e_cv (v := none) rfl (Or.inl ⟨_, rfl⟩) rfl rfl (Nat.le_of_ble_eq_true rfl) rfl (Nat.le_of_ble_eq_true rfl) hkx9 ((dc_m_push hcall).up (by decide)) ?_
          refine tb_Es (k := 4) (st' := (6, [(0, .ref v0), (1, .int v1), (3, .int v3), (4, .int (v4 + 1))], [], x9)) rfl ?_
          exact ih v0 v1 v3 (v4 + 1) x9 _ h r hx
        · rw [if_neg hc] at h
          refine tb_Es (k := 2) (st' := (50, [(6, .int (x5 >>> (4 &&& 31))), (5, .int (x3 &&& 15)), (0, .ref v0), (1, .int v1), (3, .int v3), (4, .int v4)], [.int 11, .int (x3 &&& 15)], w)) rfl ?_
          refine tb_b_cne rfl (fun hc => ?_) (fun hc => ?_)
          · rw [if_pos hc] at h
            refine tb_Es (k := 3) (st' := (54, [(6, .int (x5 >>> (4 &&& 31))), (5, .int (x3 &&& 15)), (0, .ref v0), (1, .int v1), (3, .int v3), (4, .int v4)], [.ref v0, .long 1, .ref v0], w)) rfl ?_
            replace h := Option.bind_eq_some_iff.mp h
            obtain ⟨x10, ex10, h⟩ := h
            obtain ⟨hkx10, hcall⟩ := tb_on_some ex10
            refine tb_e_cv (v := some (.long x10.1)) rfl (Or.inl ⟨_, rfl⟩) rfl rfl (Nat.le_of_ble_eq_true rfl) rfl (Nat.le_of_ble_eq_true rfl) hkx10 ((dc_m_pop hcall).up (by decide)) ?_
            refine tb_Es (k := 1) (st' := (56, [(6, .int (x5 >>> (4 &&& 31))), (5, .int (x3 &&& 15)), (0, .ref v0), (1, .int v1), (3, .int v3), (4, .int v4)], [.long (1 - x10.1), .ref v0], x10.2)) rfl ?_
            replace h := Option.bind_eq_some_iff.mp h
            obtain ⟨x11, ex11, h⟩ := h
            obtain ⟨hkx11, hcall⟩ := tb_on_some ex11
            refine tb_e_cv (v := none) rfl (Or.inl ⟨_, rfl⟩) rfl rfl (Nat.le_of_ble_eq_true rfl) rfl (Nat.le_of_ble_eq_true rfl) hkx11 ((dc_m_push hcall).up (by decide)) ?_
            refine tb_Es (k := 4) (st' := (6, [(0, .ref v0), (1, .int v1), (3, .int v3), (4, .int (v4 + 1))], [], x11)) rfl ?_
            exact ih v0 v1 v3 (v4 + 1) x11 _ h r hx
          · rw [if_neg hc] at h
            refine tb_Es (k := 1) (st' := (59, [(6, .int (x5 >>> (4 &&& 31))), (5, .int (x3 &&& 15)), (0, .ref v0), (1, .int v1), (3, .int v3), (4, .int v4)], [.ref v0], w)) rfl ?_
            replace h := Option.bind_eq_some_iff.mp h
            obtain ⟨x12, ex12, h⟩ := h
            obtain ⟨hkx12, hcall⟩ := tb_on_some ex12
            refine tb_e_cv (v := some (.long x12.1)) rfl (Or.inl ⟨_, rfl⟩) rfl rfl (Nat.le_of_ble_eq_true rfl) rfl (Nat.le_of_ble_eq_true rfl) hkx12 ((dc_m_pop hcall).up (by decide)) ?_
            refine tb_Es (k := 2) (st' := (62, [(7, .long x12.1), (6, .int (x5 >>> (4 &&& 31))), (5, .int (x3 &&& 15)), (0, .ref v0), (1, .int v1), (3, .int v3), (4, .int v4)], [.ref v0], x12.2)) rfl ?_
            replace h := Option.bind_eq_some_iff.mp h
            obtain ⟨x13, ex13, h⟩ := h
            obtain ⟨hkx13, hcall⟩ := tb_on_some ex13
            refine tb_e_cv (v := some (.long x13.1)) rfl (Or.inl ⟨_, rfl⟩) rfl rfl (Nat.le_of_ble_eq_true rfl) rfl (Nat.le_of_ble_eq_true rfl) hkx13 ((dc_m_pop hcall).up (by decide)) ?_
            refine tb_Es (k := 5) (st' := (68, [(9, .long x13.1), (7, .long x12.1), (6, .int (x5 >>> (4 &&& 31))), (5, .int (x3 &&& 15)), (0, .ref v0), (1, .int v1), (3, .int v3), (4, .int v4)], [.long x12.1, .long x13.1, .int (x3 &&& 15), .ref v0], x13.2)) rfl ?_
            replace h := Option.bind_eq_some_iff.mp h
            obtain ⟨x14, ex14, h⟩ := h
            have hcall := ex14
            refine tb_e_cs (v := some (.long x14.1)) rfl rfl rfl (Nat.le_of_ble_eq_true rfl) rfl (Nat.le_of_ble_eq_true rfl) ((dc_m_one hcall).up (by decide)) ?_
            replace h := Option.bind_eq_some_iff.mp h
            obtain ⟨x15, ex15, h⟩ := h
            obtain ⟨hkx15, hcall⟩ := tb_on_some ex15
            refine tb_e_cv (v := none) rfl (Or.inl ⟨_, rfl⟩) rfl rfl (Nat.le_of_ble_eq_true rfl) rfl (Nat.le_of_ble_eq_true rfl) hkx15 ((dc_m_push hcall).up (by decide)) ?_
            refine tb_Es (k := 3) (st' := (6, [(0, .ref v0), (1, .int v1), (3, .int v3), (4, .int (v4 + 1))], [], x15)) rfl ?_
            exact ih v0 v1 v3 (v4 + 1) x15 _ h r hx
    · rw [if_neg hc] at h
      refine tb_Es (k := 1) (st' := (73, [(0, .ref v0)], [], w)) rfl ?_
      obtain rfl := Option.some.inj h
      exact hx
def fb_m_reckons (a0 : Nat) (a1 : Int32) (a2 : Int32) (a3 : Int32) (w : tb_Hp) : Option (Int64 × tb_Hp) := (tb_pI 22 18 a0 0 w).bind fun w1 => (fl_m_reckons_5 1048576 a0 a1 a3 a2 w1).bind fun o16 => (tb_on 22 o16.1 o16.2 (fb_m_pop o16.1 o16.2)).bind fun x17 => some (x17.1, x17.2)
set_option maxHeartbeats 4000000 in
set_option maxRecDepth 20000 in
theorem dc_m_reckons {a0 : Nat} {a1 : Int32} {a2 : Int32} {a3 : Int32} {w : tb_Hp} {o : Int64 × tb_Hp} (h : fb_m_reckons a0 a1 a2 a3 w = some o) : tb_Ev tb_P 1 235 (0, tb_ent [.ref a0, .int a1, .int a2, .int a3], [], w) (some (.long o.1), o.2) := by
  unfold fb_m_reckons at h
  obtain ⟨r, hr⟩ : ∃ r : Option Value × tb_Hp, r = (some (.long o.1), o.2) := ⟨_, rfl⟩
  rw [← hr]
  show tb_Ev tb_P 1 235 (0, [(0, .ref a0), (1, .int a1), (2, .int a2), (3, .int a3)], [], w) r
  refine tb_Es (k := 2) (st' := (2, [(0, .ref a0), (1, .int a1), (2, .int a2), (3, .int a3)], [.int 0, .ref a0], w)) rfl ?_
  replace h := Option.bind_eq_some_iff.mp h
  obtain ⟨w1, ew1, h⟩ := h
  refine tb_e_pI rfl ew1 ?_
  refine tb_Es (k := 3) (st' := (6, [(0, .ref a0), (1, .int a1), (3, .int a3), (4, .int a2)], [], w1)) rfl ?_
  replace h := Option.bind_eq_some_iff.mp h
  obtain ⟨o16, eo16, h⟩ := h
  refine dl_m_reckons_5 _ a0 a1 a3 a2 w1 _ eo16 r ?_
  refine tb_Es (k := 1) (st' := (74, [(0, .ref o16.1)], [.ref o16.1], o16.2)) rfl ?_
  replace h := Option.bind_eq_some_iff.mp h
  obtain ⟨x17, ex17, h⟩ := h
  obtain ⟨hkx17, hcall⟩ := tb_on_some ex17
  refine tb_e_cv (v := some (.long x17.1)) rfl (Or.inl ⟨_, rfl⟩) rfl rfl (Nat.le_of_ble_eq_true rfl) rfl (Nat.le_of_ble_eq_true rfl) hkx17 ((dc_m_pop hcall).up (by decide)) ?_
  obtain rfl := Option.some.inj h
  subst hr
  exact tb_Er rfl rfl
/-! TannerBuntingModel.downsAll(I)V -/
def fl_m_downsAll_2 : Nat → Nat → Int32 → Int32 → tb_Hp → Option (tb_Hp)
  | 0, _, _, _, _ => none
  | n + 1, v0, v1, v2, w => (tb_gN 22 20 v0 w).bind fun p1 => (tb_lI [1, 9] p1 11 w).bind fun x2 => (if v2 < x2 then (fb_m_isOf v1 v2 w).bind fun x3 => (if x3.1 = 0 then fl_m_downsAll_2 n v0 v1 (v2 + 1) x3.2 else (tb_on 22 v0 x3.2 (fb_m_downs v0 v2 x3.2)).bind fun x4 => fl_m_downsAll_2 n v0 v1 (v2 + 1) x4) else some (w))
set_option maxHeartbeats 4000000 in
set_option maxRecDepth 20000 in
theorem dl_m_downsAll_2 : ∀ (n : Nat) (v0 : Nat) (v1 : Int32) (v2 : Int32) (w : tb_Hp) (o : tb_Hp), fl_m_downsAll_2 n v0 v1 v2 w = some o → ∀ (r : Option Value × tb_Hp), tb_Ev tb_P 1 239 (19, [], [], o) r → tb_Ev tb_P 1 239 (3, [(0, .ref v0), (1, .int v1), (2, .int v2)], [], w) r := by
  intro n
  induction n with
  | zero =>
    intro v0 v1 v2 w o h
    cases h
  | succ n ih =>
    intro v0 v1 v2 w o h r hx
    unfold fl_m_downsAll_2 at h
    refine tb_Es (k := 2) (st' := (5, [(0, .ref v0), (1, .int v1), (2, .int v2)], [.ref v0, .int v2], w)) rfl ?_
    replace h := Option.bind_eq_some_iff.mp h
    obtain ⟨p1, ep1, h⟩ := h
    refine tb_e_gN rfl ep1 ?_
    refine tb_Es (k := 1) (st' := (7, [(0, .ref v0), (1, .int v1), (2, .int v2)], [.int 11, .ref p1, .int v2], w)) rfl ?_
    replace h := Option.bind_eq_some_iff.mp h
    obtain ⟨x2, ex2, h⟩ := h
    refine tb_e_lI rfl (Or.inl ⟨rfl, rfl⟩) ex2 ?_
    refine tb_b_cge rfl (fun hc => ?_) (fun hc => ?_)
    · rw [if_pos hc] at h
      refine tb_Es (k := 2) (st' := (11, [(0, .ref v0), (1, .int v1), (2, .int v2)], [.int v2, .int v1], w)) rfl ?_
      replace h := Option.bind_eq_some_iff.mp h
      obtain ⟨x3, ex3, h⟩ := h
      have hcall := ex3
      refine tb_e_cs (v := some (.int x3.1)) rfl rfl rfl (Nat.le_of_ble_eq_true rfl) rfl (Nat.le_of_ble_eq_true rfl) ((dc_m_isOf hcall).up (by decide)) ?_
      refine tb_b_ieq rfl (fun hc => ?_) (fun hc => ?_)
      · rw [if_pos hc] at h
        refine tb_Es (k := 3) (st' := (3, [(0, .ref v0), (1, .int v1), (2, .int (v2 + 1))], [], x3.2)) rfl ?_
        exact ih v0 v1 (v2 + 1) x3.2 _ h r hx
      · rw [if_neg hc] at h
        refine tb_Es (k := 2) (st' := (15, [(0, .ref v0), (1, .int v1), (2, .int v2)], [.int v2, .ref v0], x3.2)) rfl ?_
        replace h := Option.bind_eq_some_iff.mp h
        obtain ⟨x4, ex4, h⟩ := h
        obtain ⟨hkx4, hcall⟩ := tb_on_some ex4
        refine tb_e_cv (v := none) rfl (Or.inl ⟨_, rfl⟩) rfl rfl (Nat.le_of_ble_eq_true rfl) rfl (Nat.le_of_ble_eq_true rfl) hkx4 ((dc_m_downs hcall).up (by decide)) ?_
        refine tb_Es (k := 3) (st' := (3, [(0, .ref v0), (1, .int v1), (2, .int (v2 + 1))], [], x4)) rfl ?_
        exact ih v0 v1 (v2 + 1) x4 _ h r hx
    · rw [if_neg hc] at h
      refine tb_Es (k := 1) (st' := (19, [], [], w)) rfl ?_
      obtain rfl := Option.some.inj h
      exact hx
def fb_m_downsAll (a0 : Nat) (a1 : Int32) (w : tb_Hp) : Option (tb_Hp) := (fl_m_downsAll_2 1048576 a0 a1 0 w).bind fun o5 => some o5
set_option maxHeartbeats 4000000 in
set_option maxRecDepth 20000 in
theorem dc_m_downsAll {a0 : Nat} {a1 : Int32} {w : tb_Hp} {o : tb_Hp} (h : fb_m_downsAll a0 a1 w = some o) : tb_Ev tb_P 1 239 (0, tb_ent [.ref a0, .int a1], [], w) (none, o) := by
  unfold fb_m_downsAll at h
  obtain ⟨r, hr⟩ : ∃ r : Option Value × tb_Hp, r = (none, o) := ⟨_, rfl⟩
  rw [← hr]
  show tb_Ev tb_P 1 239 (0, [(0, .ref a0), (1, .int a1)], [], w) r
  refine tb_Es (k := 3) (st' := (3, [(0, .ref a0), (1, .int a1), (2, .int 0)], [], w)) rfl ?_
  replace h := Option.bind_eq_some_iff.mp h
  obtain ⟨o5, eo5, h⟩ := h
  refine dl_m_downsAll_2 _ a0 a1 0 w _ eo5 r ?_
  obtain rfl := Option.some.inj h
  subst hr
  exact tb_Er rfl rfl
/-! TannerBuntingModel.leastOf(I)I -/
def fl_m_leastOf_2 : Nat → Int32 → Int32 → tb_Hp → Option (Int32 × tb_Hp)
  | 0, _, _, _ => none
  | n + 1, v0, v1, w => (fb_m_isOf v0 v1 w).bind fun x1 => (if x1.1 = 0 then fl_m_leastOf_2 n v0 (v1 + 1) x1.2 else some ((v1, x1.2)))
set_option maxHeartbeats 4000000 in
set_option maxRecDepth 20000 in
theorem dl_m_leastOf_2 : ∀ (n : Nat) (v0 : Int32) (v1 : Int32) (w : tb_Hp) (o : Int32 × tb_Hp), fl_m_leastOf_2 n v0 v1 w = some o → ∀ (r : Option Value × tb_Hp), tb_Ev tb_P 1 258 (10, [(1, .int o.1)], [], o.2) r → tb_Ev tb_P 1 258 (3, [(0, .int v0), (1, .int v1)], [], w) r := by
  intro n
  induction n with
  | zero =>
    intro v0 v1 w o h
    cases h
  | succ n ih =>
    intro v0 v1 w o h r hx
    unfold fl_m_leastOf_2 at h
    refine tb_Es (k := 2) (st' := (5, [(0, .int v0), (1, .int v1)], [.int v1, .int v0], w)) rfl ?_
    replace h := Option.bind_eq_some_iff.mp h
    obtain ⟨x1, ex1, h⟩ := h
    have hcall := ex1
    refine tb_e_cs (v := some (.int x1.1)) rfl rfl rfl (Nat.le_of_ble_eq_true rfl) rfl (Nat.le_of_ble_eq_true rfl) ((dc_m_isOf hcall).up (by decide)) ?_
    refine tb_b_ine rfl (fun hc => ?_) (fun hc => ?_)
    · rw [if_pos hc] at h
      refine tb_Es (k := 3) (st' := (3, [(0, .int v0), (1, .int (v1 + 1))], [], x1.2)) rfl ?_
      exact ih v0 (v1 + 1) x1.2 _ h r hx
    · rw [if_neg hc] at h
      refine tb_Es (k := 1) (st' := (10, [(1, .int v1)], [], x1.2)) rfl ?_
      obtain rfl := Option.some.inj h
      exact hx
def fb_m_leastOf (a0 : Int32) (w : tb_Hp) : Option (Int32 × tb_Hp) := (fl_m_leastOf_2 1048576 a0 0 w).bind fun o2 => some (o2.1, o2.2)
set_option maxHeartbeats 4000000 in
set_option maxRecDepth 20000 in
theorem dc_m_leastOf {a0 : Int32} {w : tb_Hp} {o : Int32 × tb_Hp} (h : fb_m_leastOf a0 w = some o) : tb_Ev tb_P 1 258 (0, tb_ent [.int a0], [], w) (some (.int o.1), o.2) := by
  unfold fb_m_leastOf at h
  obtain ⟨r, hr⟩ : ∃ r : Option Value × tb_Hp, r = (some (.int o.1), o.2) := ⟨_, rfl⟩
  rw [← hr]
  show tb_Ev tb_P 1 258 (0, [(0, .int a0)], [], w) r
  refine tb_Es (k := 3) (st' := (3, [(0, .int a0), (1, .int 0)], [], w)) rfl ?_
  replace h := Option.bind_eq_some_iff.mp h
  obtain ⟨o2, eo2, h⟩ := h
  refine dl_m_leastOf_2 _ a0 0 w _ eo2 r ?_
  refine tb_Es (k := 1) (st' := (11, [(1, .int o2.1)], [.int o2.1], o2.2)) rfl ?_
  obtain rfl := Option.some.inj h
  subst hr
  exact tb_Er rfl rfl
/-! TannerBuntingModel.toldOf(II)I -/
def fb_m_toldOf (a0 : Int32) (a1 : Int32) (w : tb_Hp) : Option (Int32 × tb_Hp) := (if a0 < 0 then some (-2, w) else (if a1 = 0 then (fb_m_bits a0 w).bind fun x1 => some (x1.1, x1.2) else some (a0, w)))
set_option maxHeartbeats 4000000 in
set_option maxRecDepth 20000 in
theorem dc_m_toldOf {a0 : Int32} {a1 : Int32} {w : tb_Hp} {o : Int32 × tb_Hp} (h : fb_m_toldOf a0 a1 w = some o) : tb_Ev tb_P 1 265 (0, tb_ent [.int a0, .int a1], [], w) (some (.int o.1), o.2) := by
  unfold fb_m_toldOf at h
  obtain ⟨r, hr⟩ : ∃ r : Option Value × tb_Hp, r = (some (.int o.1), o.2) := ⟨_, rfl⟩
  rw [← hr]
  show tb_Ev tb_P 1 265 (0, [(0, .int a0), (1, .int a1)], [], w) r
  refine tb_Es (k := 1) (st' := (1, [(0, .int a0), (1, .int a1)], [.int a0], w)) rfl ?_
  refine tb_b_ige rfl (fun hc => ?_) (fun hc => ?_)
  · rw [if_pos hc] at h
    refine tb_Es (k := 2) (st' := (10, [(0, .int a0), (1, .int a1)], [.int (-2)], w)) rfl ?_
    obtain rfl := Option.some.inj h
    subst hr
    exact tb_Er rfl rfl
  · rw [if_neg hc] at h
    refine tb_Es (k := 1) (st' := (5, [(0, .int a0), (1, .int a1)], [.int a1], w)) rfl ?_
    refine tb_b_ine rfl (fun hc => ?_) (fun hc => ?_)
    · rw [if_pos hc] at h
      refine tb_Es (k := 1) (st' := (7, [(0, .int a0), (1, .int a1)], [.int a0], w)) rfl ?_
      replace h := Option.bind_eq_some_iff.mp h
      obtain ⟨x1, ex1, h⟩ := h
      have hcall := ex1
      refine tb_e_cs (v := some (.int x1.1)) rfl rfl rfl (Nat.le_of_ble_eq_true rfl) rfl (Nat.le_of_ble_eq_true rfl) ((dc_m_bits hcall).up (by decide)) ?_
      refine tb_Es (k := 1) (st' := (10, [(0, .int a0), (1, .int a1)], [.int x1.1], x1.2)) rfl ?_
      obtain rfl := Option.some.inj h
      subst hr
      exact tb_Er rfl rfl
    · rw [if_neg hc] at h
      refine tb_Es (k := 1) (st' := (10, [(0, .int a0), (1, .int a1)], [.int a0], w)) rfl ?_
      obtain rfl := Option.some.inj h
      subst hr
      exact tb_Er rfl rfl
/-! TannerBuntingModel.nextPairs()Z -/
def fl_m_nextPairs_7 : Nat → Nat → Int32 → tb_Hp → Option (Nat × Int32 × tb_Hp)
  | 0, _, _, _ => none
  | n + 1, v0, v1, w => (if v1 < 0 then some ((v0, v1, w)) else (tb_gN 22 26 v0 w).bind fun p3 => (tb_lI [1, 9] p3 v1 w).bind fun x4 => (tb_on 22 v0 w (fb_m_houses v0 w)).bind fun x5 => (if x4 = (x5.1 - 1) then (tb_gN 22 26 v0 x5.2).bind fun p6 => (tb_tI p6 v1 (-1) x5.2).bind fun w7 => fl_m_nextPairs_7 n v0 (v1 + (-1)) w7 else some ((v0, v1, x5.2))))
set_option maxHeartbeats 4000000 in
set_option maxRecDepth 20000 in
theorem dl_m_nextPairs_7 : ∀ (n : Nat) (v0 : Nat) (v1 : Int32) (w : tb_Hp) (o : Nat × Int32 × tb_Hp), fl_m_nextPairs_7 n v0 v1 w = some o → ∀ (r : Option Value × tb_Hp), tb_Ev tb_P 1 275 (27, [(0, .ref o.1), (1, .int o.2.1)], [], o.2.2) r → tb_Ev tb_P 1 275 (8, [(0, .ref v0), (1, .int v1)], [], w) r := by
  intro n
  induction n with
  | zero =>
    intro v0 v1 w o h
    cases h
  | succ n ih =>
    intro v0 v1 w o h r hx
    unfold fl_m_nextPairs_7 at h
    refine tb_Es (k := 1) (st' := (9, [(0, .ref v0), (1, .int v1)], [.int v1], w)) rfl ?_
    refine tb_b_ilt rfl (fun hc => ?_) (fun hc => ?_)
    · rw [if_pos hc] at h
      refine tb_Es (k := 1) (st' := (27, [(0, .ref v0), (1, .int v1)], [], w)) rfl ?_
      obtain rfl := Option.some.inj h
      exact hx
    · rw [if_neg hc] at h
      refine tb_Es (k := 1) (st' := (11, [(0, .ref v0), (1, .int v1)], [.ref v0], w)) rfl ?_
      replace h := Option.bind_eq_some_iff.mp h
      obtain ⟨p3, ep3, h⟩ := h
      refine tb_e_gN rfl ep3 ?_
      refine tb_Es (k := 1) (st' := (13, [(0, .ref v0), (1, .int v1)], [.int v1, .ref p3], w)) rfl ?_
      replace h := Option.bind_eq_some_iff.mp h
      obtain ⟨x4, ex4, h⟩ := h
      refine tb_e_lI rfl (Or.inl ⟨rfl, rfl⟩) ex4 ?_
      refine tb_Es (k := 1) (st' := (15, [(0, .ref v0), (1, .int v1)], [.ref v0, .int x4], w)) rfl ?_
      replace h := Option.bind_eq_some_iff.mp h
      obtain ⟨x5, ex5, h⟩ := h
      obtain ⟨hkx5, hcall⟩ := tb_on_some ex5
      refine tb_e_cv (v := some (.int x5.1)) rfl (Or.inl ⟨_, rfl⟩) rfl rfl (Nat.le_of_ble_eq_true rfl) rfl (Nat.le_of_ble_eq_true rfl) hkx5 ((dc_m_houses hcall).up (by decide)) ?_
      refine tb_Es (k := 2) (st' := (18, [(0, .ref v0), (1, .int v1)], [.int (x5.1 - 1), .int x4], x5.2)) rfl ?_
      refine tb_b_cne rfl (fun hc => ?_) (fun hc => ?_)
      · rw [if_pos hc] at h
        refine tb_Es (k := 1) (st' := (20, [(0, .ref v0), (1, .int v1)], [.ref v0], x5.2)) rfl ?_
        replace h := Option.bind_eq_some_iff.mp h
        obtain ⟨p6, ep6, h⟩ := h
        refine tb_e_gN rfl ep6 ?_
        refine tb_Es (k := 2) (st' := (23, [(0, .ref v0), (1, .int v1)], [.int (-1), .int v1, .ref p6], x5.2)) rfl ?_
        replace h := Option.bind_eq_some_iff.mp h
        obtain ⟨w7, ew7, h⟩ := h
        refine tb_e_tI rfl ew7 ?_
        refine tb_Es (k := 3) (st' := (8, [(0, .ref v0), (1, .int (v1 + (-1)))], [], w7)) rfl ?_
        exact ih v0 (v1 + (-1)) w7 _ h r hx
      · rw [if_neg hc] at h
        refine tb_Es (k := 1) (st' := (27, [(0, .ref v0), (1, .int v1)], [], x5.2)) rfl ?_
        obtain rfl := Option.some.inj h
        exact hx
def fb_m_nextPairs (a0 : Nat) (w : tb_Hp) : Option (Int32 × tb_Hp) := (tb_gN 22 20 a0 w).bind fun p1 => (tb_lI [1, 9] p1 1 w).bind fun x2 => (fl_m_nextPairs_7 1048576 a0 (x2 - 1) w).bind fun o8 => (if o8.2.1 < 0 then some (0, o8.2.2) else (tb_gN 22 26 o8.1 o8.2.2).bind fun p9 => (tb_gN 22 26 o8.1 o8.2.2).bind fun p10 => (tb_lI [1, 9] p10 o8.2.1 o8.2.2).bind fun x11 => (if x11 < 0 then (tb_gN 22 20 o8.1 o8.2.2).bind fun p12 => (tb_lI [1, 9] p12 1 o8.2.2).bind fun x13 => (tb_tI p9 o8.2.1 x13 o8.2.2).bind fun w14 => some (1, w14) else (tb_gN 22 26 o8.1 o8.2.2).bind fun p15 => (tb_lI [1, 9] p15 o8.2.1 o8.2.2).bind fun x16 => (tb_tI p9 o8.2.1 (x16 + 1) o8.2.2).bind fun w17 => some (1, w17)))
set_option maxHeartbeats 4000000 in
set_option maxRecDepth 20000 in
theorem dc_m_nextPairs {a0 : Nat} {w : tb_Hp} {o : Int32 × tb_Hp} (h : fb_m_nextPairs a0 w = some o) : tb_Ev tb_P 1 275 (0, tb_ent [.ref a0], [], w) (some (.int o.1), o.2) := by
  unfold fb_m_nextPairs at h
  obtain ⟨r, hr⟩ : ∃ r : Option Value × tb_Hp, r = (some (.int o.1), o.2) := ⟨_, rfl⟩
  rw [← hr]
  show tb_Ev tb_P 1 275 (0, [(0, .ref a0)], [], w) r
  refine tb_Es (k := 1) (st' := (1, [(0, .ref a0)], [.ref a0], w)) rfl ?_
  replace h := Option.bind_eq_some_iff.mp h
  obtain ⟨p1, ep1, h⟩ := h
  refine tb_e_gN rfl ep1 ?_
  refine tb_Es (k := 1) (st' := (3, [(0, .ref a0)], [.int 1, .ref p1], w)) rfl ?_
  replace h := Option.bind_eq_some_iff.mp h
  obtain ⟨x2, ex2, h⟩ := h
  refine tb_e_lI rfl (Or.inl ⟨rfl, rfl⟩) ex2 ?_
  refine tb_Es (k := 4) (st' := (8, [(0, .ref a0), (1, .int (x2 - 1))], [], w)) rfl ?_
  replace h := Option.bind_eq_some_iff.mp h
  obtain ⟨o8, eo8, h⟩ := h
  refine dl_m_nextPairs_7 _ a0 (x2 - 1) w _ eo8 r ?_
  refine tb_Es (k := 1) (st' := (28, [(0, .ref o8.1), (1, .int o8.2.1)], [.int o8.2.1], o8.2.2)) rfl ?_
  refine tb_b_ige rfl (fun hc => ?_) (fun hc => ?_)
  · rw [if_pos hc] at h
    refine tb_Es (k := 1) (st' := (30, [(0, .ref o8.1), (1, .int o8.2.1)], [.int 0], o8.2.2)) rfl ?_
    obtain rfl := Option.some.inj h
    subst hr
    exact tb_Er rfl rfl
  · rw [if_neg hc] at h
    refine tb_Es (k := 1) (st' := (32, [(0, .ref o8.1), (1, .int o8.2.1)], [.ref o8.1], o8.2.2)) rfl ?_
    replace h := Option.bind_eq_some_iff.mp h
    obtain ⟨p9, ep9, h⟩ := h
    refine tb_e_gN rfl ep9 ?_
    refine tb_Es (k := 2) (st' := (35, [(0, .ref o8.1), (1, .int o8.2.1)], [.ref o8.1, .int o8.2.1, .ref p9], o8.2.2)) rfl ?_
    replace h := Option.bind_eq_some_iff.mp h
    obtain ⟨p10, ep10, h⟩ := h
    refine tb_e_gN rfl ep10 ?_
    refine tb_Es (k := 1) (st' := (37, [(0, .ref o8.1), (1, .int o8.2.1)], [.int o8.2.1, .ref p10, .int o8.2.1, .ref p9], o8.2.2)) rfl ?_
    replace h := Option.bind_eq_some_iff.mp h
    obtain ⟨x11, ex11, h⟩ := h
    refine tb_e_lI rfl (Or.inl ⟨rfl, rfl⟩) ex11 ?_
    refine tb_b_ige rfl (fun hc => ?_) (fun hc => ?_)
    · rw [if_pos hc] at h
      refine tb_Es (k := 1) (st' := (40, [(0, .ref o8.1), (1, .int o8.2.1)], [.ref o8.1, .int o8.2.1, .ref p9], o8.2.2)) rfl ?_
      replace h := Option.bind_eq_some_iff.mp h
      obtain ⟨p12, ep12, h⟩ := h
      refine tb_e_gN rfl ep12 ?_
      refine tb_Es (k := 1) (st' := (42, [(0, .ref o8.1), (1, .int o8.2.1)], [.int 1, .ref p12, .int o8.2.1, .ref p9], o8.2.2)) rfl ?_
      replace h := Option.bind_eq_some_iff.mp h
      obtain ⟨x13, ex13, h⟩ := h
      refine tb_e_lI rfl (Or.inl ⟨rfl, rfl⟩) ex13 ?_
      refine tb_Es (k := 1) (st' := (50, [(0, .ref o8.1), (1, .int o8.2.1)], [.int x13, .int o8.2.1, .ref p9], o8.2.2)) rfl ?_
      replace h := Option.bind_eq_some_iff.mp h
      obtain ⟨w14, ew14, h⟩ := h
      refine tb_e_tI rfl ew14 ?_
      refine tb_Es (k := 1) (st' := (52, [(0, .ref o8.1), (1, .int o8.2.1)], [.int 1], w14)) rfl ?_
      obtain rfl := Option.some.inj h
      subst hr
      exact tb_Er rfl rfl
    · rw [if_neg hc] at h
      refine tb_Es (k := 1) (st' := (45, [(0, .ref o8.1), (1, .int o8.2.1)], [.ref o8.1, .int o8.2.1, .ref p9], o8.2.2)) rfl ?_
      replace h := Option.bind_eq_some_iff.mp h
      obtain ⟨p15, ep15, h⟩ := h
      refine tb_e_gN rfl ep15 ?_
      refine tb_Es (k := 1) (st' := (47, [(0, .ref o8.1), (1, .int o8.2.1)], [.int o8.2.1, .ref p15, .int o8.2.1, .ref p9], o8.2.2)) rfl ?_
      replace h := Option.bind_eq_some_iff.mp h
      obtain ⟨x16, ex16, h⟩ := h
      refine tb_e_lI rfl (Or.inl ⟨rfl, rfl⟩) ex16 ?_
      refine tb_Es (k := 2) (st' := (50, [(0, .ref o8.1), (1, .int o8.2.1)], [.int (x16 + 1), .int o8.2.1, .ref p9], o8.2.2)) rfl ?_
      replace h := Option.bind_eq_some_iff.mp h
      obtain ⟨w17, ew17, h⟩ := h
      refine tb_e_tI rfl ew17 ?_
      refine tb_Es (k := 1) (st' := (52, [(0, .ref o8.1), (1, .int o8.2.1)], [.int 1], w17)) rfl ?_
      obtain rfl := Option.some.inj h
      subst hr
      exact tb_Er rfl rfl
/-! TannerBuntingModel.alikeAt(I)I -/
def fl_m_alikeAt_6 : Nat → Nat → Int32 → Int32 → Int32 → Int32 → tb_Hp → Option (Int32 × Int32 × tb_Hp)
  | 0, _, _, _, _, _, _ => none
  | n + 1, v0, v1, v2, v3, v4, w => (tb_gI 22 2 v0 w).bind fun x1 => (if v4 ≤ x1 then (tb_gN 22 29 v0 w).bind fun p2 => (tb_lI [0, 3] p2 v4 w).bind fun x3 => (if x3 = 0 then fl_m_alikeAt_6 n v0 v1 v2 v3 (v4 + 1) w else (tb_gN 22 30 v0 w).bind fun p4 => (tb_lI [1, 9] p4 v4 w).bind fun x5 => (fb_m_isOf x5 v1 w).bind fun x6 => (if x6.1 = 0 then fl_m_alikeAt_6 n v0 v1 v2 (v3 + 1) (v4 + 1) x6.2 else fl_m_alikeAt_6 n v0 v1 (v2 + 1) v3 (v4 + 1) x6.2)) else some ((v2, v3, w)))
set_option maxHeartbeats 4000000 in
set_option maxRecDepth 20000 in
theorem dl_m_alikeAt_6 : ∀ (n : Nat) (v0 : Nat) (v1 : Int32) (v2 : Int32) (v3 : Int32) (v4 : Int32) (w : tb_Hp) (o : Int32 × Int32 × tb_Hp), fl_m_alikeAt_6 n v0 v1 v2 v3 v4 w = some o → ∀ (r : Option Value × tb_Hp), tb_Ev tb_P 1 291 (30, [(2, .int o.1), (3, .int o.2.1)], [], o.2.2) r → tb_Ev tb_P 1 291 (7, [(0, .ref v0), (1, .int v1), (2, .int v2), (3, .int v3), (4, .int v4)], [], w) r := by
  intro n
  induction n with
  | zero =>
    intro v0 v1 v2 v3 v4 w o h
    cases h
  | succ n ih =>
    intro v0 v1 v2 v3 v4 w o h r hx
    unfold fl_m_alikeAt_6 at h
    refine tb_Es (k := 2) (st' := (9, [(0, .ref v0), (1, .int v1), (2, .int v2), (3, .int v3), (4, .int v4)], [.ref v0, .int v4], w)) rfl ?_
    replace h := Option.bind_eq_some_iff.mp h
    obtain ⟨x1, ex1, h⟩ := h
    refine tb_e_gI rfl ex1 ?_
    refine tb_b_cgt rfl (fun hc => ?_) (fun hc => ?_)
    · rw [if_pos hc] at h
      refine tb_Es (k := 1) (st' := (12, [(0, .ref v0), (1, .int v1), (2, .int v2), (3, .int v3), (4, .int v4)], [.ref v0], w)) rfl ?_
      replace h := Option.bind_eq_some_iff.mp h
      obtain ⟨p2, ep2, h⟩ := h
      refine tb_e_gN rfl ep2 ?_
      refine tb_Es (k := 1) (st' := (14, [(0, .ref v0), (1, .int v1), (2, .int v2), (3, .int v3), (4, .int v4)], [.int v4, .ref p2], w)) rfl ?_
      replace h := Option.bind_eq_some_iff.mp h
      obtain ⟨x3, ex3, h⟩ := h
      refine tb_e_lI rfl (Or.inr ⟨rfl, rfl⟩) ex3 ?_
      refine tb_b_ine rfl (fun hc => ?_) (fun hc => ?_)
      · rw [if_pos hc] at h
        refine tb_Es (k := 4) (st' := (7, [(0, .ref v0), (1, .int v1), (2, .int v2), (3, .int v3), (4, .int (v4 + 1))], [], w)) rfl ?_
        exact ih v0 v1 v2 v3 (v4 + 1) w _ h r hx
      · rw [if_neg hc] at h
        refine tb_Es (k := 1) (st' := (18, [(0, .ref v0), (1, .int v1), (2, .int v2), (3, .int v3), (4, .int v4)], [.ref v0], w)) rfl ?_
        replace h := Option.bind_eq_some_iff.mp h
        obtain ⟨p4, ep4, h⟩ := h
        refine tb_e_gN rfl ep4 ?_
        refine tb_Es (k := 1) (st' := (20, [(0, .ref v0), (1, .int v1), (2, .int v2), (3, .int v3), (4, .int v4)], [.int v4, .ref p4], w)) rfl ?_
        replace h := Option.bind_eq_some_iff.mp h
        obtain ⟨x5, ex5, h⟩ := h
        refine tb_e_lI rfl (Or.inl ⟨rfl, rfl⟩) ex5 ?_
        refine tb_Es (k := 1) (st' := (22, [(0, .ref v0), (1, .int v1), (2, .int v2), (3, .int v3), (4, .int v4)], [.int v1, .int x5], w)) rfl ?_
        replace h := Option.bind_eq_some_iff.mp h
        obtain ⟨x6, ex6, h⟩ := h
        have hcall := ex6
        refine tb_e_cs (v := some (.int x6.1)) rfl rfl rfl (Nat.le_of_ble_eq_true rfl) rfl (Nat.le_of_ble_eq_true rfl) ((dc_m_isOf hcall).up (by decide)) ?_
        refine tb_b_ieq rfl (fun hc => ?_) (fun hc => ?_)
        · rw [if_pos hc] at h
          refine tb_Es (k := 4) (st' := (7, [(0, .ref v0), (1, .int v1), (2, .int v2), (3, .int (v3 + 1)), (4, .int (v4 + 1))], [], x6.2)) rfl ?_
          exact ih v0 v1 v2 (v3 + 1) (v4 + 1) x6.2 _ h r hx
        · rw [if_neg hc] at h
          refine tb_Es (k := 5) (st' := (7, [(0, .ref v0), (1, .int v1), (2, .int (v2 + 1)), (3, .int v3), (4, .int (v4 + 1))], [], x6.2)) rfl ?_
          exact ih v0 v1 (v2 + 1) v3 (v4 + 1) x6.2 _ h r hx
    · rw [if_neg hc] at h
      refine tb_Es (k := 1) (st' := (30, [(2, .int v2), (3, .int v3)], [], w)) rfl ?_
      obtain rfl := Option.some.inj h
      exact hx
def fb_m_alikeAt (a0 : Nat) (a1 : Int32) (w : tb_Hp) : Option (Int32 × tb_Hp) := (fl_m_alikeAt_6 1048576 a0 a1 0 0 0 w).bind fun o7 => (if o7.2.1 < o7.1 then some (o7.1, o7.2.2) else some (o7.2.1, o7.2.2))
set_option maxHeartbeats 4000000 in
set_option maxRecDepth 20000 in
theorem dc_m_alikeAt {a0 : Nat} {a1 : Int32} {w : tb_Hp} {o : Int32 × tb_Hp} (h : fb_m_alikeAt a0 a1 w = some o) : tb_Ev tb_P 1 291 (0, tb_ent [.ref a0, .int a1], [], w) (some (.int o.1), o.2) := by
  unfold fb_m_alikeAt at h
  obtain ⟨r, hr⟩ : ∃ r : Option Value × tb_Hp, r = (some (.int o.1), o.2) := ⟨_, rfl⟩
  rw [← hr]
  show tb_Ev tb_P 1 291 (0, [(0, .ref a0), (1, .int a1)], [], w) r
  refine tb_Es (k := 7) (st' := (7, [(0, .ref a0), (1, .int a1), (2, .int 0), (3, .int 0), (4, .int 0)], [], w)) rfl ?_
  replace h := Option.bind_eq_some_iff.mp h
  obtain ⟨o7, eo7, h⟩ := h
  refine dl_m_alikeAt_6 _ a0 a1 0 0 0 w _ eo7 r ?_
  refine tb_Es (k := 2) (st' := (32, [(2, .int o7.1), (3, .int o7.2.1)], [.int o7.2.1, .int o7.1], o7.2.2)) rfl ?_
  refine tb_b_cle rfl (fun hc => ?_) (fun hc => ?_)
  · rw [if_pos hc] at h
    refine tb_Es (k := 2) (st' := (36, [(2, .int o7.1), (3, .int o7.2.1)], [.int o7.1], o7.2.2)) rfl ?_
    obtain rfl := Option.some.inj h
    subst hr
    exact tb_Er rfl rfl
  · rw [if_neg hc] at h
    refine tb_Es (k := 1) (st' := (36, [(2, .int o7.1), (3, .int o7.2.1)], [.int o7.2.1], o7.2.2)) rfl ?_
    obtain rfl := Option.some.inj h
    subst hr
    exact tb_Er rfl rfl
/-! TannerBuntingModel.image(I)I -/
def fl_m_image_27 : Nat → Nat → Int32 → Int32 → tb_Hp → Option (Nat × tb_Hp)
  | 0, _, _, _, _ => none
  | n + 1, v0, v1, v2, w => (if v2 < 149 then (tb_gN 22 32 v0 w).bind fun p10 => (tb_gN 22 20 v0 w).bind fun p11 => (tb_lI [1, 9] p11 v2 w).bind fun x12 => (tb_tI p10 ((149 * v1) + v2) x12 w).bind fun w13 => fl_m_image_27 n v0 v1 (v2 + 1) w13 else some ((v0, w)))
set_option maxHeartbeats 4000000 in
set_option maxRecDepth 20000 in
theorem dl_m_image_27 : ∀ (n : Nat) (v0 : Nat) (v1 : Int32) (v2 : Int32) (w : tb_Hp) (o : Nat × tb_Hp), fl_m_image_27 n v0 v1 v2 w = some o → ∀ (r : Option Value × tb_Hp), tb_Ev tb_P 1 297 (46, [(0, .ref o.1)], [], o.2) r → tb_Ev tb_P 1 297 (28, [(0, .ref v0), (1, .int v1), (2, .int v2)], [], w) r := by
  intro n
  induction n with
  | zero =>
    intro v0 v1 v2 w o h
    cases h
  | succ n ih =>
    intro v0 v1 v2 w o h r hx
    unfold fl_m_image_27 at h
    refine tb_Es (k := 2) (st' := (30, [(0, .ref v0), (1, .int v1), (2, .int v2)], [.int 149, .int v2], w)) rfl ?_
    refine tb_b_cge rfl (fun hc => ?_) (fun hc => ?_)
    · rw [if_pos hc] at h
      refine tb_Es (k := 1) (st' := (32, [(0, .ref v0), (1, .int v1), (2, .int v2)], [.ref v0], w)) rfl ?_
      replace h := Option.bind_eq_some_iff.mp h
      obtain ⟨p10, ep10, h⟩ := h
      refine tb_e_gN rfl ep10 ?_
      refine tb_Es (k := 6) (st' := (39, [(0, .ref v0), (1, .int v1), (2, .int v2)], [.ref v0, .int ((149 * v1) + v2), .ref p10], w)) rfl ?_
      replace h := Option.bind_eq_some_iff.mp h
      obtain ⟨p11, ep11, h⟩ := h
      refine tb_e_gN rfl ep11 ?_
      refine tb_Es (k := 1) (st' := (41, [(0, .ref v0), (1, .int v1), (2, .int v2)], [.int v2, .ref p11, .int ((149 * v1) + v2), .ref p10], w)) rfl ?_
      replace h := Option.bind_eq_some_iff.mp h
      obtain ⟨x12, ex12, h⟩ := h
      refine tb_e_lI rfl (Or.inl ⟨rfl, rfl⟩) ex12 ?_
      replace h := Option.bind_eq_some_iff.mp h
      obtain ⟨w13, ew13, h⟩ := h
      refine tb_e_tI rfl ew13 ?_
      refine tb_Es (k := 3) (st' := (28, [(0, .ref v0), (1, .int v1), (2, .int (v2 + 1))], [], w13)) rfl ?_
      exact ih v0 v1 (v2 + 1) w13 _ h r hx
    · rw [if_neg hc] at h
      refine tb_Es (k := 1) (st' := (46, [(0, .ref v0)], [], w)) rfl ?_
      obtain rfl := Option.some.inj h
      exact hx
def fb_m_image (a0 : Nat) (a1 : Int32) (w : tb_Hp) : Option (Int32 × tb_Hp) := (fb_m_in (Int32.toInt64 a1) 0 3 w).bind fun x1 => (if x1.1 = 0 then some (-1, x1.2) else (tb_gN 22 35 a0 x1.2).bind fun p2 => (tb_tB p2 a1 1 x1.2).bind fun w3 => (tb_gN 22 33 a0 w3).bind fun p4 => (tb_gI 22 21 a0 w3).bind fun x5 => (tb_tI p4 a1 x5 w3).bind fun w6 => (tb_gN 22 34 a0 w6).bind fun p7 => (tb_gI 22 22 a0 w6).bind fun x8 => (tb_tI p7 a1 x8 w6).bind fun w9 => (fl_m_image_27 1048576 a0 a1 0 w9).bind fun o14 => (tb_gN 22 20 o14.1 o14.2).bind fun p15 => (tb_lI [1, 9] p15 10 o14.2).bind fun x16 => some (x16, o14.2))
set_option maxHeartbeats 4000000 in
set_option maxRecDepth 20000 in
theorem dc_m_image {a0 : Nat} {a1 : Int32} {w : tb_Hp} {o : Int32 × tb_Hp} (h : fb_m_image a0 a1 w = some o) : tb_Ev tb_P 1 297 (0, tb_ent [.ref a0, .int a1], [], w) (some (.int o.1), o.2) := by
  unfold fb_m_image at h
  obtain ⟨r, hr⟩ : ∃ r : Option Value × tb_Hp, r = (some (.int o.1), o.2) := ⟨_, rfl⟩
  rw [← hr]
  show tb_Ev tb_P 1 297 (0, [(0, .ref a0), (1, .int a1)], [], w) r
  refine tb_Es (k := 4) (st' := (4, [(0, .ref a0), (1, .int a1)], [.long 3, .long 0, .long (Int32.toInt64 a1)], w)) rfl ?_
  replace h := Option.bind_eq_some_iff.mp h
  obtain ⟨x1, ex1, h⟩ := h
  have hcall := ex1
  refine tb_e_cs (v := some (.int x1.1)) rfl rfl rfl (Nat.le_of_ble_eq_true rfl) rfl (Nat.le_of_ble_eq_true rfl) ((dc_m_in hcall).up (by decide)) ?_
  refine tb_b_ine rfl (fun hc => ?_) (fun hc => ?_)
  · rw [if_pos hc] at h
    refine tb_Es (k := 1) (st' := (7, [(0, .ref a0), (1, .int a1)], [.int (-1)], x1.2)) rfl ?_
    obtain rfl := Option.some.inj h
    subst hr
    exact tb_Er rfl rfl
  · rw [if_neg hc] at h
    refine tb_Es (k := 1) (st' := (9, [(0, .ref a0), (1, .int a1)], [.ref a0], x1.2)) rfl ?_
    replace h := Option.bind_eq_some_iff.mp h
    obtain ⟨p2, ep2, h⟩ := h
    refine tb_e_gN rfl ep2 ?_
    refine tb_Es (k := 2) (st' := (12, [(0, .ref a0), (1, .int a1)], [.int 1, .int a1, .ref p2], x1.2)) rfl ?_
    replace h := Option.bind_eq_some_iff.mp h
    obtain ⟨w3, ew3, h⟩ := h
    refine tb_e_tB rfl ew3 ?_
    refine tb_Es (k := 1) (st' := (14, [(0, .ref a0), (1, .int a1)], [.ref a0], w3)) rfl ?_
    replace h := Option.bind_eq_some_iff.mp h
    obtain ⟨p4, ep4, h⟩ := h
    refine tb_e_gN rfl ep4 ?_
    refine tb_Es (k := 2) (st' := (17, [(0, .ref a0), (1, .int a1)], [.ref a0, .int a1, .ref p4], w3)) rfl ?_
    replace h := Option.bind_eq_some_iff.mp h
    obtain ⟨x5, ex5, h⟩ := h
    refine tb_e_gI rfl ex5 ?_
    replace h := Option.bind_eq_some_iff.mp h
    obtain ⟨w6, ew6, h⟩ := h
    refine tb_e_tI rfl ew6 ?_
    refine tb_Es (k := 1) (st' := (20, [(0, .ref a0), (1, .int a1)], [.ref a0], w6)) rfl ?_
    replace h := Option.bind_eq_some_iff.mp h
    obtain ⟨p7, ep7, h⟩ := h
    refine tb_e_gN rfl ep7 ?_
    refine tb_Es (k := 2) (st' := (23, [(0, .ref a0), (1, .int a1)], [.ref a0, .int a1, .ref p7], w6)) rfl ?_
    replace h := Option.bind_eq_some_iff.mp h
    obtain ⟨x8, ex8, h⟩ := h
    refine tb_e_gI rfl ex8 ?_
    replace h := Option.bind_eq_some_iff.mp h
    obtain ⟨w9, ew9, h⟩ := h
    refine tb_e_tI rfl ew9 ?_
    refine tb_Es (k := 3) (st' := (28, [(0, .ref a0), (1, .int a1), (2, .int 0)], [], w9)) rfl ?_
    replace h := Option.bind_eq_some_iff.mp h
    obtain ⟨o14, eo14, h⟩ := h
    refine dl_m_image_27 _ a0 a1 0 w9 _ eo14 r ?_
    refine tb_Es (k := 1) (st' := (47, [(0, .ref o14.1)], [.ref o14.1], o14.2)) rfl ?_
    replace h := Option.bind_eq_some_iff.mp h
    obtain ⟨p15, ep15, h⟩ := h
    refine tb_e_gN rfl ep15 ?_
    refine tb_Es (k := 1) (st' := (49, [(0, .ref o14.1)], [.int 10, .ref p15], o14.2)) rfl ?_
    replace h := Option.bind_eq_some_iff.mp h
    obtain ⟨x16, ex16, h⟩ := h
    refine tb_e_lI rfl (Or.inl ⟨rfl, rfl⟩) ex16 ?_
    obtain rfl := Option.some.inj h
    subst hr
    exact tb_Er rfl rfl
/-! TannerBuntingModel.back(I)I -/
def fl_m_back_30 : Nat → Nat → Int32 → Int32 → tb_Hp → Option (Nat × tb_Hp)
  | 0, _, _, _, _ => none
  | n + 1, v0, v1, v2, w => (if v2 < 149 then (tb_gN 22 20 v0 w).bind fun p11 => (tb_gN 22 32 v0 w).bind fun p12 => (tb_lI [1, 9] p12 ((149 * v1) + v2) w).bind fun x13 => (tb_tI p11 v2 x13 w).bind fun w14 => fl_m_back_30 n v0 v1 (v2 + 1) w14 else some ((v0, w)))
set_option maxHeartbeats 4000000 in
set_option maxRecDepth 20000 in
theorem dl_m_back_30 : ∀ (n : Nat) (v0 : Nat) (v1 : Int32) (v2 : Int32) (w : tb_Hp) (o : Nat × tb_Hp), fl_m_back_30 n v0 v1 v2 w = some o → ∀ (r : Option Value × tb_Hp), tb_Ev tb_P 1 298 (49, [(0, .ref o.1)], [], o.2) r → tb_Ev tb_P 1 298 (31, [(0, .ref v0), (1, .int v1), (2, .int v2)], [], w) r := by
  intro n
  induction n with
  | zero =>
    intro v0 v1 v2 w o h
    cases h
  | succ n ih =>
    intro v0 v1 v2 w o h r hx
    unfold fl_m_back_30 at h
    refine tb_Es (k := 2) (st' := (33, [(0, .ref v0), (1, .int v1), (2, .int v2)], [.int 149, .int v2], w)) rfl ?_
    refine tb_b_cge rfl (fun hc => ?_) (fun hc => ?_)
    · rw [if_pos hc] at h
      refine tb_Es (k := 1) (st' := (35, [(0, .ref v0), (1, .int v1), (2, .int v2)], [.ref v0], w)) rfl ?_
      replace h := Option.bind_eq_some_iff.mp h
      obtain ⟨p11, ep11, h⟩ := h
      refine tb_e_gN rfl ep11 ?_
      refine tb_Es (k := 2) (st' := (38, [(0, .ref v0), (1, .int v1), (2, .int v2)], [.ref v0, .int v2, .ref p11], w)) rfl ?_
      replace h := Option.bind_eq_some_iff.mp h
      obtain ⟨p12, ep12, h⟩ := h
      refine tb_e_gN rfl ep12 ?_
      refine tb_Es (k := 5) (st' := (44, [(0, .ref v0), (1, .int v1), (2, .int v2)], [.int ((149 * v1) + v2), .ref p12, .int v2, .ref p11], w)) rfl ?_
      replace h := Option.bind_eq_some_iff.mp h
      obtain ⟨x13, ex13, h⟩ := h
      refine tb_e_lI rfl (Or.inl ⟨rfl, rfl⟩) ex13 ?_
      replace h := Option.bind_eq_some_iff.mp h
      obtain ⟨w14, ew14, h⟩ := h
      refine tb_e_tI rfl ew14 ?_
      refine tb_Es (k := 3) (st' := (31, [(0, .ref v0), (1, .int v1), (2, .int (v2 + 1))], [], w14)) rfl ?_
      exact ih v0 v1 (v2 + 1) w14 _ h r hx
    · rw [if_neg hc] at h
      refine tb_Es (k := 1) (st' := (49, [(0, .ref v0)], [], w)) rfl ?_
      obtain rfl := Option.some.inj h
      exact hx
def fb_m_back (a0 : Nat) (a1 : Int32) (w : tb_Hp) : Option (Int32 × tb_Hp) := (fb_m_in (Int32.toInt64 a1) 0 3 w).bind fun x1 => (if x1.1 = 0 then some (-1, x1.2) else (tb_gN 22 35 a0 x1.2).bind fun p2 => (tb_lI [0, 3] p2 a1 x1.2).bind fun x3 => (if x3 = 0 then some (-1, x1.2) else (tb_gN 22 33 a0 x1.2).bind fun p4 => (tb_lI [1, 9] p4 a1 x1.2).bind fun x5 => (tb_pI 22 21 a0 x5 x1.2).bind fun w6 => (tb_gN 22 34 a0 w6).bind fun p7 => (tb_lI [1, 9] p7 a1 w6).bind fun x8 => (tb_pI 22 22 a0 x8 w6).bind fun w9 => (tb_pI 22 24 a0 0 w9).bind fun w10 => (fl_m_back_30 1048576 a0 a1 0 w10).bind fun o15 => (tb_gN 22 20 o15.1 o15.2).bind fun p16 => (tb_lI [1, 9] p16 10 o15.2).bind fun x17 => some (x17, o15.2)))
set_option maxHeartbeats 4000000 in
set_option maxRecDepth 20000 in
theorem dc_m_back {a0 : Nat} {a1 : Int32} {w : tb_Hp} {o : Int32 × tb_Hp} (h : fb_m_back a0 a1 w = some o) : tb_Ev tb_P 1 298 (0, tb_ent [.ref a0, .int a1], [], w) (some (.int o.1), o.2) := by
  unfold fb_m_back at h
  obtain ⟨r, hr⟩ : ∃ r : Option Value × tb_Hp, r = (some (.int o.1), o.2) := ⟨_, rfl⟩
  rw [← hr]
  show tb_Ev tb_P 1 298 (0, [(0, .ref a0), (1, .int a1)], [], w) r
  refine tb_Es (k := 4) (st' := (4, [(0, .ref a0), (1, .int a1)], [.long 3, .long 0, .long (Int32.toInt64 a1)], w)) rfl ?_
  replace h := Option.bind_eq_some_iff.mp h
  obtain ⟨x1, ex1, h⟩ := h
  have hcall := ex1
  refine tb_e_cs (v := some (.int x1.1)) rfl rfl rfl (Nat.le_of_ble_eq_true rfl) rfl (Nat.le_of_ble_eq_true rfl) ((dc_m_in hcall).up (by decide)) ?_
  refine tb_b_ieq rfl (fun hc => ?_) (fun hc => ?_)
  · rw [if_pos hc] at h
    refine tb_Es (k := 1) (st' := (12, [(0, .ref a0), (1, .int a1)], [.int (-1)], x1.2)) rfl ?_
    obtain rfl := Option.some.inj h
    subst hr
    exact tb_Er rfl rfl
  · rw [if_neg hc] at h
    refine tb_Es (k := 1) (st' := (7, [(0, .ref a0), (1, .int a1)], [.ref a0], x1.2)) rfl ?_
    replace h := Option.bind_eq_some_iff.mp h
    obtain ⟨p2, ep2, h⟩ := h
    refine tb_e_gN rfl ep2 ?_
    refine tb_Es (k := 1) (st' := (9, [(0, .ref a0), (1, .int a1)], [.int a1, .ref p2], x1.2)) rfl ?_
    replace h := Option.bind_eq_some_iff.mp h
    obtain ⟨x3, ex3, h⟩ := h
    refine tb_e_lI rfl (Or.inr ⟨rfl, rfl⟩) ex3 ?_
    refine tb_b_ine rfl (fun hc => ?_) (fun hc => ?_)
    · rw [if_pos hc] at h
      refine tb_Es (k := 1) (st' := (12, [(0, .ref a0), (1, .int a1)], [.int (-1)], x1.2)) rfl ?_
      obtain rfl := Option.some.inj h
      subst hr
      exact tb_Er rfl rfl
    · rw [if_neg hc] at h
      refine tb_Es (k := 2) (st' := (15, [(0, .ref a0), (1, .int a1)], [.ref a0, .ref a0], x1.2)) rfl ?_
      replace h := Option.bind_eq_some_iff.mp h
      obtain ⟨p4, ep4, h⟩ := h
      refine tb_e_gN rfl ep4 ?_
      refine tb_Es (k := 1) (st' := (17, [(0, .ref a0), (1, .int a1)], [.int a1, .ref p4, .ref a0], x1.2)) rfl ?_
      replace h := Option.bind_eq_some_iff.mp h
      obtain ⟨x5, ex5, h⟩ := h
      refine tb_e_lI rfl (Or.inl ⟨rfl, rfl⟩) ex5 ?_
      replace h := Option.bind_eq_some_iff.mp h
      obtain ⟨w6, ew6, h⟩ := h
      refine tb_e_pI rfl ew6 ?_
      refine tb_Es (k := 2) (st' := (21, [(0, .ref a0), (1, .int a1)], [.ref a0, .ref a0], w6)) rfl ?_
      replace h := Option.bind_eq_some_iff.mp h
      obtain ⟨p7, ep7, h⟩ := h
      refine tb_e_gN rfl ep7 ?_
      refine tb_Es (k := 1) (st' := (23, [(0, .ref a0), (1, .int a1)], [.int a1, .ref p7, .ref a0], w6)) rfl ?_
      replace h := Option.bind_eq_some_iff.mp h
      obtain ⟨x8, ex8, h⟩ := h
      refine tb_e_lI rfl (Or.inl ⟨rfl, rfl⟩) ex8 ?_
      replace h := Option.bind_eq_some_iff.mp h
      obtain ⟨w9, ew9, h⟩ := h
      refine tb_e_pI rfl ew9 ?_
      refine tb_Es (k := 2) (st' := (27, [(0, .ref a0), (1, .int a1)], [.int 0, .ref a0], w9)) rfl ?_
      replace h := Option.bind_eq_some_iff.mp h
      obtain ⟨w10, ew10, h⟩ := h
      refine tb_e_pI rfl ew10 ?_
      refine tb_Es (k := 3) (st' := (31, [(0, .ref a0), (1, .int a1), (2, .int 0)], [], w10)) rfl ?_
      replace h := Option.bind_eq_some_iff.mp h
      obtain ⟨o15, eo15, h⟩ := h
      refine dl_m_back_30 _ a0 a1 0 w10 _ eo15 r ?_
      refine tb_Es (k := 1) (st' := (50, [(0, .ref o15.1)], [.ref o15.1], o15.2)) rfl ?_
      replace h := Option.bind_eq_some_iff.mp h
      obtain ⟨p16, ep16, h⟩ := h
      refine tb_e_gN rfl ep16 ?_
      refine tb_Es (k := 1) (st' := (52, [(0, .ref o15.1)], [.int 10, .ref p16], o15.2)) rfl ?_
      replace h := Option.bind_eq_some_iff.mp h
      obtain ⟨x17, ex17, h⟩ := h
      refine tb_e_lI rfl (Or.inl ⟨rfl, rfl⟩) ex17 ?_
      obtain rfl := Option.some.inj h
      subst hr
      exact tb_Er rfl rfl
/-! TannerBunting.<init>()V -/
def fb_x_init (a0 : Nat) (w : tb_Hp) : Option (tb_Hp) := (tb_on 19 w.1.length (tb_new w 19 10) (fb_t_init w.1.length (tb_new w 19 10))).bind fun x2 => (tb_pR 21 0 a0 w.1.length x2).bind fun w3 => (tb_gN 21 0 a0 (tb_new w3 18 2)).bind fun p5 => (tb_on 18 w3.1.length (tb_new w3 18 2) (fb_sr_init w3.1.length p5 (tb_new w3 18 2))).bind fun x6 => (tb_pR 21 1 a0 w3.1.length x6).bind fun w7 => (tb_gN 21 0 a0 (tb_new w7 14 4)).bind fun p9 => (tb_on 14 w7.1.length (tb_new w7 14 4) (fb_rr_init w7.1.length p9 (tb_new w7 14 4))).bind fun x10 => (tb_pR 21 2 a0 w7.1.length x10).bind fun w11 => (tb_na 4 6 w11).bind fun w12 => (tb_pR 21 3 a0 w11.1.length w12).bind fun w13 => (tb_pI 21 4 a0 0 w13).bind fun w14 => (tb_on 15 w14.1.length (tb_new w14 15 5) (fb_sc_init w14.1.length (tb_new w14 15 5))).bind fun x16 => (tb_pR 21 5 a0 w14.1.length x16).bind fun w17 => (tb_na 5 4 w17).bind fun w18 => (tb_pR 21 6 a0 w17.1.length w18).bind fun w19 => (tb_on 13 w19.1.length (tb_new w19 13 3) (fb_p_init w19.1.length (tb_new w19 13 3))).bind fun x21 => (tb_pR 21 7 a0 w19.1.length x21).bind fun w22 => (tb_on 11 w22.1.length (tb_new w22 11 2) (fb_jg_init w22.1.length (tb_new w22 11 2))).bind fun x24 => (tb_pR 21 8 a0 w22.1.length x24).bind fun w25 => (tb_on 10 w25.1.length (tb_new w25 10 3) (fb_h_init w25.1.length (tb_new w25 10 3))).bind fun x27 => (tb_pR 21 9 a0 w25.1.length x27).bind fun w28 => (tb_gN 21 8 a0 (tb_new w28 20 8)).bind fun p30 => (tb_on 20 w28.1.length (tb_new w28 20 8) (fb_yr_init w28.1.length p30 (tb_new w28 20 8))).bind fun x31 => (tb_pR 21 10 a0 w28.1.length x31).bind fun w32 => (tb_gN 21 8 a0 (tb_new w32 16 5)).bind fun p34 => (tb_on 16 w32.1.length (tb_new w32 16 5) (fb_so_init w32.1.length p34 (tb_new w32 16 5))).bind fun x35 => (tb_pR 21 11 a0 w32.1.length x35).bind fun w36 => some w36
set_option maxHeartbeats 4000000 in
set_option maxRecDepth 20000 in
theorem dc_x_init {a0 : Nat} {w : tb_Hp} {o : tb_Hp} (h : fb_x_init a0 w = some o) : tb_Ev tb_P 2 0 (0, tb_ent [.ref a0], [], w) (none, o) := by
  unfold fb_x_init at h
  obtain ⟨r, hr⟩ : ∃ r : Option Value × tb_Hp, r = (none, o) := ⟨_, rfl⟩
  rw [← hr]
  show tb_Ev tb_P 2 0 (0, [(0, .ref a0)], [], w) r
  refine tb_Es (k := 1) (st' := (1, [(0, .ref a0)], [.ref a0], w)) rfl ?_
  refine tb_e_ob rfl rfl ?_
  refine tb_Es (k := 3) (st' := (5, [(0, .ref a0)], [.ref w.1.length, .ref w.1.length, .ref a0], (tb_new w 19 10))) rfl ?_
  replace h := Option.bind_eq_some_iff.mp h
  obtain ⟨x2, ex2, h⟩ := h
  obtain ⟨hkx2, hcall⟩ := tb_on_some ex2
  refine tb_e_cv (v := none) rfl (Or.inr ⟨_, rfl⟩) rfl rfl (Nat.le_of_ble_eq_true rfl) rfl (Nat.le_of_ble_eq_true rfl) hkx2 ((dc_t_init hcall).up (by decide)) ?_
  replace h := Option.bind_eq_some_iff.mp h
  obtain ⟨w3, ew3, h⟩ := h
  refine tb_e_pR rfl ew3 ?_
  refine tb_Es (k := 4) (st' := (11, [(0, .ref a0)], [.ref a0, .ref w3.1.length, .ref w3.1.length, .ref a0], (tb_new w3 18 2))) rfl ?_
  replace h := Option.bind_eq_some_iff.mp h
  obtain ⟨p5, ep5, h⟩ := h
  refine tb_e_gN rfl ep5 ?_
  replace h := Option.bind_eq_some_iff.mp h
  obtain ⟨x6, ex6, h⟩ := h
  obtain ⟨hkx6, hcall⟩ := tb_on_some ex6
  refine tb_e_cv (v := none) rfl (Or.inr ⟨_, rfl⟩) rfl rfl (Nat.le_of_ble_eq_true rfl) rfl (Nat.le_of_ble_eq_true rfl) hkx6 ((dc_sr_init hcall).up (by decide)) ?_
  replace h := Option.bind_eq_some_iff.mp h
  obtain ⟨w7, ew7, h⟩ := h
  refine tb_e_pR rfl ew7 ?_
  refine tb_Es (k := 4) (st' := (18, [(0, .ref a0)], [.ref a0, .ref w7.1.length, .ref w7.1.length, .ref a0], (tb_new w7 14 4))) rfl ?_
  replace h := Option.bind_eq_some_iff.mp h
  obtain ⟨p9, ep9, h⟩ := h
  refine tb_e_gN rfl ep9 ?_
  replace h := Option.bind_eq_some_iff.mp h
  obtain ⟨x10, ex10, h⟩ := h
  obtain ⟨hkx10, hcall⟩ := tb_on_some ex10
  refine tb_e_cv (v := none) rfl (Or.inr ⟨_, rfl⟩) rfl rfl (Nat.le_of_ble_eq_true rfl) rfl (Nat.le_of_ble_eq_true rfl) hkx10 ((dc_rr_init hcall).up (by decide)) ?_
  replace h := Option.bind_eq_some_iff.mp h
  obtain ⟨w11, ew11, h⟩ := h
  refine tb_e_pR rfl ew11 ?_
  refine tb_Es (k := 2) (st' := (23, [(0, .ref a0)], [.int 6, .ref a0], w11)) rfl ?_
  replace h := Option.bind_eq_some_iff.mp h
  obtain ⟨w12, ew12, h⟩ := h
  refine tb_e_na rfl (Or.inr ⟨_, rfl⟩) ew12 ?_
  replace h := Option.bind_eq_some_iff.mp h
  obtain ⟨w13, ew13, h⟩ := h
  refine tb_e_pR rfl ew13 ?_
  refine tb_Es (k := 2) (st' := (27, [(0, .ref a0)], [.int 0, .ref a0], w13)) rfl ?_
  replace h := Option.bind_eq_some_iff.mp h
  obtain ⟨w14, ew14, h⟩ := h
  refine tb_e_pI rfl ew14 ?_
  refine tb_Es (k := 3) (st' := (31, [(0, .ref a0)], [.ref w14.1.length, .ref w14.1.length, .ref a0], (tb_new w14 15 5))) rfl ?_
  replace h := Option.bind_eq_some_iff.mp h
  obtain ⟨x16, ex16, h⟩ := h
  obtain ⟨hkx16, hcall⟩ := tb_on_some ex16
  refine tb_e_cv (v := none) rfl (Or.inr ⟨_, rfl⟩) rfl rfl (Nat.le_of_ble_eq_true rfl) rfl (Nat.le_of_ble_eq_true rfl) hkx16 ((dc_sc_init hcall).up (by decide)) ?_
  replace h := Option.bind_eq_some_iff.mp h
  obtain ⟨w17, ew17, h⟩ := h
  refine tb_e_pR rfl ew17 ?_
  refine tb_Es (k := 2) (st' := (35, [(0, .ref a0)], [.int 4, .ref a0], w17)) rfl ?_
  replace h := Option.bind_eq_some_iff.mp h
  obtain ⟨w18, ew18, h⟩ := h
  refine tb_e_na rfl (Or.inr ⟨_, rfl⟩) ew18 ?_
  replace h := Option.bind_eq_some_iff.mp h
  obtain ⟨w19, ew19, h⟩ := h
  refine tb_e_pR rfl ew19 ?_
  refine tb_Es (k := 3) (st' := (40, [(0, .ref a0)], [.ref w19.1.length, .ref w19.1.length, .ref a0], (tb_new w19 13 3))) rfl ?_
  replace h := Option.bind_eq_some_iff.mp h
  obtain ⟨x21, ex21, h⟩ := h
  obtain ⟨hkx21, hcall⟩ := tb_on_some ex21
  refine tb_e_cv (v := none) rfl (Or.inr ⟨_, rfl⟩) rfl rfl (Nat.le_of_ble_eq_true rfl) rfl (Nat.le_of_ble_eq_true rfl) hkx21 ((dc_p_init hcall).up (by decide)) ?_
  replace h := Option.bind_eq_some_iff.mp h
  obtain ⟨w22, ew22, h⟩ := h
  refine tb_e_pR rfl ew22 ?_
  refine tb_Es (k := 3) (st' := (45, [(0, .ref a0)], [.ref w22.1.length, .ref w22.1.length, .ref a0], (tb_new w22 11 2))) rfl ?_
  replace h := Option.bind_eq_some_iff.mp h
  obtain ⟨x24, ex24, h⟩ := h
  obtain ⟨hkx24, hcall⟩ := tb_on_some ex24
  refine tb_e_cv (v := none) rfl (Or.inr ⟨_, rfl⟩) rfl rfl (Nat.le_of_ble_eq_true rfl) rfl (Nat.le_of_ble_eq_true rfl) hkx24 ((dc_jg_init hcall).up (by decide)) ?_
  replace h := Option.bind_eq_some_iff.mp h
  obtain ⟨w25, ew25, h⟩ := h
  refine tb_e_pR rfl ew25 ?_
  refine tb_Es (k := 3) (st' := (50, [(0, .ref a0)], [.ref w25.1.length, .ref w25.1.length, .ref a0], (tb_new w25 10 3))) rfl ?_
  replace h := Option.bind_eq_some_iff.mp h
  obtain ⟨x27, ex27, h⟩ := h
  obtain ⟨hkx27, hcall⟩ := tb_on_some ex27
  refine tb_e_cv (v := none) rfl (Or.inr ⟨_, rfl⟩) rfl rfl (Nat.le_of_ble_eq_true rfl) rfl (Nat.le_of_ble_eq_true rfl) hkx27 ((dc_h_init hcall).up (by decide)) ?_
  replace h := Option.bind_eq_some_iff.mp h
  obtain ⟨w28, ew28, h⟩ := h
  refine tb_e_pR rfl ew28 ?_
  refine tb_Es (k := 4) (st' := (56, [(0, .ref a0)], [.ref a0, .ref w28.1.length, .ref w28.1.length, .ref a0], (tb_new w28 20 8))) rfl ?_
  replace h := Option.bind_eq_some_iff.mp h
  obtain ⟨p30, ep30, h⟩ := h
  refine tb_e_gN rfl ep30 ?_
  replace h := Option.bind_eq_some_iff.mp h
  obtain ⟨x31, ex31, h⟩ := h
  obtain ⟨hkx31, hcall⟩ := tb_on_some ex31
  refine tb_e_cv (v := none) rfl (Or.inr ⟨_, rfl⟩) rfl rfl (Nat.le_of_ble_eq_true rfl) rfl (Nat.le_of_ble_eq_true rfl) hkx31 ((dc_yr_init hcall).up (by decide)) ?_
  replace h := Option.bind_eq_some_iff.mp h
  obtain ⟨w32, ew32, h⟩ := h
  refine tb_e_pR rfl ew32 ?_
  refine tb_Es (k := 4) (st' := (63, [(0, .ref a0)], [.ref a0, .ref w32.1.length, .ref w32.1.length, .ref a0], (tb_new w32 16 5))) rfl ?_
  replace h := Option.bind_eq_some_iff.mp h
  obtain ⟨p34, ep34, h⟩ := h
  refine tb_e_gN rfl ep34 ?_
  replace h := Option.bind_eq_some_iff.mp h
  obtain ⟨x35, ex35, h⟩ := h
  obtain ⟨hkx35, hcall⟩ := tb_on_some ex35
  refine tb_e_cv (v := none) rfl (Or.inr ⟨_, rfl⟩) rfl rfl (Nat.le_of_ble_eq_true rfl) rfl (Nat.le_of_ble_eq_true rfl) hkx35 ((dc_so_init hcall).up (by decide)) ?_
  replace h := Option.bind_eq_some_iff.mp h
  obtain ⟨w36, ew36, h⟩ := h
  refine tb_e_pR rfl ew36 ?_
  obtain rfl := Option.some.inj h
  subst hr
  exact tb_Er rfl rfl
