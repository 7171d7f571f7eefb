/-! TannerBuntingModel.standIn(I)I -/
def fb_m_standIn (a0 : Nat) (a1 : Int32) (w : tb_Hp) : Option (Int32 × tb_Hp) := (tb_on 22 a0 w (fb_m_passesAll a0 a1 w)).bind fun x1 => (tb_on 22 a0 x1 (fb_m_standingOnes a0 x1)).bind fun x2 => (fb_m_bits x2.1 x2.2).bind fun x3 => (tb_on 22 a0 x3.2 (fb_m_laysBack a0 x3.2)).bind fun x4 => some (x3.1, x4)
set_option maxHeartbeats 4000000 in
set_option maxRecDepth 20000 in
theorem dc_m_standIn {a0 : Nat} {a1 : Int32} {w : tb_Hp} {o : Int32 × tb_Hp} (h : fb_m_standIn a0 a1 w = some o) : tb_Ev tb_P 8 279 (0, tb_ent [.ref a0, .int a1], [], w) (some (.int o.1), o.2) := by
  unfold fb_m_standIn at h
  obtain ⟨r, hr⟩ : ∃ r : Option Value × tb_Hp, r = (some (.int o.1), o.2) := ⟨_, rfl⟩
  rw [← hr]
  show tb_Ev tb_P 8 279 (0, [(0, .ref a0), (1, .int a1)], [], w) r
  refine tb_Es (k := 2) (st' := (2, [(0, .ref a0), (1, .int a1)], [.int a1, .ref a0], w)) rfl ?_
  replace h := Option.bind_eq_some_iff.mp h
  obtain ⟨x1, ex1, h⟩ := h
  obtain ⟨hkx1, hcall⟩ := tb_on_some ex1
  refine tb_e_cv (v := none) rfl (Or.inl ⟨_, rfl⟩) rfl rfl (Nat.le_of_ble_eq_true rfl) rfl (Nat.le_of_ble_eq_true rfl) hkx1 ((dc_m_passesAll hcall).up (by decide)) ?_
  refine tb_Es (k := 1) (st' := (4, [(0, .ref a0), (1, .int a1)], [.ref a0], x1)) rfl ?_
  replace h := Option.bind_eq_some_iff.mp h
  obtain ⟨x2, ex2, h⟩ := h
  obtain ⟨hkx2, hcall⟩ := tb_on_some ex2
  refine tb_e_cv (v := some (.int x2.1)) rfl (Or.inl ⟨_, rfl⟩) rfl rfl (Nat.le_of_ble_eq_true rfl) rfl (Nat.le_of_ble_eq_true rfl) hkx2 ((dc_m_standingOnes hcall).up (by decide)) ?_
  replace h := Option.bind_eq_some_iff.mp h
  obtain ⟨x3, ex3, h⟩ := h
  have hcall := ex3
  refine tb_e_cs (v := some (.int x3.1)) rfl rfl rfl (Nat.le_of_ble_eq_true rfl) rfl (Nat.le_of_ble_eq_true rfl) ((dc_m_bits hcall).up (by decide)) ?_
  refine tb_Es (k := 2) (st' := (8, [(2, .int x3.1), (0, .ref a0), (1, .int a1)], [.ref a0], x3.2)) rfl ?_
  replace h := Option.bind_eq_some_iff.mp h
  obtain ⟨x4, ex4, h⟩ := h
  obtain ⟨hkx4, hcall⟩ := tb_on_some ex4
  refine tb_e_cv (v := none) rfl (Or.inl ⟨_, rfl⟩) rfl rfl (Nat.le_of_ble_eq_true rfl) rfl (Nat.le_of_ble_eq_true rfl) hkx4 ((dc_m_laysBack hcall).up (by decide)) ?_
  refine tb_Es (k := 1) (st' := (10, [(2, .int x3.1), (0, .ref a0), (1, .int a1)], [.int x3.1], x4)) rfl ?_
  obtain rfl := Option.some.inj h
  subst hr
  exact tb_Er rfl rfl
/-! TannerBuntingModel.rests(IIII)I -/
def fl_m_rests_29 : Nat → Nat → Int32 → Int32 → Int32 → Int32 → Int32 → tb_Hp → Option (Nat × Int32 × tb_Hp)
  | 0, _, _, _, _, _, _, _ => none
  | n + 1, v0, v1, v2, v3, v4, v5, w => (if v5 < 4 then (tb_on 22 v0 w (fb_m_fillsRest v0 v1 v2 v5 v3 w)).bind fun x6 => fl_m_rests_29 n v0 v1 v2 v3 v4 (v5 + 1) x6 else some ((v0, v4, w)))
set_option maxHeartbeats 4000000 in
set_option maxRecDepth 20000 in
theorem dl_m_rests_29 : ∀ (n : Nat) (v0 : Nat) (v1 : Int32) (v2 : Int32) (v3 : Int32) (v4 : Int32) (v5 : Int32) (w : tb_Hp) (o : Nat × Int32 × tb_Hp), fl_m_rests_29 n v0 v1 v2 v3 v4 v5 w = some o → ∀ (r : Option Value × tb_Hp), tb_Ev tb_P 8 280 (42, [(0, .ref o.1), (4, .int o.2.1)], [], o.2.2) r → tb_Ev tb_P 8 280 (30, [(0, .ref v0), (1, .int v1), (2, .int v2), (3, .int v3), (4, .int v4), (5, .int v5)], [], w) r := by
  intro n
  induction n with
  | zero =>
    intro v0 v1 v2 v3 v4 v5 w o h
    cases h
  | succ n ih =>
    intro v0 v1 v2 v3 v4 v5 w o h r hx
    unfold fl_m_rests_29 at h
    refine tb_Es (k := 2) (st' := (32, [(0, .ref v0), (1, .int v1), (2, .int v2), (3, .int v3), (4, .int v4), (5, .int v5)], [.int 4, .int v5], w)) rfl ?_
    refine tb_b_cge rfl (fun hc => ?_) (fun hc => ?_)
    · rw [if_pos hc] at h
      refine tb_Es (k := 5) (st' := (38, [(0, .ref v0), (1, .int v1), (2, .int v2), (3, .int v3), (4, .int v4), (5, .int v5)], [.int v3, .int v5, .int v2, .int v1, .ref v0], w)) rfl ?_
      replace h := Option.bind_eq_some_iff.mp h
      obtain ⟨x6, ex6, h⟩ := h
      obtain ⟨hkx6, hcall⟩ := tb_on_some ex6
      refine tb_e_cv (v := none) rfl (Or.inl ⟨_, rfl⟩) rfl rfl (Nat.le_of_ble_eq_true rfl) rfl (Nat.le_of_ble_eq_true rfl) hkx6 ((dc_m_fillsRest hcall).up (by decide)) ?_
      refine tb_Es (k := 3) (st' := (30, [(0, .ref v0), (1, .int v1), (2, .int v2), (3, .int v3), (4, .int v4), (5, .int (v5 + 1))], [], x6)) rfl ?_
      exact ih v0 v1 v2 v3 v4 (v5 + 1) x6 _ h r hx
    · rw [if_neg hc] at h
      refine tb_Es (k := 1) (st' := (42, [(0, .ref v0), (4, .int v4)], [], w)) rfl ?_
      obtain rfl := Option.some.inj h
      exact hx
def fl_m_rests_46 : Nat → Nat → Int32 → Int32 → Int32 → Int32 → tb_Hp → Option (Int32 × Int32 × Int32 × tb_Hp)
  | 0, _, _, _, _, _, _ => none
  | n + 1, v0, v4, v5, v6, v7, w => (if v7 < 0 then some ((v4, v5, v6, w)) else (tb_on 22 v0 w (fb_m_isRest v0 (v7 / 2) (v7 - v7 / 2 * 2) w)).bind fun x8 => (if x8.1 = 0 then fl_m_rests_46 n v0 v4 v5 v6 (v7 + (-1)) x8.2 else fl_m_rests_46 n v0 v4 (v5 + 1) v7 (v7 + (-1)) x8.2))
set_option maxHeartbeats 4000000 in
set_option maxRecDepth 20000 in
theorem dl_m_rests_46 : ∀ (n : Nat) (v0 : Nat) (v4 : Int32) (v5 : Int32) (v6 : Int32) (v7 : Int32) (w : tb_Hp) (o : Int32 × Int32 × Int32 × tb_Hp), fl_m_rests_46 n v0 v4 v5 v6 v7 w = some o → ∀ (r : Option Value × tb_Hp), tb_Ev tb_P 8 280 (67, [(4, .int o.1), (5, .int o.2.1), (6, .int o.2.2.1)], [], o.2.2.2) r → tb_Ev tb_P 8 280 (49, [(0, .ref v0), (4, .int v4), (5, .int v5), (6, .int v6), (7, .int v7)], [], w) r := by
  intro n
  induction n with
  | zero =>
    intro v0 v4 v5 v6 v7 w o h
    cases h
  | succ n ih =>
    intro v0 v4 v5 v6 v7 w o h r hx
    unfold fl_m_rests_46 at h
    refine tb_Es (k := 1) (st' := (50, [(0, .ref v0), (4, .int v4), (5, .int v5), (6, .int v6), (7, .int v7)], [.int v7], w)) rfl ?_
    refine tb_b_ilt rfl (fun hc => ?_) (fun hc => ?_)
    · rw [if_pos hc] at h
      refine tb_Es (k := 1) (st' := (67, [(4, .int v4), (5, .int v5), (6, .int v6)], [], w)) rfl ?_
      obtain rfl := Option.some.inj h
      exact hx
    · rw [if_neg hc] at h
      refine tb_Es (k := 3) (st' := (54, [(0, .ref v0), (4, .int v4), (5, .int v5), (6, .int v6), (7, .int v7)], [.int 2, .int v7, .ref v0], w)) rfl ?_
      refine tb_e_idiv rfl (by decide) ?_
      refine tb_Es (k := 2) (st' := (57, [(0, .ref v0), (4, .int v4), (5, .int v5), (6, .int v6), (7, .int v7)], [.int 2, .int v7, .int (v7 / 2), .ref v0], w)) rfl ?_
      refine tb_e_irem rfl (by decide) ?_
      replace h := Option.bind_eq_some_iff.mp h
      obtain ⟨x8, ex8, h⟩ := h
      obtain ⟨hkx8, hcall⟩ := tb_on_some ex8
      refine tb_e_cv (v := some (.int x8.1)) rfl (Or.inl ⟨_, rfl⟩) rfl rfl (Nat.le_of_ble_eq_true rfl) rfl (Nat.le_of_ble_eq_true rfl) hkx8 ((dc_m_isRest hcall).up (by decide)) ?_
      refine tb_b_ine rfl (fun hc => ?_) (fun hc => ?_)
      · rw [if_pos hc] at h
        refine tb_Es (k := 4) (st' := (49, [(0, .ref v0), (4, .int v4), (5, .int v5), (6, .int v6), (7, .int (v7 + (-1)))], [], x8.2)) rfl ?_
        exact ih v0 v4 v5 v6 (v7 + (-1)) x8.2 _ h r hx
      · rw [if_neg hc] at h
        refine tb_Es (k := 6) (st' := (49, [(0, .ref v0), (4, .int v4), (5, .int (v5 + 1)), (6, .int v7), (7, .int (v7 + (-1)))], [], x8.2)) rfl ?_
        exact ih v0 v4 (v5 + 1) v7 (v7 + (-1)) x8.2 _ h r hx
def fb_m_rests (a0 : Nat) (a1 : Int32) (a2 : Int32) (a3 : Int32) (a4 : Int32) (w : tb_Hp) : Option (Int32 × tb_Hp) := (tb_on 22 a0 w (fb_m_isStanding a0 a1 w)).bind fun x1 => (if x1.1 = 0 then some (-1, x1.2) else (tb_on 22 a0 x1.2 (fb_m_isStanding a0 a2 x1.2)).bind fun x2 => (if x2.1 = 0 then some (-1, x2.2) else (if a1 = a2 then some (-1, x2.2) else (fb_m_in (Int32.toInt64 a3) 1 20 x2.2).bind fun x3 => (if x3.1 = 0 then some (-1, x3.2) else (fb_m_in (Int32.toInt64 a4) 0 2 x3.2).bind fun x4 => (if x4.1 = 0 then some (-1, x4.2) else (tb_on 22 a0 x4.2 (fb_m_keeps a0 x4.2)).bind fun x5 => (fl_m_rests_29 1048576 a0 a1 a2 a3 a4 0 x5).bind fun o7 => (fl_m_rests_46 1048576 o7.1 o7.2.1 0 (-1) 3 o7.2.2).bind fun o9 => (if o9.1 = 0 then some (o9.2.1, o9.2.2.2) else (if o9.2.2.1 < 0 then some (-2, o9.2.2.2) else (if o9.1 = 1 then some (o9.2.2.1 / 2, o9.2.2.2) else some (o9.2.2.1 - o9.2.2.1 / 2 * 2, o9.2.2.2)))))))))
set_option maxHeartbeats 4000000 in
set_option maxRecDepth 20000 in
theorem dc_m_rests {a0 : Nat} {a1 : Int32} {a2 : Int32} {a3 : Int32} {a4 : Int32} {w : tb_Hp} {o : Int32 × tb_Hp} (h : fb_m_rests a0 a1 a2 a3 a4 w = some o) : tb_Ev tb_P 8 280 (0, tb_ent [.ref a0, .int a1, .int a2, .int a3, .int a4], [], w) (some (.int o.1), o.2) := by
  unfold fb_m_rests at h
  obtain ⟨r, hr⟩ : ∃ r : Option Value × tb_Hp, r = (some (.int o.1), o.2) := ⟨_, rfl⟩
  rw [← hr]
  show tb_Ev tb_P 8 280 (0, [(0, .ref a0), (1, .int a1), (2, .int a2), (3, .int a3), (4, .int a4)], [], w) r
  refine tb_Es (k := 2) (st' := (2, [(0, .ref a0), (1, .int a1), (2, .int a2), (3, .int a3), (4, .int a4)], [.int a1, .ref a0], w)) rfl ?_
  replace h := Option.bind_eq_some_iff.mp h
  obtain ⟨x1, ex1, h⟩ := h
  obtain ⟨hkx1, hcall⟩ := tb_on_some ex1
  refine tb_e_cv (v := some (.int x1.1)) rfl (Or.inl ⟨_, rfl⟩) rfl rfl (Nat.le_of_ble_eq_true rfl) rfl (Nat.le_of_ble_eq_true rfl) hkx1 ((dc_m_isStanding hcall).up (by decide)) ?_
  refine tb_b_ieq rfl (fun hc => ?_) (fun hc => ?_)
  · rw [if_pos hc] at h
    refine tb_Es (k := 1) (st' := (24, [(0, .ref a0), (1, .int a1), (2, .int a2), (3, .int a3), (4, .int a4)], [.int (-1)], x1.2)) rfl ?_
    obtain rfl := Option.some.inj h
    subst hr
    exact tb_Er rfl rfl
  · rw [if_neg hc] at h
    refine tb_Es (k := 2) (st' := (6, [(0, .ref a0), (1, .int a1), (2, .int a2), (3, .int a3), (4, .int a4)], [.int a2, .ref a0], x1.2)) rfl ?_
    replace h := Option.bind_eq_some_iff.mp h
    obtain ⟨x2, ex2, h⟩ := h
    obtain ⟨hkx2, hcall⟩ := tb_on_some ex2
    refine tb_e_cv (v := some (.int x2.1)) rfl (Or.inl ⟨_, rfl⟩) rfl rfl (Nat.le_of_ble_eq_true rfl) rfl (Nat.le_of_ble_eq_true rfl) hkx2 ((dc_m_isStanding hcall).up (by decide)) ?_
    refine tb_b_ieq rfl (fun hc => ?_) (fun hc => ?_)
    · rw [if_pos hc] at h
      refine tb_Es (k := 1) (st' := (24, [(0, .ref a0), (1, .int a1), (2, .int a2), (3, .int a3), (4, .int a4)], [.int (-1)], x2.2)) rfl ?_
      obtain rfl := Option.some.inj h
      subst hr
      exact tb_Er rfl rfl
    · rw [if_neg hc] at h
      refine tb_Es (k := 2) (st' := (10, [(0, .ref a0), (1, .int a1), (2, .int a2), (3, .int a3), (4, .int a4)], [.int a2, .int a1], x2.2)) rfl ?_
      refine tb_b_ceq rfl (fun hc => ?_) (fun hc => ?_)
      · rw [if_pos hc] at h
        refine tb_Es (k := 1) (st' := (24, [(0, .ref a0), (1, .int a1), (2, .int a2), (3, .int a3), (4, .int a4)], [.int (-1)], x2.2)) rfl ?_
        obtain rfl := Option.some.inj h
        subst hr
        exact tb_Er rfl rfl
      · rw [if_neg hc] at h
        refine tb_Es (k := 4) (st' := (15, [(0, .ref a0), (1, .int a1), (2, .int a2), (3, .int a3), (4, .int a4)], [.long 20, .long 1, .long (Int32.toInt64 a3)], x2.2)) rfl ?_
        replace h := Option.bind_eq_some_iff.mp h
        obtain ⟨x3, ex3, h⟩ := h
        have hcall := ex3
        refine tb_e_cs (v := some (.int x3.1)) rfl rfl rfl (Nat.le_of_ble_eq_true rfl) rfl (Nat.le_of_ble_eq_true rfl) ((dc_m_in hcall).up (by decide)) ?_
        refine tb_b_ieq rfl (fun hc => ?_) (fun hc => ?_)
        · rw [if_pos hc] at h
          refine tb_Es (k := 1) (st' := (24, [(0, .ref a0), (1, .int a1), (2, .int a2), (3, .int a3), (4, .int a4)], [.int (-1)], x3.2)) rfl ?_
          obtain rfl := Option.some.inj h
          subst hr
          exact tb_Er rfl rfl
        · rw [if_neg hc] at h
          refine tb_Es (k := 4) (st' := (21, [(0, .ref a0), (1, .int a1), (2, .int a2), (3, .int a3), (4, .int a4)], [.long 2, .long 0, .long (Int32.toInt64 a4)], x3.2)) rfl ?_
          replace h := Option.bind_eq_some_iff.mp h
          obtain ⟨x4, ex4, h⟩ := h
          have hcall := ex4
          refine tb_e_cs (v := some (.int x4.1)) rfl rfl rfl (Nat.le_of_ble_eq_true rfl) rfl (Nat.le_of_ble_eq_true rfl) ((dc_m_in hcall).up (by decide)) ?_
          refine tb_b_ine rfl (fun hc => ?_) (fun hc => ?_)
          · rw [if_pos hc] at h
            refine tb_Es (k := 1) (st' := (24, [(0, .ref a0), (1, .int a1), (2, .int a2), (3, .int a3), (4, .int a4)], [.int (-1)], x4.2)) rfl ?_
            obtain rfl := Option.some.inj h
            subst hr
            exact tb_Er rfl rfl
          · rw [if_neg hc] at h
            refine tb_Es (k := 1) (st' := (26, [(0, .ref a0), (1, .int a1), (2, .int a2), (3, .int a3), (4, .int a4)], [.ref a0], x4.2)) rfl ?_
            replace h := Option.bind_eq_some_iff.mp h
            obtain ⟨x5, ex5, h⟩ := h
            obtain ⟨hkx5, hcall⟩ := tb_on_some ex5
            refine tb_e_cv (v := none) rfl (Or.inl ⟨_, rfl⟩) rfl rfl (Nat.le_of_ble_eq_true rfl) rfl (Nat.le_of_ble_eq_true rfl) hkx5 ((dc_m_keeps hcall).up (by decide)) ?_
            refine tb_Es (k := 3) (st' := (30, [(0, .ref a0), (1, .int a1), (2, .int a2), (3, .int a3), (4, .int a4), (5, .int 0)], [], x5)) rfl ?_
            replace h := Option.bind_eq_some_iff.mp h
            obtain ⟨o7, eo7, h⟩ := h
            refine dl_m_rests_29 _ a0 a1 a2 a3 a4 0 x5 _ eo7 r ?_
            refine tb_Es (k := 7) (st' := (49, [(0, .ref o7.1), (4, .int o7.2.1), (5, .int 0), (6, .int (-1)), (7, .int 3)], [], o7.2.2)) rfl ?_
            replace h := Option.bind_eq_some_iff.mp h
            obtain ⟨o9, eo9, h⟩ := h
            refine dl_m_rests_46 _ o7.1 o7.2.1 0 (-1) 3 o7.2.2 _ eo9 r ?_
            refine tb_Es (k := 1) (st' := (68, [(4, .int o9.1), (5, .int o9.2.1), (6, .int o9.2.2.1)], [.int o9.1], o9.2.2.2)) rfl ?_
            refine tb_b_ine rfl (fun hc => ?_) (fun hc => ?_)
            · rw [if_pos hc] at h
              refine tb_Es (k := 1) (st' := (70, [(4, .int o9.1), (5, .int o9.2.1), (6, .int o9.2.2.1)], [.int o9.2.1], o9.2.2.2)) rfl ?_
              obtain rfl := Option.some.inj h
              subst hr
              exact tb_Er rfl rfl
            · rw [if_neg hc] at h
              refine tb_Es (k := 1) (st' := (72, [(4, .int o9.1), (5, .int o9.2.1), (6, .int o9.2.2.1)], [.int o9.2.2.1], o9.2.2.2)) rfl ?_
              refine tb_b_ige rfl (fun hc => ?_) (fun hc => ?_)
              · rw [if_pos hc] at h
                refine tb_Es (k := 2) (st' := (85, [(4, .int o9.1), (5, .int o9.2.1), (6, .int o9.2.2.1)], [.int (-2)], o9.2.2.2)) rfl ?_
                obtain rfl := Option.some.inj h
                subst hr
                exact tb_Er rfl rfl
              · rw [if_neg hc] at h
                refine tb_Es (k := 2) (st' := (77, [(4, .int o9.1), (5, .int o9.2.1), (6, .int o9.2.2.1)], [.int 1, .int o9.1], o9.2.2.2)) rfl ?_
                refine tb_b_cne rfl (fun hc => ?_) (fun hc => ?_)
                · rw [if_pos hc] at h
                  refine tb_Es (k := 2) (st' := (80, [(4, .int o9.1), (5, .int o9.2.1), (6, .int o9.2.2.1)], [.int 2, .int o9.2.2.1], o9.2.2.2)) rfl ?_
                  refine tb_e_idiv rfl (by decide) ?_
                  refine tb_Es (k := 1) (st' := (85, [(4, .int o9.1), (5, .int o9.2.1), (6, .int o9.2.2.1)], [.int (o9.2.2.1 / 2)], o9.2.2.2)) rfl ?_
                  obtain rfl := Option.some.inj h
                  subst hr
                  exact tb_Er rfl rfl
                · rw [if_neg hc] at h
                  refine tb_Es (k := 2) (st' := (84, [(4, .int o9.1), (5, .int o9.2.1), (6, .int o9.2.2.1)], [.int 2, .int o9.2.2.1], o9.2.2.2)) rfl ?_
                  refine tb_e_irem rfl (by decide) ?_
                  obtain rfl := Option.some.inj h
                  subst hr
                  exact tb_Er rfl rfl
/-! TannerBuntingModel.fillsFits(I)V -/
def fl_m_fillsFits_7 : Nat → Nat → Int32 → Int32 → Int32 → tb_Hp → Option (Nat × Int32 × tb_Hp)
  | 0, _, _, _, _, _ => none
  | n + 1, v0, v1, v2, v3, w => (tb_gI 22 2 v0 w).bind fun x3 => (if v3 ≤ x3 then (tb_pI 22 21 v0 (v3 - 1) w).bind fun w4 => (tb_on 22 v0 w4 (fb_m_begins v0 w4)).bind fun x5 => (tb_gN 22 29 v0 x5).bind fun p6 => (tb_on 22 v0 x5 (fb_m_areAllSo v0 v3 v1 x5)).bind fun x7 => (tb_tB p6 v3 x7.1 x7.2).bind fun w8 => fl_m_fillsFits_7 n v0 v1 v2 (v3 + 1) w8 else some ((v0, v2, w)))
set_option maxHeartbeats 4000000 in
set_option maxRecDepth 20000 in
theorem dl_m_fillsFits_7 : ∀ (n : Nat) (v0 : Nat) (v1 : Int32) (v2 : Int32) (v3 : Int32) (w : tb_Hp) (o : Nat × Int32 × tb_Hp), fl_m_fillsFits_7 n v0 v1 v2 v3 w = some o → ∀ (r : Option Value × tb_Hp), tb_Ev tb_P 8 287 (30, [(0, .ref o.1), (2, .int o.2.1)], [], o.2.2) r → tb_Ev tb_P 8 287 (8, [(0, .ref v0), (1, .int v1), (2, .int v2), (3, .int v3)], [], w) r := by
  intro n
  induction n with
  | zero =>
    intro v0 v1 v2 v3 w o h
    cases h
  | succ n ih =>
    intro v0 v1 v2 v3 w o h r hx
    unfold fl_m_fillsFits_7 at h
    refine tb_Es (k := 2) (st' := (10, [(0, .ref v0), (1, .int v1), (2, .int v2), (3, .int v3)], [.ref v0, .int v3], w)) rfl ?_
    replace h := Option.bind_eq_some_iff.mp h
    obtain ⟨x3, ex3, h⟩ := h
    refine tb_e_gI rfl ex3 ?_
    refine tb_b_cgt rfl (fun hc => ?_) (fun hc => ?_)
    · rw [if_pos hc] at h
      refine tb_Es (k := 4) (st' := (16, [(0, .ref v0), (1, .int v1), (2, .int v2), (3, .int v3)], [.int (v3 - 1), .ref v0], w)) rfl ?_
      replace h := Option.bind_eq_some_iff.mp h
      obtain ⟨w4, ew4, h⟩ := h
      refine tb_e_pI rfl ew4 ?_
      refine tb_Es (k := 1) (st' := (18, [(0, .ref v0), (1, .int v1), (2, .int v2), (3, .int v3)], [.ref v0], w4)) rfl ?_
      replace h := Option.bind_eq_some_iff.mp h
      obtain ⟨x5, ex5, h⟩ := h
      obtain ⟨hkx5, hcall⟩ := tb_on_some ex5
      refine tb_e_cv (v := none) rfl (Or.inl ⟨_, rfl⟩) rfl rfl (Nat.le_of_ble_eq_true rfl) rfl (Nat.le_of_ble_eq_true rfl) hkx5 ((dc_m_begins hcall).up (by decide)) ?_
      refine tb_Es (k := 1) (st' := (20, [(0, .ref v0), (1, .int v1), (2, .int v2), (3, .int v3)], [.ref v0], x5)) rfl ?_
      replace h := Option.bind_eq_some_iff.mp h
      obtain ⟨p6, ep6, h⟩ := h
      refine tb_e_gN rfl ep6 ?_
      refine tb_Es (k := 4) (st' := (25, [(0, .ref v0), (1, .int v1), (2, .int v2), (3, .int v3)], [.int v1, .int v3, .ref v0, .int v3, .ref p6], x5)) rfl ?_
      replace h := Option.bind_eq_some_iff.mp h
      obtain ⟨x7, ex7, h⟩ := h
      obtain ⟨hkx7, hcall⟩ := tb_on_some ex7
      refine tb_e_cv (v := some (.int x7.1)) rfl (Or.inl ⟨_, rfl⟩) rfl rfl (Nat.le_of_ble_eq_true rfl) rfl (Nat.le_of_ble_eq_true rfl) hkx7 ((dc_m_areAllSo hcall).up (by decide)) ?_
      replace h := Option.bind_eq_some_iff.mp h
      obtain ⟨w8, ew8, h⟩ := h
      refine tb_e_tB rfl ew8 ?_
      refine tb_Es (k := 3) (st' := (8, [(0, .ref v0), (1, .int v1), (2, .int v2), (3, .int (v3 + 1))], [], w8)) rfl ?_
      exact ih v0 v1 v2 (v3 + 1) w8 _ h r hx
    · rw [if_neg hc] at h
      refine tb_Es (k := 1) (st' := (30, [(0, .ref v0), (2, .int v2)], [], w)) rfl ?_
      obtain rfl := Option.some.inj h
      exact hx
def fb_m_fillsFits (a0 : Nat) (a1 : Int32) (w : tb_Hp) : Option (tb_Hp) := (tb_gI 22 21 a0 w).bind fun x1 => (tb_on 22 a0 w (fb_m_keeps a0 w)).bind fun x2 => (fl_m_fillsFits_7 1048576 a0 a1 x1 0 x2).bind fun o9 => (tb_pI 22 21 o9.1 o9.2.1 o9.2.2).bind fun w10 => (tb_on 22 o9.1 w10 (fb_m_laysBack o9.1 w10)).bind fun x11 => some x11
set_option maxHeartbeats 4000000 in
set_option maxRecDepth 20000 in
theorem dc_m_fillsFits {a0 : Nat} {a1 : Int32} {w : tb_Hp} {o : tb_Hp} (h : fb_m_fillsFits a0 a1 w = some o) : tb_Ev tb_P 8 287 (0, tb_ent [.ref a0, .int a1], [], w) (none, o) := by
  unfold fb_m_fillsFits at h
  obtain ⟨r, hr⟩ : ∃ r : Option Value × tb_Hp, r = (none, o) := ⟨_, rfl⟩
  rw [← hr]
  show tb_Ev tb_P 8 287 (0, [(0, .ref a0), (1, .int a1)], [], w) r
  refine tb_Es (k := 1) (st' := (1, [(0, .ref a0), (1, .int a1)], [.ref a0], w)) rfl ?_
  replace h := Option.bind_eq_some_iff.mp h
  obtain ⟨x1, ex1, h⟩ := h
  refine tb_e_gI rfl ex1 ?_
  refine tb_Es (k := 2) (st' := (4, [(2, .int x1), (0, .ref a0), (1, .int a1)], [.ref a0], w)) rfl ?_
  replace h := Option.bind_eq_some_iff.mp h
  obtain ⟨x2, ex2, h⟩ := h
  obtain ⟨hkx2, hcall⟩ := tb_on_some ex2
  refine tb_e_cv (v := none) rfl (Or.inl ⟨_, rfl⟩) rfl rfl (Nat.le_of_ble_eq_true rfl) rfl (Nat.le_of_ble_eq_true rfl) hkx2 ((dc_m_keeps hcall).up (by decide)) ?_
  refine tb_Es (k := 3) (st' := (8, [(0, .ref a0), (1, .int a1), (2, .int x1), (3, .int 0)], [], x2)) rfl ?_
  replace h := Option.bind_eq_some_iff.mp h
  obtain ⟨o9, eo9, h⟩ := h
  refine dl_m_fillsFits_7 _ a0 a1 x1 0 x2 _ eo9 r ?_
  refine tb_Es (k := 2) (st' := (32, [(0, .ref o9.1), (2, .int o9.2.1)], [.int o9.2.1, .ref o9.1], o9.2.2)) rfl ?_
  replace h := Option.bind_eq_some_iff.mp h
  obtain ⟨w10, ew10, h⟩ := h
  refine tb_e_pI rfl ew10 ?_
  refine tb_Es (k := 1) (st' := (34, [(0, .ref o9.1), (2, .int o9.2.1)], [.ref o9.1], w10)) rfl ?_
  replace h := Option.bind_eq_some_iff.mp h
  obtain ⟨x11, ex11, h⟩ := h
  obtain ⟨hkx11, hcall⟩ := tb_on_some ex11
  refine tb_e_cv (v := none) rfl (Or.inl ⟨_, rfl⟩) rfl rfl (Nat.le_of_ble_eq_true rfl) rfl (Nat.le_of_ble_eq_true rfl) hkx11 ((dc_m_laysBack hcall).up (by decide)) ?_
  obtain rfl := Option.some.inj h
  subst hr
  exact tb_Er rfl rfl
/-! TannerBuntingModel.pulled(II)I -/
def fl_m_pulled_37 : Nat → Nat → Int32 → Int32 → Int32 → Int32 → Int32 → Int32 → tb_Hp → Option (Nat × Int32 × Int32 × Int32 × Int32 × Int32 × tb_Hp)
  | 0, _, _, _, _, _, _, _, _ => none
  | n + 1, v0, v2, v3, v4, v5, v6, v7, w => (if 0 < v7 then (tb_gN 22 20 v0 w).bind fun p7 => (tb_tI p7 v3 v7 w).bind fun w8 => (tb_on 22 v0 w8 (fb_m_begins v0 w8)).bind fun x9 => (tb_on 22 v0 x9 (fb_m_areAllSo v0 0 (-1) x9)).bind fun x10 => (if x10.1 = 0 then fl_m_pulled_37 n v0 v2 v3 v4 v5 v6 (v7 + (-1)) x10.2 else fl_m_pulled_37 n v0 v2 v3 v4 (v5 + 1) v7 (v7 + (-1)) x10.2) else some ((v0, v2, v3, v4, v5, v6, w)))
set_option maxHeartbeats 4000000 in
set_option maxRecDepth 20000 in
theorem dl_m_pulled_37 : ∀ (n : Nat) (v0 : Nat) (v2 : Int32) (v3 : Int32) (v4 : Int32) (v5 : Int32) (v6 : Int32) (v7 : Int32) (w : tb_Hp) (o : Nat × Int32 × Int32 × Int32 × Int32 × Int32 × tb_Hp), fl_m_pulled_37 n v0 v2 v3 v4 v5 v6 v7 w = some o → ∀ (r : Option Value × tb_Hp), tb_Ev tb_P 8 292 (59, [(0, .ref o.1), (2, .int o.2.1), (3, .int o.2.2.1), (4, .int o.2.2.2.1), (5, .int o.2.2.2.2.1), (6, .int o.2.2.2.2.2.1)], [], o.2.2.2.2.2.2) r → tb_Ev tb_P 8 292 (38, [(0, .ref v0), (2, .int v2), (3, .int v3), (4, .int v4), (5, .int v5), (6, .int v6), (7, .int v7)], [], w) r := by
  intro n
  induction n with
  | zero =>
    intro v0 v2 v3 v4 v5 v6 v7 w o h
    cases h
  | succ n ih =>
    intro v0 v2 v3 v4 v5 v6 v7 w o h r hx
    unfold fl_m_pulled_37 at h
    refine tb_Es (k := 1) (st' := (39, [(0, .ref v0), (2, .int v2), (3, .int v3), (4, .int v4), (5, .int v5), (6, .int v6), (7, .int v7)], [.int v7], w)) rfl ?_
    refine tb_b_ile rfl (fun hc => ?_) (fun hc => ?_)
    · rw [if_pos hc] at h
      refine tb_Es (k := 1) (st' := (41, [(0, .ref v0), (2, .int v2), (3, .int v3), (4, .int v4), (5, .int v5), (6, .int v6), (7, .int v7)], [.ref v0], w)) rfl ?_
      replace h := Option.bind_eq_some_iff.mp h
      obtain ⟨p7, ep7, h⟩ := h
      refine tb_e_gN rfl ep7 ?_
      refine tb_Es (k := 2) (st' := (44, [(0, .ref v0), (2, .int v2), (3, .int v3), (4, .int v4), (5, .int v5), (6, .int v6), (7, .int v7)], [.int v7, .int v3, .ref p7], w)) rfl ?_
      replace h := Option.bind_eq_some_iff.mp h
      obtain ⟨w8, ew8, h⟩ := h
      refine tb_e_tI rfl ew8 ?_
      refine tb_Es (k := 1) (st' := (46, [(0, .ref v0), (2, .int v2), (3, .int v3), (4, .int v4), (5, .int v5), (6, .int v6), (7, .int v7)], [.ref v0], w8)) rfl ?_
      replace h := Option.bind_eq_some_iff.mp h
      obtain ⟨x9, ex9, h⟩ := h
      obtain ⟨hkx9, hcall⟩ := tb_on_some ex9
      refine tb_e_cv (v := none) rfl (Or.inl ⟨_, rfl⟩) rfl rfl (Nat.le_of_ble_eq_true rfl) rfl (Nat.le_of_ble_eq_true rfl) hkx9 ((dc_m_begins hcall).up (by decide)) ?_
      refine tb_Es (k := 3) (st' := (50, [(0, .ref v0), (2, .int v2), (3, .int v3), (4, .int v4), (5, .int v5), (6, .int v6), (7, .int v7)], [.int (-1), .int 0, .ref v0], x9)) rfl ?_
      replace h := Option.bind_eq_some_iff.mp h
      obtain ⟨x10, ex10, h⟩ := h
      obtain ⟨hkx10, hcall⟩ := tb_on_some ex10
      refine tb_e_cv (v := some (.int x10.1)) rfl (Or.inl ⟨_, rfl⟩) rfl rfl (Nat.le_of_ble_eq_true rfl) rfl (Nat.le_of_ble_eq_true rfl) hkx10 ((dc_m_areAllSo hcall).up (by decide)) ?_
      refine tb_b_ine rfl (fun hc => ?_) (fun hc => ?_)
      · rw [if_pos hc] at h
        refine tb_Es (k := 4) (st' := (38, [(0, .ref v0), (2, .int v2), (3, .int v3), (4, .int v4), (5, .int v5), (6, .int v6), (7, .int (v7 + (-1)))], [], x10.2)) rfl ?_
        exact ih v0 v2 v3 v4 v5 v6 (v7 + (-1)) x10.2 _ h r hx
      · rw [if_neg hc] at h
        refine tb_Es (k := 6) (st' := (38, [(0, .ref v0), (2, .int v2), (3, .int v3), (4, .int v4), (5, .int (v5 + 1)), (6, .int v7), (7, .int (v7 + (-1)))], [], x10.2)) rfl ?_
        exact ih v0 v2 v3 v4 (v5 + 1) v7 (v7 + (-1)) x10.2 _ h r hx
    · rw [if_neg hc] at h
      refine tb_Es (k := 1) (st' := (59, [(0, .ref v0), (2, .int v2), (3, .int v3), (4, .int v4), (5, .int v5), (6, .int v6)], [], w)) rfl ?_
      obtain rfl := Option.some.inj h
      exact hx
def fb_m_pulled (a0 : Nat) (a1 : Int32) (a2 : Int32) (w : tb_Hp) : Option (Int32 × tb_Hp) := (if a1 < 0 then some (-1, w) else (tb_gN 22 20 a0 w).bind fun p1 => (tb_lI [1, 9] p1 3 w).bind fun x2 => (if a1 < x2 then (fb_m_in (Int32.toInt64 a2) 0 1 w).bind fun x3 => (if x3.1 = 0 then some (-1, x3.2) else (tb_gN 22 20 a0 x3.2).bind fun p4 => (tb_lI [1, 9] p4 ((94 + (3 * a1)) + 2) x3.2).bind fun x5 => (tb_on 22 a0 x3.2 (fb_m_keeps a0 x3.2)).bind fun x6 => (fl_m_pulled_37 1048576 a0 a2 ((94 + (3 * a1)) + 2) x5 0 (-2) 40 x6).bind fun o11 => (tb_gN 22 20 o11.1 o11.2.2.2.2.2.2).bind fun p12 => (tb_tI p12 o11.2.2.1 o11.2.2.2.1 o11.2.2.2.2.2.2).bind fun w13 => (tb_on 22 o11.1 w13 (fb_m_laysBack o11.1 w13)).bind fun x14 => (if o11.2.1 = 0 then some (o11.2.2.2.2.1, x14) else some (o11.2.2.2.2.2.1, x14))) else some (-1, w)))
set_option maxHeartbeats 4000000 in
set_option maxRecDepth 20000 in
theorem dc_m_pulled {a0 : Nat} {a1 : Int32} {a2 : Int32} {w : tb_Hp} {o : Int32 × tb_Hp} (h : fb_m_pulled a0 a1 a2 w = some o) : tb_Ev tb_P 8 292 (0, tb_ent [.ref a0, .int a1, .int a2], [], w) (some (.int o.1), o.2) := by
  unfold fb_m_pulled at h
  obtain ⟨r, hr⟩ : ∃ r : Option Value × tb_Hp, r = (some (.int o.1), o.2) := ⟨_, rfl⟩
  rw [← hr]
  show tb_Ev tb_P 8 292 (0, [(0, .ref a0), (1, .int a1), (2, .int a2)], [], w) r
  refine tb_Es (k := 1) (st' := (1, [(0, .ref a0), (1, .int a1), (2, .int a2)], [.int a1], w)) rfl ?_
  refine tb_b_ilt rfl (fun hc => ?_) (fun hc => ?_)
  · rw [if_pos hc] at h
    refine tb_Es (k := 1) (st' := (15, [(0, .ref a0), (1, .int a1), (2, .int a2)], [.int (-1)], w)) rfl ?_
    obtain rfl := Option.some.inj h
    subst hr
    exact tb_Er rfl rfl
  · rw [if_neg hc] at h
    refine tb_Es (k := 2) (st' := (4, [(0, .ref a0), (1, .int a1), (2, .int a2)], [.ref a0, .int a1], w)) rfl ?_
    replace h := Option.bind_eq_some_iff.mp h
    obtain ⟨p1, ep1, h⟩ := h
    refine tb_e_gN rfl ep1 ?_
    refine tb_Es (k := 1) (st' := (6, [(0, .ref a0), (1, .int a1), (2, .int a2)], [.int 3, .ref p1, .int a1], w)) rfl ?_
    replace h := Option.bind_eq_some_iff.mp h
    obtain ⟨x2, ex2, h⟩ := h
    refine tb_e_lI rfl (Or.inl ⟨rfl, rfl⟩) ex2 ?_
    refine tb_b_cge rfl (fun hc => ?_) (fun hc => ?_)
    · rw [if_pos hc] at h
      refine tb_Es (k := 4) (st' := (12, [(0, .ref a0), (1, .int a1), (2, .int a2)], [.long 1, .long 0, .long (Int32.toInt64 a2)], w)) rfl ?_
      replace h := Option.bind_eq_some_iff.mp h
      obtain ⟨x3, ex3, h⟩ := h
      have hcall := ex3
      refine tb_e_cs (v := some (.int x3.1)) rfl rfl rfl (Nat.le_of_ble_eq_true rfl) rfl (Nat.le_of_ble_eq_true rfl) ((dc_m_in hcall).up (by decide)) ?_
      refine tb_b_ine rfl (fun hc => ?_) (fun hc => ?_)
      · rw [if_pos hc] at h
        refine tb_Es (k := 1) (st' := (15, [(0, .ref a0), (1, .int a1), (2, .int a2)], [.int (-1)], x3.2)) rfl ?_
        obtain rfl := Option.some.inj h
        subst hr
        exact tb_Er rfl rfl
      · rw [if_neg hc] at h
        refine tb_Es (k := 9) (st' := (25, [(3, .int ((94 + (3 * a1)) + 2)), (0, .ref a0), (1, .int a1), (2, .int a2)], [.ref a0], x3.2)) rfl ?_
        replace h := Option.bind_eq_some_iff.mp h
        obtain ⟨p4, ep4, h⟩ := h
        refine tb_e_gN rfl ep4 ?_
        refine tb_Es (k := 1) (st' := (27, [(3, .int ((94 + (3 * a1)) + 2)), (0, .ref a0), (1, .int a1), (2, .int a2)], [.int ((94 + (3 * a1)) + 2), .ref p4], x3.2)) rfl ?_
        replace h := Option.bind_eq_some_iff.mp h
        obtain ⟨x5, ex5, h⟩ := h
        refine tb_e_lI rfl (Or.inl ⟨rfl, rfl⟩) ex5 ?_
        refine tb_Es (k := 6) (st' := (34, [(6, .int (-2)), (5, .int 0), (4, .int x5), (3, .int ((94 + (3 * a1)) + 2)), (0, .ref a0), (1, .int a1), (2, .int a2)], [.ref a0], x3.2)) rfl ?_
        replace h := Option.bind_eq_some_iff.mp h
        obtain ⟨x6, ex6, h⟩ := h
        obtain ⟨hkx6, hcall⟩ := tb_on_some ex6
        refine tb_e_cv (v := none) rfl (Or.inl ⟨_, rfl⟩) rfl rfl (Nat.le_of_ble_eq_true rfl) rfl (Nat.le_of_ble_eq_true rfl) hkx6 ((dc_m_keeps hcall).up (by decide)) ?_
        refine tb_Es (k := 3) (st' := (38, [(0, .ref a0), (2, .int a2), (3, .int ((94 + (3 * a1)) + 2)), (4, .int x5), (5, .int 0), (6, .int (-2)), (7, .int 40)], [], x6)) rfl ?_
        replace h := Option.bind_eq_some_iff.mp h
        obtain ⟨o11, eo11, h⟩ := h
        refine dl_m_pulled_37 _ a0 a2 ((94 + (3 * a1)) + 2) x5 0 (-2) 40 x6 _ eo11 r ?_
        refine tb_Es (k := 1) (st' := (60, [(0, .ref o11.1), (2, .int o11.2.1), (3, .int o11.2.2.1), (4, .int o11.2.2.2.1), (5, .int o11.2.2.2.2.1), (6, .int o11.2.2.2.2.2.1)], [.ref o11.1], o11.2.2.2.2.2.2)) rfl ?_
        replace h := Option.bind_eq_some_iff.mp h
        obtain ⟨p12, ep12, h⟩ := h
        refine tb_e_gN rfl ep12 ?_
        refine tb_Es (k := 2) (st' := (63, [(0, .ref o11.1), (2, .int o11.2.1), (3, .int o11.2.2.1), (4, .int o11.2.2.2.1), (5, .int o11.2.2.2.2.1), (6, .int o11.2.2.2.2.2.1)], [.int o11.2.2.2.1, .int o11.2.2.1, .ref p12], o11.2.2.2.2.2.2)) rfl ?_
        replace h := Option.bind_eq_some_iff.mp h
        obtain ⟨w13, ew13, h⟩ := h
        refine tb_e_tI rfl ew13 ?_
        refine tb_Es (k := 1) (st' := (65, [(0, .ref o11.1), (2, .int o11.2.1), (3, .int o11.2.2.1), (4, .int o11.2.2.2.1), (5, .int o11.2.2.2.2.1), (6, .int o11.2.2.2.2.2.1)], [.ref o11.1], w13)) rfl ?_
        replace h := Option.bind_eq_some_iff.mp h
        obtain ⟨x14, ex14, h⟩ := h
        obtain ⟨hkx14, hcall⟩ := tb_on_some ex14
        refine tb_e_cv (v := none) rfl (Or.inl ⟨_, rfl⟩) rfl rfl (Nat.le_of_ble_eq_true rfl) rfl (Nat.le_of_ble_eq_true rfl) hkx14 ((dc_m_laysBack hcall).up (by decide)) ?_
        refine tb_Es (k := 1) (st' := (67, [(0, .ref o11.1), (2, .int o11.2.1), (3, .int o11.2.2.1), (4, .int o11.2.2.2.1), (5, .int o11.2.2.2.2.1), (6, .int o11.2.2.2.2.2.1)], [.int o11.2.1], x14)) rfl ?_
        refine tb_b_ine rfl (fun hc => ?_) (fun hc => ?_)
        · rw [if_pos hc] at h
          refine tb_Es (k := 2) (st' := (71, [(0, .ref o11.1), (2, .int o11.2.1), (3, .int o11.2.2.1), (4, .int o11.2.2.2.1), (5, .int o11.2.2.2.2.1), (6, .int o11.2.2.2.2.2.1)], [.int o11.2.2.2.2.1], x14)) rfl ?_
          obtain rfl := Option.some.inj h
          subst hr
          exact tb_Er rfl rfl
        · rw [if_neg hc] at h
          refine tb_Es (k := 1) (st' := (71, [(0, .ref o11.1), (2, .int o11.2.1), (3, .int o11.2.2.1), (4, .int o11.2.2.2.1), (5, .int o11.2.2.2.2.1), (6, .int o11.2.2.2.2.2.1)], [.int o11.2.2.2.2.2.1], x14)) rfl ?_
          obtain rfl := Option.some.inj h
          subst hr
          exact tb_Er rfl rfl
    · rw [if_neg hc] at h
      refine tb_Es (k := 1) (st' := (15, [(0, .ref a0), (1, .int a1), (2, .int a2)], [.int (-1)], w)) rfl ?_
      obtain rfl := Option.some.inj h
      subst hr
      exact tb_Er rfl rfl
/-! TannerBuntingModel.isKeepHere()Z -/
def fj_m_isKeepHere_j67 (v0 : Nat) (v1 : Int32) (w : tb_Hp) : Option (Int32 × tb_Hp) := (tb_gN 22 5 v0 w).bind fun p20 => (tb_gN 22 4 v0 w).bind fun p21 => (tb_gI 22 11 v0 w).bind fun x22 => (tb_lI [1, 9] p21 x22 w).bind fun x23 => (tb_tI p20 (v1 + 3) x23 w).bind fun w24 => (tb_gN 22 6 v0 w24).bind fun p25 => (tb_gI 22 11 v0 w24).bind fun x26 => (tb_lI [1, 9] p25 x26 w24).bind fun x27 => (tb_tI p25 x26 (x27 + 1) w24).bind fun w28 => some (1, w28)
set_option maxHeartbeats 4000000 in
set_option maxRecDepth 20000 in
theorem dj_m_isKeepHere_j67 (v0 : Nat) (v1 : Int32) (w : tb_Hp) (o : Int32 × tb_Hp) (h : fj_m_isKeepHere_j67 v0 v1 w = some o) (r : Option Value × tb_Hp) (hr : r = (some (.int o.1), o.2)) : tb_Ev tb_P 9 191 (68, [(0, .ref v0), (1, .int v1)], [], w) r := by
  unfold fj_m_isKeepHere_j67 at h
  refine tb_Es (k := 1) (st' := (69, [(0, .ref v0), (1, .int v1)], [.ref v0], w)) rfl ?_
  replace h := Option.bind_eq_some_iff.mp h
  obtain ⟨p20, ep20, h⟩ := h
  refine tb_e_gN rfl ep20 ?_
  refine tb_Es (k := 4) (st' := (74, [(0, .ref v0), (1, .int v1)], [.ref v0, .int (v1 + 3), .ref p20], w)) rfl ?_
  replace h := Option.bind_eq_some_iff.mp h
  obtain ⟨p21, ep21, h⟩ := h
  refine tb_e_gN rfl ep21 ?_
  refine tb_Es (k := 1) (st' := (76, [(0, .ref v0), (1, .int v1)], [.ref v0, .ref p21, .int (v1 + 3), .ref p20], w)) rfl ?_
  replace h := Option.bind_eq_some_iff.mp h
  obtain ⟨x22, ex22, h⟩ := h
  refine tb_e_gI rfl ex22 ?_
  replace h := Option.bind_eq_some_iff.mp h
  obtain ⟨x23, ex23, h⟩ := h
  refine tb_e_lI rfl (Or.inl ⟨rfl, rfl⟩) ex23 ?_
  replace h := Option.bind_eq_some_iff.mp h
  obtain ⟨w24, ew24, h⟩ := h
  refine tb_e_tI rfl ew24 ?_
  refine tb_Es (k := 1) (st' := (80, [(0, .ref v0), (1, .int v1)], [.ref v0], w24)) rfl ?_
  replace h := Option.bind_eq_some_iff.mp h
  obtain ⟨p25, ep25, h⟩ := h
  refine tb_e_gN rfl ep25 ?_
  refine tb_Es (k := 1) (st' := (82, [(0, .ref v0), (1, .int v1)], [.ref v0, .ref p25], w24)) rfl ?_
  replace h := Option.bind_eq_some_iff.mp h
  obtain ⟨x26, ex26, h⟩ := h
  refine tb_e_gI rfl ex26 ?_
  refine tb_Es (k := 1) (st' := (84, [(0, .ref v0), (1, .int v1)], [.int x26, .ref p25, .int x26, .ref p25], w24)) rfl ?_
  replace h := Option.bind_eq_some_iff.mp h
  obtain ⟨x27, ex27, h⟩ := h
  refine tb_e_lI rfl (Or.inl ⟨rfl, rfl⟩) ex27 ?_
  refine tb_Es (k := 2) (st' := (87, [(0, .ref v0), (1, .int v1)], [.int (x27 + 1), .int x26, .ref p25], w24)) rfl ?_
  replace h := Option.bind_eq_some_iff.mp h
  obtain ⟨w28, ew28, h⟩ := h
  refine tb_e_tI rfl ew28 ?_
  refine tb_Es (k := 1) (st' := (89, [(0, .ref v0), (1, .int v1)], [.int 1], w28)) rfl ?_
  obtain rfl := Option.some.inj h
  subst hr
  exact tb_Er rfl rfl
def fb_m_isKeepHere (a0 : Nat) (w : tb_Hp) : Option (Int32 × tb_Hp) := (tb_on 22 a0 w (fb_m_passWord a0 w)).bind fun x1 => (tb_gI 22 11 a0 x1).bind fun x2 => (tb_gN 22 6 a0 x1).bind fun p3 => (tb_gI 22 11 a0 x1).bind fun x4 => (tb_lI [1, 9] p3 x4 x1).bind fun x5 => (tb_gN 22 5 a0 x1).bind fun p6 => (tb_gN 22 4 a0 x1).bind fun p7 => (tb_gI 22 11 a0 x1).bind fun x8 => (tb_lI [1, 9] p7 x8 x1).bind fun x9 => (tb_tI p6 ((48 * x2) + (4 * x5)) x9 x1).bind fun w10 => (tb_on 22 a0 w10 (fb_m_sum a0 w10)).bind fun x11 => (if x11.1 = 0 then some (0, x11.2) else (tb_gN 22 5 a0 x11.2).bind fun p12 => (tb_gN 22 4 a0 x11.2).bind fun p13 => (tb_gI 22 11 a0 x11.2).bind fun x14 => (tb_lI [1, 9] p13 x14 x11.2).bind fun x15 => (tb_tI p12 (((48 * x2) + (4 * x5)) + 1) x15 x11.2).bind fun w16 => (tb_gN 22 5 a0 w16).bind fun p17 => (tb_tI p17 (((48 * x2) + (4 * x5)) + 2) (-1) w16).bind fun w18 => (tb_on 22 a0 w18 (fb_m_takesWord a0 26982 w18)).bind fun x19 => (if x19.1 = 0 then fj_m_isKeepHere_j67 a0 ((48 * x2) + (4 * x5)) x19.2 else (tb_gN 22 5 a0 x19.2).bind fun p29 => (tb_gN 22 4 a0 x19.2).bind fun p30 => (tb_gI 22 11 a0 x19.2).bind fun x31 => (tb_lI [1, 9] p30 x31 x19.2).bind fun x32 => (tb_tI p29 (((48 * x2) + (4 * x5)) + 2) x32 x19.2).bind fun w33 => (tb_on 22 a0 w33 (fb_m_tested a0 w33)).bind fun x34 => (if x34.1 = 0 then some (0, x34.2) else fj_m_isKeepHere_j67 a0 ((48 * x2) + (4 * x5)) x34.2)))
set_option maxHeartbeats 4000000 in
set_option maxRecDepth 20000 in
theorem dc_m_isKeepHere {a0 : Nat} {w : tb_Hp} {o : Int32 × tb_Hp} (h : fb_m_isKeepHere a0 w = some o) : tb_Ev tb_P 9 191 (0, tb_ent [.ref a0], [], w) (some (.int o.1), o.2) := by
  unfold fb_m_isKeepHere at h
  obtain ⟨r, hr⟩ : ∃ r : Option Value × tb_Hp, r = (some (.int o.1), o.2) := ⟨_, rfl⟩
  rw [← hr]
  show tb_Ev tb_P 9 191 (0, [(0, .ref a0)], [], w) r
  refine tb_Es (k := 1) (st' := (1, [(0, .ref a0)], [.ref a0], w)) rfl ?_
  replace h := Option.bind_eq_some_iff.mp h
  obtain ⟨x1, ex1, h⟩ := h
  obtain ⟨hkx1, hcall⟩ := tb_on_some ex1
  refine tb_e_cv (v := none) rfl (Or.inl ⟨_, rfl⟩) rfl rfl (Nat.le_of_ble_eq_true rfl) rfl (Nat.le_of_ble_eq_true rfl) hkx1 ((dc_m_passWord hcall).up (by decide)) ?_
  refine tb_Es (k := 2) (st' := (4, [(0, .ref a0)], [.ref a0, .int 48], x1)) rfl ?_
  replace h := Option.bind_eq_some_iff.mp h
  obtain ⟨x2, ex2, h⟩ := h
  refine tb_e_gI rfl ex2 ?_
  refine tb_Es (k := 3) (st' := (8, [(0, .ref a0)], [.ref a0, .int 4, .int (48 * x2)], x1)) rfl ?_
  replace h := Option.bind_eq_some_iff.mp h
  obtain ⟨p3, ep3, h⟩ := h
  refine tb_e_gN rfl ep3 ?_
  refine tb_Es (k := 1) (st' := (10, [(0, .ref a0)], [.ref a0, .ref p3, .int 4, .int (48 * x2)], x1)) rfl ?_
  replace h := Option.bind_eq_some_iff.mp h
  obtain ⟨x4, ex4, h⟩ := h
  refine tb_e_gI rfl ex4 ?_
  replace h := Option.bind_eq_some_iff.mp h
  obtain ⟨x5, ex5, h⟩ := h
  refine tb_e_lI rfl (Or.inl ⟨rfl, rfl⟩) ex5 ?_
  refine tb_Es (k := 4) (st' := (16, [(1, .int ((48 * x2) + (4 * x5))), (0, .ref a0)], [.ref a0], x1)) rfl ?_
  replace h := Option.bind_eq_some_iff.mp h
  obtain ⟨p6, ep6, h⟩ := h
  refine tb_e_gN rfl ep6 ?_
  refine tb_Es (k := 2) (st' := (19, [(1, .int ((48 * x2) + (4 * x5))), (0, .ref a0)], [.ref a0, .int ((48 * x2) + (4 * x5)), .ref p6], x1)) rfl ?_
  replace h := Option.bind_eq_some_iff.mp h
  obtain ⟨p7, ep7, h⟩ := h
  refine tb_e_gN rfl ep7 ?_
  refine tb_Es (k := 1) (st' := (21, [(1, .int ((48 * x2) + (4 * x5))), (0, .ref a0)], [.ref a0, .ref p7, .int ((48 * x2) + (4 * x5)), .ref p6], x1)) rfl ?_
  replace h := Option.bind_eq_some_iff.mp h
  obtain ⟨x8, ex8, h⟩ := h
  refine tb_e_gI rfl ex8 ?_
  replace h := Option.bind_eq_some_iff.mp h
  obtain ⟨x9, ex9, h⟩ := h
  refine tb_e_lI rfl (Or.inl ⟨rfl, rfl⟩) ex9 ?_
  replace h := Option.bind_eq_some_iff.mp h
  obtain ⟨w10, ew10, h⟩ := h
  refine tb_e_tI rfl ew10 ?_
  refine tb_Es (k := 1) (st' := (25, [(1, .int ((48 * x2) + (4 * x5))), (0, .ref a0)], [.ref a0], w10)) rfl ?_
  replace h := Option.bind_eq_some_iff.mp h
  obtain ⟨x11, ex11, h⟩ := h
  obtain ⟨hkx11, hcall⟩ := tb_on_some ex11
  refine tb_e_cv (v := some (.int x11.1)) rfl (Or.inl ⟨_, rfl⟩) rfl rfl (Nat.le_of_ble_eq_true rfl) rfl (Nat.le_of_ble_eq_true rfl) hkx11 ((dc_m_sum hcall).up (by decide)) ?_
  refine tb_b_ine rfl (fun hc => ?_) (fun hc => ?_)
  · rw [if_pos hc] at h
    refine tb_Es (k := 1) (st' := (28, [(1, .int ((48 * x2) + (4 * x5))), (0, .ref a0)], [.int 0], x11.2)) rfl ?_
    obtain rfl := Option.some.inj h
    subst hr
    exact tb_Er rfl rfl
  · rw [if_neg hc] at h
    refine tb_Es (k := 1) (st' := (30, [(1, .int ((48 * x2) + (4 * x5))), (0, .ref a0)], [.ref a0], x11.2)) rfl ?_
    replace h := Option.bind_eq_some_iff.mp h
    obtain ⟨p12, ep12, h⟩ := h
    refine tb_e_gN rfl ep12 ?_
    refine tb_Es (k := 4) (st' := (35, [(1, .int ((48 * x2) + (4 * x5))), (0, .ref a0)], [.ref a0, .int (((48 * x2) + (4 * x5)) + 1), .ref p12], x11.2)) rfl ?_
    replace h := Option.bind_eq_some_iff.mp h
    obtain ⟨p13, ep13, h⟩ := h
    refine tb_e_gN rfl ep13 ?_
    refine tb_Es (k := 1) (st' := (37, [(1, .int ((48 * x2) + (4 * x5))), (0, .ref a0)], [.ref a0, .ref p13, .int (((48 * x2) + (4 * x5)) + 1), .ref p12], x11.2)) rfl ?_
    replace h := Option.bind_eq_some_iff.mp h
    obtain ⟨x14, ex14, h⟩ := h
    refine tb_e_gI rfl ex14 ?_
    replace h := Option.bind_eq_some_iff.mp h
    obtain ⟨x15, ex15, h⟩ := h
    refine tb_e_lI rfl (Or.inl ⟨rfl, rfl⟩) ex15 ?_
    replace h := Option.bind_eq_some_iff.mp h
    obtain ⟨w16, ew16, h⟩ := h
    refine tb_e_tI rfl ew16 ?_
    refine tb_Es (k := 1) (st' := (41, [(1, .int ((48 * x2) + (4 * x5))), (0, .ref a0)], [.ref a0], w16)) rfl ?_
    replace h := Option.bind_eq_some_iff.mp h
    obtain ⟨p17, ep17, h⟩ := h
    refine tb_e_gN rfl ep17 ?_
    refine tb_Es (k := 4) (st' := (46, [(1, .int ((48 * x2) + (4 * x5))), (0, .ref a0)], [.int (-1), .int (((48 * x2) + (4 * x5)) + 2), .ref p17], w16)) rfl ?_
    replace h := Option.bind_eq_some_iff.mp h
    obtain ⟨w18, ew18, h⟩ := h
    refine tb_e_tI rfl ew18 ?_
    refine tb_Es (k := 2) (st' := (49, [(1, .int ((48 * x2) + (4 * x5))), (0, .ref a0)], [.long 26982, .ref a0], w18)) rfl ?_
    replace h := Option.bind_eq_some_iff.mp h
    obtain ⟨x19, ex19, h⟩ := h
    obtain ⟨hkx19, hcall⟩ := tb_on_some ex19
    refine tb_e_cv (v := some (.int x19.1)) rfl (Or.inl ⟨_, rfl⟩) rfl rfl (Nat.le_of_ble_eq_true rfl) rfl (Nat.le_of_ble_eq_true rfl) hkx19 ((dc_m_takesWord hcall).up (by decide)) ?_
    refine tb_b_ieq rfl (fun hc => ?_) (fun hc => ?_)
    · rw [if_pos hc] at h
      refine tb_Es (k := 1) (st' := (68, [(0, .ref a0), (1, .int ((48 * x2) + (4 * x5)))], [], x19.2)) rfl ?_
      exact dj_m_isKeepHere_j67 a0 ((48 * x2) + (4 * x5)) x19.2 _ h r hr
    · rw [if_neg hc] at h
      refine tb_Es (k := 1) (st' := (52, [(1, .int ((48 * x2) + (4 * x5))), (0, .ref a0)], [.ref a0], x19.2)) rfl ?_
      replace h := Option.bind_eq_some_iff.mp h
      obtain ⟨p29, ep29, h⟩ := h
      refine tb_e_gN rfl ep29 ?_
      refine tb_Es (k := 4) (st' := (57, [(1, .int ((48 * x2) + (4 * x5))), (0, .ref a0)], [.ref a0, .int (((48 * x2) + (4 * x5)) + 2), .ref p29], x19.2)) rfl ?_
      replace h := Option.bind_eq_some_iff.mp h
      obtain ⟨p30, ep30, h⟩ := h
      refine tb_e_gN rfl ep30 ?_
      refine tb_Es (k := 1) (st' := (59, [(1, .int ((48 * x2) + (4 * x5))), (0, .ref a0)], [.ref a0, .ref p30, .int (((48 * x2) + (4 * x5)) + 2), .ref p29], x19.2)) rfl ?_
      replace h := Option.bind_eq_some_iff.mp h
      obtain ⟨x31, ex31, h⟩ := h
      refine tb_e_gI rfl ex31 ?_
      replace h := Option.bind_eq_some_iff.mp h
      obtain ⟨x32, ex32, h⟩ := h
      refine tb_e_lI rfl (Or.inl ⟨rfl, rfl⟩) ex32 ?_
      replace h := Option.bind_eq_some_iff.mp h
      obtain ⟨w33, ew33, h⟩ := h
      refine tb_e_tI rfl ew33 ?_
      refine tb_Es (k := 1) (st' := (63, [(1, .int ((48 * x2) + (4 * x5))), (0, .ref a0)], [.ref a0], w33)) rfl ?_
      replace h := Option.bind_eq_some_iff.mp h
      obtain ⟨x34, ex34, h⟩ := h
      obtain ⟨hkx34, hcall⟩ := tb_on_some ex34
      refine tb_e_cv (v := some (.int x34.1)) rfl (Or.inl ⟨_, rfl⟩) rfl rfl (Nat.le_of_ble_eq_true rfl) rfl (Nat.le_of_ble_eq_true rfl) hkx34 ((dc_m_tested hcall).up (by decide)) ?_
      refine tb_b_ine rfl (fun hc => ?_) (fun hc => ?_)
      · rw [if_pos hc] at h
        refine tb_Es (k := 1) (st' := (66, [(1, .int ((48 * x2) + (4 * x5))), (0, .ref a0)], [.int 0], x34.2)) rfl ?_
        obtain rfl := Option.some.inj h
        subst hr
        exact tb_Er rfl rfl
      · rw [if_neg hc] at h
        refine tb_Es (k := 1) (st' := (68, [(0, .ref a0), (1, .int ((48 * x2) + (4 * x5)))], [], x34.2)) rfl ?_
        exact dj_m_isKeepHere_j67 a0 ((48 * x2) + (4 * x5)) x34.2 _ h r hr
/-! TannerBuntingModel.newLine(III)I -/
def fl_m_newLine_46 : Nat → Nat → Int32 → Int32 → Int32 → Int32 → Int32 → Int32 → Int32 → Int32 → tb_Hp → Option (Nat × Int32 × Int32 × Int32 × Int32 × Int32 × Int32 × Int32 × tb_Hp)
  | 0, _, _, _, _, _, _, _, _, _, _ => none
  | n + 1, v0, v1, v2, v3, v4, v5, v6, v7, v8, w => (tb_on 22 v0 w (fb_m_houses v0 w)).bind fun x11 => (if v8 < x11.1 then (tb_on 22 v0 x11.2 (fb_m_canHang v0 v7 v8 x11.2)).bind fun x12 => (if x12.1 = 0 then fl_m_newLine_46 n v0 v1 v2 v3 v4 v5 v6 v7 (v8 + 1) x12.2 else (tb_on 22 v0 x12.2 (fb_m_hangs v0 v7 v8 v1 x12.2)).bind fun x13 => (tb_on 22 v0 x13.2 (fb_m_standIn v0 v2 x13.2)).bind fun x14 => (if x14.1 ≤ v6 then fl_m_newLine_46 n v0 v1 v2 v3 v4 v5 v6 v7 (v8 + 1) x14.2 else fl_m_newLine_46 n v0 v1 v2 v3 v7 v8 x14.1 v7 (v8 + 1) x14.2)) else some ((v0, v1, v2, v3, v4, v5, v6, v7, x11.2)))
set_option maxHeartbeats 4000000 in
set_option maxRecDepth 20000 in
theorem dl_m_newLine_46 : ∀ (n : Nat) (v0 : Nat) (v1 : Int32) (v2 : Int32) (v3 : Int32) (v4 : Int32) (v5 : Int32) (v6 : Int32) (v7 : Int32) (v8 : Int32) (w : tb_Hp) (o : Nat × Int32 × Int32 × Int32 × Int32 × Int32 × Int32 × Int32 × tb_Hp), fl_m_newLine_46 n v0 v1 v2 v3 v4 v5 v6 v7 v8 w = some o → ∀ (r : Option Value × tb_Hp), tb_Ev tb_P 9 278 (81, [(0, .ref o.1), (1, .int o.2.1), (2, .int o.2.2.1), (3, .int o.2.2.2.1), (4, .int o.2.2.2.2.1), (5, .int o.2.2.2.2.2.1), (6, .int o.2.2.2.2.2.2.1), (7, .int o.2.2.2.2.2.2.2.1)], [], o.2.2.2.2.2.2.2.2) r → tb_Ev tb_P 9 278 (48, [(0, .ref v0), (1, .int v1), (2, .int v2), (3, .int v3), (4, .int v4), (5, .int v5), (6, .int v6), (7, .int v7), (8, .int v8)], [], w) r := by
  intro n
  induction n with
  | zero =>
    intro v0 v1 v2 v3 v4 v5 v6 v7 v8 w o h
    cases h
  | succ n ih =>
    intro v0 v1 v2 v3 v4 v5 v6 v7 v8 w o h r hx
    unfold fl_m_newLine_46 at h
    refine tb_Es (k := 2) (st' := (50, [(0, .ref v0), (1, .int v1), (2, .int v2), (3, .int v3), (4, .int v4), (5, .int v5), (6, .int v6), (7, .int v7), (8, .int v8)], [.ref v0, .int v8], w)) rfl ?_
    replace h := Option.bind_eq_some_iff.mp h
    obtain ⟨x11, ex11, h⟩ := h
    obtain ⟨hkx11, hcall⟩ := tb_on_some ex11
    refine tb_e_cv (v := some (.int x11.1)) rfl (Or.inl ⟨_, rfl⟩) rfl rfl (Nat.le_of_ble_eq_true rfl) rfl (Nat.le_of_ble_eq_true rfl) hkx11 ((dc_m_houses hcall).up (by decide)) ?_
    refine tb_b_cge rfl (fun hc => ?_) (fun hc => ?_)
    · rw [if_pos hc] at h
      refine tb_Es (k := 3) (st' := (55, [(0, .ref v0), (1, .int v1), (2, .int v2), (3, .int v3), (4, .int v4), (5, .int v5), (6, .int v6), (7, .int v7), (8, .int v8)], [.int v8, .int v7, .ref v0], x11.2)) rfl ?_
      replace h := Option.bind_eq_some_iff.mp h
      obtain ⟨x12, ex12, h⟩ := h
      obtain ⟨hkx12, hcall⟩ := tb_on_some ex12
      refine tb_e_cv (v := some (.int x12.1)) rfl (Or.inl ⟨_, rfl⟩) rfl rfl (Nat.le_of_ble_eq_true rfl) rfl (Nat.le_of_ble_eq_true rfl) hkx12 ((dc_m_canHang hcall).up (by decide)) ?_
      refine tb_b_ine rfl (fun hc => ?_) (fun hc => ?_)
      · rw [if_pos hc] at h
        refine tb_Es (k := 4) (st' := (48, [(0, .ref v0), (1, .int v1), (2, .int v2), (3, .int v3), (4, .int v4), (5, .int v5), (6, .int v6), (7, .int v7), (8, .int (v8 + 1))], [], x12.2)) rfl ?_
        exact ih v0 v1 v2 v3 v4 v5 v6 v7 (v8 + 1) x12.2 _ h r hx
      · rw [if_neg hc] at h
        refine tb_Es (k := 4) (st' := (62, [(0, .ref v0), (1, .int v1), (2, .int v2), (3, .int v3), (4, .int v4), (5, .int v5), (6, .int v6), (7, .int v7), (8, .int v8)], [.int v1, .int v8, .int v7, .ref v0], x12.2)) rfl ?_
        replace h := Option.bind_eq_some_iff.mp h
        obtain ⟨x13, ex13, h⟩ := h
        obtain ⟨hkx13, hcall⟩ := tb_on_some ex13
        refine tb_e_cv (v := some (.int x13.1)) rfl (Or.inl ⟨_, rfl⟩) rfl rfl (Nat.le_of_ble_eq_true rfl) rfl (Nat.le_of_ble_eq_true rfl) hkx13 ((dc_m_hangs hcall).up (by decide)) ?_
        refine tb_Es (k := 3) (st' := (66, [(0, .ref v0), (1, .int v1), (2, .int v2), (3, .int v3), (4, .int v4), (5, .int v5), (6, .int v6), (7, .int v7), (8, .int v8)], [.int v2, .ref v0], x13.2)) rfl ?_
        replace h := Option.bind_eq_some_iff.mp h
        obtain ⟨x14, ex14, h⟩ := h
        obtain ⟨hkx14, hcall⟩ := tb_on_some ex14
        refine tb_e_cv (v := some (.int x14.1)) rfl (Or.inl ⟨_, rfl⟩) rfl rfl (Nat.le_of_ble_eq_true rfl) rfl (Nat.le_of_ble_eq_true rfl) hkx14 ((dc_m_standIn hcall).up (by decide)) ?_
        refine tb_Es (k := 3) (st' := (70, [(9, .int x14.1), (0, .ref v0), (1, .int v1), (2, .int v2), (3, .int v3), (4, .int v4), (5, .int v5), (6, .int v6), (7, .int v7), (8, .int v8)], [.int v6, .int x14.1], x14.2)) rfl ?_
        refine tb_b_cgt rfl (fun hc => ?_) (fun hc => ?_)
        · rw [if_pos hc] at h
          refine tb_Es (k := 4) (st' := (48, [(0, .ref v0), (1, .int v1), (2, .int v2), (3, .int v3), (4, .int v4), (5, .int v5), (6, .int v6), (7, .int v7), (8, .int (v8 + 1))], [], x14.2)) rfl ?_
          exact ih v0 v1 v2 v3 v4 v5 v6 v7 (v8 + 1) x14.2 _ h r hx
        · rw [if_neg hc] at h
          refine tb_Es (k := 9) (st' := (48, [(0, .ref v0), (1, .int v1), (2, .int v2), (3, .int v3), (4, .int v7), (5, .int v8), (6, .int x14.1), (7, .int v7), (8, .int (v8 + 1))], [], x14.2)) rfl ?_
          exact ih v0 v1 v2 v3 v7 v8 x14.1 v7 (v8 + 1) x14.2 _ h r hx
    · rw [if_neg hc] at h
      refine tb_Es (k := 1) (st' := (81, [(0, .ref v0), (1, .int v1), (2, .int v2), (3, .int v3), (4, .int v4), (5, .int v5), (6, .int v6), (7, .int v7)], [], x11.2)) rfl ?_
      obtain rfl := Option.some.inj h
      exact hx
def fl_m_newLine_35 : Nat → Nat → Int32 → Int32 → Int32 → Int32 → Int32 → Int32 → Int32 → tb_Hp → Option (Int32 × Int32 × Int32 × Int32 × tb_Hp)
  | 0, _, _, _, _, _, _, _, _, _ => none
  | n + 1, v0, v1, v2, v3, v4, v5, v6, v7, w => (tb_gN 22 20 v0 w).bind fun p7 => (tb_lI [1, 9] p7 1 w).bind fun x8 => (if v7 < x8 then (tb_gN 22 20 v0 w).bind fun p9 => (tb_lI [1, 9] p9 1 w).bind fun x10 => (fl_m_newLine_46 1048576 v0 v1 v2 v3 v4 v5 v6 v7 x10 w).bind fun o15 => fl_m_newLine_35 n o15.1 o15.2.1 o15.2.2.1 o15.2.2.2.1 o15.2.2.2.2.1 o15.2.2.2.2.2.1 o15.2.2.2.2.2.2.1 (o15.2.2.2.2.2.2.2.1 + 1) o15.2.2.2.2.2.2.2.2 else some ((v3, v4, v5, v6, w)))
set_option maxHeartbeats 4000000 in
set_option maxRecDepth 20000 in
theorem dl_m_newLine_35 : ∀ (n : Nat) (v0 : Nat) (v1 : Int32) (v2 : Int32) (v3 : Int32) (v4 : Int32) (v5 : Int32) (v6 : Int32) (v7 : Int32) (w : tb_Hp) (o : Int32 × Int32 × Int32 × Int32 × tb_Hp), fl_m_newLine_35 n v0 v1 v2 v3 v4 v5 v6 v7 w = some o → ∀ (r : Option Value × tb_Hp), tb_Ev tb_P 9 278 (84, [(3, .int o.1), (4, .int o.2.1), (5, .int o.2.2.1), (6, .int o.2.2.2.1)], [], o.2.2.2.2) r → tb_Ev tb_P 9 278 (36, [(0, .ref v0), (1, .int v1), (2, .int v2), (3, .int v3), (4, .int v4), (5, .int v5), (6, .int v6), (7, .int v7)], [], w) r := by
  intro n
  induction n with
  | zero =>
    intro v0 v1 v2 v3 v4 v5 v6 v7 w o h
    cases h
  | succ n ih =>
    intro v0 v1 v2 v3 v4 v5 v6 v7 w o h r hx
    unfold fl_m_newLine_35 at h
    refine tb_Es (k := 2) (st' := (38, [(0, .ref v0), (1, .int v1), (2, .int v2), (3, .int v3), (4, .int v4), (5, .int v5), (6, .int v6), (7, .int v7)], [.ref v0, .int v7], w)) rfl ?_
    replace h := Option.bind_eq_some_iff.mp h
    obtain ⟨p7, ep7, h⟩ := h
    refine tb_e_gN rfl ep7 ?_
    refine tb_Es (k := 1) (st' := (40, [(0, .ref v0), (1, .int v1), (2, .int v2), (3, .int v3), (4, .int v4), (5, .int v5), (6, .int v6), (7, .int v7)], [.int 1, .ref p7, .int v7], w)) rfl ?_
    replace h := Option.bind_eq_some_iff.mp h
    obtain ⟨x8, ex8, h⟩ := h
    refine tb_e_lI rfl (Or.inl ⟨rfl, rfl⟩) ex8 ?_
    refine tb_b_cge rfl (fun hc => ?_) (fun hc => ?_)
    · rw [if_pos hc] at h
      refine tb_Es (k := 1) (st' := (43, [(0, .ref v0), (1, .int v1), (2, .int v2), (3, .int v3), (4, .int v4), (5, .int v5), (6, .int v6), (7, .int v7)], [.ref v0], w)) rfl ?_
      replace h := Option.bind_eq_some_iff.mp h
      obtain ⟨p9, ep9, h⟩ := h
      refine tb_e_gN rfl ep9 ?_
      refine tb_Es (k := 1) (st' := (45, [(0, .ref v0), (1, .int v1), (2, .int v2), (3, .int v3), (4, .int v4), (5, .int v5), (6, .int v6), (7, .int v7)], [.int 1, .ref p9], w)) rfl ?_
      replace h := Option.bind_eq_some_iff.mp h
      obtain ⟨x10, ex10, h⟩ := h
      refine tb_e_lI rfl (Or.inl ⟨rfl, rfl⟩) ex10 ?_
      refine tb_Es (k := 2) (st' := (48, [(0, .ref v0), (1, .int v1), (2, .int v2), (3, .int v3), (4, .int v4), (5, .int v5), (6, .int v6), (7, .int v7), (8, .int x10)], [], w)) rfl ?_
      replace h := Option.bind_eq_some_iff.mp h
      obtain ⟨o15, eo15, h⟩ := h
      refine dl_m_newLine_46 _ v0 v1 v2 v3 v4 v5 v6 v7 x10 w _ eo15 r ?_
      refine tb_Es (k := 3) (st' := (36, [(0, .ref o15.1), (1, .int o15.2.1), (2, .int o15.2.2.1), (3, .int o15.2.2.2.1), (4, .int o15.2.2.2.2.1), (5, .int o15.2.2.2.2.2.1), (6, .int o15.2.2.2.2.2.2.1), (7, .int (o15.2.2.2.2.2.2.2.1 + 1))], [], o15.2.2.2.2.2.2.2.2)) rfl ?_
      exact ih o15.1 o15.2.1 o15.2.2.1 o15.2.2.2.1 o15.2.2.2.2.1 o15.2.2.2.2.2.1 o15.2.2.2.2.2.2.1 (o15.2.2.2.2.2.2.2.1 + 1) o15.2.2.2.2.2.2.2.2 _ h r hx
    · rw [if_neg hc] at h
      refine tb_Es (k := 1) (st' := (84, [(3, .int v3), (4, .int v4), (5, .int v5), (6, .int v6)], [], w)) rfl ?_
      obtain rfl := Option.some.inj h
      exact hx
def fb_m_newLine (a0 : Nat) (a1 : Int32) (a2 : Int32) (a3 : Int32) (w : tb_Hp) : Option (Int32 × tb_Hp) := (tb_on 22 a0 w (fb_m_isStreet a0 w)).bind fun x1 => (if x1.1 = 0 then some (-2, x1.2) else (fb_m_in (Int32.toInt64 a1) 1 40 x1.2).bind fun x2 => (if x2.1 = 0 then some (-2, x2.2) else (fb_m_in (Int32.toInt64 a2) 1 40 x2.2).bind fun x3 => (if x3.1 = 0 then some (-2, x3.2) else (fb_m_in (Int32.toInt64 a3) 0 2 x3.2).bind fun x4 => (if x4.1 = 0 then some (-2, x4.2) else (tb_on 22 a0 x4.2 (fb_m_keeps a0 x4.2)).bind fun x5 => (tb_on 22 a0 x5 (fb_m_standIn a0 a2 x5)).bind fun x6 => (fl_m_newLine_35 1048576 a0 a1 a2 a3 (-1) (-1) x6.1 0 x6.2).bind fun o16 => (if o16.1 = 0 then some (o16.2.2.2.1, o16.2.2.2.2) else (if o16.1 = 1 then some (o16.2.1, o16.2.2.2.2) else some (o16.2.2.1, o16.2.2.2.2)))))))
set_option maxHeartbeats 4000000 in
set_option maxRecDepth 20000 in
theorem dc_m_newLine {a0 : Nat} {a1 : Int32} {a2 : Int32} {a3 : Int32} {w : tb_Hp} {o : Int32 × tb_Hp} (h : fb_m_newLine a0 a1 a2 a3 w = some o) : tb_Ev tb_P 9 278 (0, tb_ent [.ref a0, .int a1, .int a2, .int a3], [], w) (some (.int o.1), o.2) := by
  unfold fb_m_newLine at h
  obtain ⟨r, hr⟩ : ∃ r : Option Value × tb_Hp, r = (some (.int o.1), o.2) := ⟨_, rfl⟩
  rw [← hr]
  show tb_Ev tb_P 9 278 (0, [(0, .ref a0), (1, .int a1), (2, .int a2), (3, .int a3)], [], w) r
  refine tb_Es (k := 1) (st' := (1, [(0, .ref a0), (1, .int a1), (2, .int a2), (3, .int a3)], [.ref a0], w)) rfl ?_
  replace h := Option.bind_eq_some_iff.mp h
  obtain ⟨x1, ex1, h⟩ := h
  obtain ⟨hkx1, hcall⟩ := tb_on_some ex1
  refine tb_e_cv (v := some (.int x1.1)) rfl (Or.inl ⟨_, rfl⟩) rfl rfl (Nat.le_of_ble_eq_true rfl) rfl (Nat.le_of_ble_eq_true rfl) hkx1 ((dc_m_isStreet hcall).up (by decide)) ?_
  refine tb_b_ieq rfl (fun hc => ?_) (fun hc => ?_)
  · rw [if_pos hc] at h
    refine tb_Es (k := 1) (st' := (22, [(0, .ref a0), (1, .int a1), (2, .int a2), (3, .int a3)], [.int (-2)], x1.2)) rfl ?_
    obtain rfl := Option.some.inj h
    subst hr
    exact tb_Er rfl rfl
  · rw [if_neg hc] at h
    refine tb_Es (k := 4) (st' := (7, [(0, .ref a0), (1, .int a1), (2, .int a2), (3, .int a3)], [.long 40, .long 1, .long (Int32.toInt64 a1)], x1.2)) rfl ?_
    replace h := Option.bind_eq_some_iff.mp h
    obtain ⟨x2, ex2, h⟩ := h
    have hcall := ex2
    refine tb_e_cs (v := some (.int x2.1)) rfl rfl rfl (Nat.le_of_ble_eq_true rfl) rfl (Nat.le_of_ble_eq_true rfl) ((dc_m_in hcall).up (by decide)) ?_
    refine tb_b_ieq rfl (fun hc => ?_) (fun hc => ?_)
    · rw [if_pos hc] at h
      refine tb_Es (k := 1) (st' := (22, [(0, .ref a0), (1, .int a1), (2, .int a2), (3, .int a3)], [.int (-2)], x2.2)) rfl ?_
      obtain rfl := Option.some.inj h
      subst hr
      exact tb_Er rfl rfl
    · rw [if_neg hc] at h
      refine tb_Es (k := 4) (st' := (13, [(0, .ref a0), (1, .int a1), (2, .int a2), (3, .int a3)], [.long 40, .long 1, .long (Int32.toInt64 a2)], x2.2)) rfl ?_
      replace h := Option.bind_eq_some_iff.mp h
      obtain ⟨x3, ex3, h⟩ := h
      have hcall := ex3
      refine tb_e_cs (v := some (.int x3.1)) rfl rfl rfl (Nat.le_of_ble_eq_true rfl) rfl (Nat.le_of_ble_eq_true rfl) ((dc_m_in hcall).up (by decide)) ?_
      refine tb_b_ieq rfl (fun hc => ?_) (fun hc => ?_)
      · rw [if_pos hc] at h
        refine tb_Es (k := 1) (st' := (22, [(0, .ref a0), (1, .int a1), (2, .int a2), (3, .int a3)], [.int (-2)], x3.2)) rfl ?_
        obtain rfl := Option.some.inj h
        subst hr
        exact tb_Er rfl rfl
      · rw [if_neg hc] at h
        refine tb_Es (k := 4) (st' := (19, [(0, .ref a0), (1, .int a1), (2, .int a2), (3, .int a3)], [.long 2, .long 0, .long (Int32.toInt64 a3)], x3.2)) rfl ?_
        replace h := Option.bind_eq_some_iff.mp h
        obtain ⟨x4, ex4, h⟩ := h
        have hcall := ex4
        refine tb_e_cs (v := some (.int x4.1)) rfl rfl rfl (Nat.le_of_ble_eq_true rfl) rfl (Nat.le_of_ble_eq_true rfl) ((dc_m_in hcall).up (by decide)) ?_
        refine tb_b_ine rfl (fun hc => ?_) (fun hc => ?_)
        · rw [if_pos hc] at h
          refine tb_Es (k := 1) (st' := (22, [(0, .ref a0), (1, .int a1), (2, .int a2), (3, .int a3)], [.int (-2)], x4.2)) rfl ?_
          obtain rfl := Option.some.inj h
          subst hr
          exact tb_Er rfl rfl
        · rw [if_neg hc] at h
          refine tb_Es (k := 1) (st' := (24, [(0, .ref a0), (1, .int a1), (2, .int a2), (3, .int a3)], [.ref a0], x4.2)) rfl ?_
          replace h := Option.bind_eq_some_iff.mp h
          obtain ⟨x5, ex5, h⟩ := h
          obtain ⟨hkx5, hcall⟩ := tb_on_some ex5
          refine tb_e_cv (v := none) rfl (Or.inl ⟨_, rfl⟩) rfl rfl (Nat.le_of_ble_eq_true rfl) rfl (Nat.le_of_ble_eq_true rfl) hkx5 ((dc_m_keeps hcall).up (by decide)) ?_
          refine tb_Es (k := 6) (st' := (31, [(5, .int (-1)), (4, .int (-1)), (0, .ref a0), (1, .int a1), (2, .int a2), (3, .int a3)], [.int a2, .ref a0], x5)) rfl ?_
          replace h := Option.bind_eq_some_iff.mp h
          obtain ⟨x6, ex6, h⟩ := h
          obtain ⟨hkx6, hcall⟩ := tb_on_some ex6
          refine tb_e_cv (v := some (.int x6.1)) rfl (Or.inl ⟨_, rfl⟩) rfl rfl (Nat.le_of_ble_eq_true rfl) rfl (Nat.le_of_ble_eq_true rfl) hkx6 ((dc_m_standIn hcall).up (by decide)) ?_
          refine tb_Es (k := 4) (st' := (36, [(0, .ref a0), (1, .int a1), (2, .int a2), (3, .int a3), (4, .int (-1)), (5, .int (-1)), (6, .int x6.1), (7, .int 0)], [], x6.2)) rfl ?_
          replace h := Option.bind_eq_some_iff.mp h
          obtain ⟨o16, eo16, h⟩ := h
          refine dl_m_newLine_35 _ a0 a1 a2 a3 (-1) (-1) x6.1 0 x6.2 _ eo16 r ?_
          refine tb_Es (k := 1) (st' := (85, [(3, .int o16.1), (4, .int o16.2.1), (5, .int o16.2.2.1), (6, .int o16.2.2.2.1)], [.int o16.1], o16.2.2.2.2)) rfl ?_
          refine tb_b_ine rfl (fun hc => ?_) (fun hc => ?_)
          · rw [if_pos hc] at h
            refine tb_Es (k := 2) (st' := (94, [(3, .int o16.1), (4, .int o16.2.1), (5, .int o16.2.2.1), (6, .int o16.2.2.2.1)], [.int o16.2.2.2.1], o16.2.2.2.2)) rfl ?_
            obtain rfl := Option.some.inj h
            subst hr
            exact tb_Er rfl rfl
          · rw [if_neg hc] at h
            refine tb_Es (k := 2) (st' := (90, [(3, .int o16.1), (4, .int o16.2.1), (5, .int o16.2.2.1), (6, .int o16.2.2.2.1)], [.int 1, .int o16.1], o16.2.2.2.2)) rfl ?_
            refine tb_b_cne rfl (fun hc => ?_) (fun hc => ?_)
            · rw [if_pos hc] at h
              refine tb_Es (k := 2) (st' := (94, [(3, .int o16.1), (4, .int o16.2.1), (5, .int o16.2.2.1), (6, .int o16.2.2.2.1)], [.int o16.2.1], o16.2.2.2.2)) rfl ?_
              obtain rfl := Option.some.inj h
              subst hr
              exact tb_Er rfl rfl
            · rw [if_neg hc] at h
              refine tb_Es (k := 1) (st' := (94, [(3, .int o16.1), (4, .int o16.2.1), (5, .int o16.2.2.1), (6, .int o16.2.2.2.1)], [.int o16.2.2.1], o16.2.2.2.2)) rfl ?_
              obtain rfl := Option.some.inj h
              subst hr
              exact tb_Er rfl rfl
/-! TannerBuntingModel.ruled(I)I -/
def fl_m_ruled_21 : Nat → Nat → Int32 → Int32 → Int32 → Int32 → tb_Hp → Option (Int32 × Int32 × Int32 × tb_Hp)
  | 0, _, _, _, _, _, _ => none
  | n + 1, v0, v1, v2, v3, v4, w => (if v4 < 0 then some ((v1, v2, v3, w)) else (tb_gN 22 29 v0 w).bind fun p5 => (tb_lI [0, 3] p5 v4 w).bind fun x6 => (if x6 = 0 then fl_m_ruled_21 n v0 v1 v2 v3 (v4 + (-1)) w else fl_m_ruled_21 n v0 v1 (v2 + 1) (v4 - 1) (v4 + (-1)) w))
set_option maxHeartbeats 4000000 in
set_option maxRecDepth 20000 in
theorem dl_m_ruled_21 : ∀ (n : Nat) (v0 : Nat) (v1 : Int32) (v2 : Int32) (v3 : Int32) (v4 : Int32) (w : tb_Hp) (o : Int32 × Int32 × Int32 × tb_Hp), fl_m_ruled_21 n v0 v1 v2 v3 v4 w = some o → ∀ (r : Option Value × tb_Hp), tb_Ev tb_P 9 286 (38, [(1, .int o.1), (2, .int o.2.1), (3, .int o.2.2.1)], [], o.2.2.2) r → tb_Ev tb_P 9 286 (22, [(0, .ref v0), (1, .int v1), (2, .int v2), (3, .int v3), (4, .int v4)], [], w) r := by
  intro n
  induction n with
  | zero =>
    intro v0 v1 v2 v3 v4 w o h
    cases h
  | succ n ih =>
    intro v0 v1 v2 v3 v4 w o h r hx
    unfold fl_m_ruled_21 at h
    refine tb_Es (k := 1) (st' := (23, [(0, .ref v0), (1, .int v1), (2, .int v2), (3, .int v3), (4, .int v4)], [.int v4], w)) rfl ?_
    refine tb_b_ilt rfl (fun hc => ?_) (fun hc => ?_)
    · rw [if_pos hc] at h
      refine tb_Es (k := 1) (st' := (38, [(1, .int v1), (2, .int v2), (3, .int v3)], [], w)) rfl ?_
      obtain rfl := Option.some.inj h
      exact hx
    · rw [if_neg hc] at h
      refine tb_Es (k := 1) (st' := (25, [(0, .ref v0), (1, .int v1), (2, .int v2), (3, .int v3), (4, .int v4)], [.ref v0], w)) rfl ?_
      replace h := Option.bind_eq_some_iff.mp h
      obtain ⟨p5, ep5, h⟩ := h
      refine tb_e_gN rfl ep5 ?_
      refine tb_Es (k := 1) (st' := (27, [(0, .ref v0), (1, .int v1), (2, .int v2), (3, .int v3), (4, .int v4)], [.int v4, .ref p5], w)) rfl ?_
      replace h := Option.bind_eq_some_iff.mp h
      obtain ⟨x6, ex6, h⟩ := h
      refine tb_e_lI rfl (Or.inr ⟨rfl, rfl⟩) ex6 ?_
      refine tb_b_ine rfl (fun hc => ?_) (fun hc => ?_)
      · rw [if_pos hc] at h
        refine tb_Es (k := 4) (st' := (22, [(0, .ref v0), (1, .int v1), (2, .int v2), (3, .int v3), (4, .int (v4 + (-1)))], [], w)) rfl ?_
        exact ih v0 v1 v2 v3 (v4 + (-1)) w _ h r hx
      · rw [if_neg hc] at h
        refine tb_Es (k := 8) (st' := (22, [(0, .ref v0), (1, .int v1), (2, .int (v2 + 1)), (3, .int (v4 - 1)), (4, .int (v4 + (-1)))], [], w)) rfl ?_
        exact ih v0 v1 (v2 + 1) (v4 - 1) (v4 + (-1)) w _ h r hx
def fb_m_ruled (a0 : Nat) (a1 : Int32) (w : tb_Hp) : Option (Int32 × tb_Hp) := (tb_on 22 a0 w (fb_m_isStreet a0 w)).bind fun x1 => (if x1.1 = 0 then some (-3, x1.2) else (fb_m_in (Int32.toInt64 a1) 0 1 x1.2).bind fun x2 => (if x2.1 = 0 then some (-3, x2.2) else (tb_on 22 a0 x2.2 (fb_m_fillsFits a0 0 x2.2)).bind fun x3 => (tb_gI 22 2 a0 x3).bind fun x4 => (fl_m_ruled_21 1048576 a0 a1 0 (-2) x4 x3).bind fun o7 => (if o7.1 = 0 then some (o7.2.1, o7.2.2.2) else some (o7.2.2.1, o7.2.2.2))))
set_option maxHeartbeats 4000000 in
set_option maxRecDepth 20000 in
theorem dc_m_ruled {a0 : Nat} {a1 : Int32} {w : tb_Hp} {o : Int32 × tb_Hp} (h : fb_m_ruled a0 a1 w = some o) : tb_Ev tb_P 9 286 (0, tb_ent [.ref a0, .int a1], [], w) (some (.int o.1), o.2) := by
  unfold fb_m_ruled at h
  obtain ⟨r, hr⟩ : ∃ r : Option Value × tb_Hp, r = (some (.int o.1), o.2) := ⟨_, rfl⟩
  rw [← hr]
  show tb_Ev tb_P 9 286 (0, [(0, .ref a0), (1, .int a1)], [], w) r
  refine tb_Es (k := 1) (st' := (1, [(0, .ref a0), (1, .int a1)], [.ref a0], w)) rfl ?_
  replace h := Option.bind_eq_some_iff.mp h
  obtain ⟨x1, ex1, h⟩ := h
  obtain ⟨hkx1, hcall⟩ := tb_on_some ex1
  refine tb_e_cv (v := some (.int x1.1)) rfl (Or.inl ⟨_, rfl⟩) rfl rfl (Nat.le_of_ble_eq_true rfl) rfl (Nat.le_of_ble_eq_true rfl) hkx1 ((dc_m_isStreet hcall).up (by decide)) ?_
  refine tb_b_ieq rfl (fun hc => ?_) (fun hc => ?_)
  · rw [if_pos hc] at h
    refine tb_Es (k := 1) (st' := (10, [(0, .ref a0), (1, .int a1)], [.int (-3)], x1.2)) rfl ?_
    obtain rfl := Option.some.inj h
    subst hr
    exact tb_Er rfl rfl
  · rw [if_neg hc] at h
    refine tb_Es (k := 4) (st' := (7, [(0, .ref a0), (1, .int a1)], [.long 1, .long 0, .long (Int32.toInt64 a1)], x1.2)) rfl ?_
    replace h := Option.bind_eq_some_iff.mp h
    obtain ⟨x2, ex2, h⟩ := h
    have hcall := ex2
    refine tb_e_cs (v := some (.int x2.1)) rfl rfl rfl (Nat.le_of_ble_eq_true rfl) rfl (Nat.le_of_ble_eq_true rfl) ((dc_m_in hcall).up (by decide)) ?_
    refine tb_b_ine rfl (fun hc => ?_) (fun hc => ?_)
    · rw [if_pos hc] at h
      refine tb_Es (k := 1) (st' := (10, [(0, .ref a0), (1, .int a1)], [.int (-3)], x2.2)) rfl ?_
      obtain rfl := Option.some.inj h
      subst hr
      exact tb_Er rfl rfl
    · rw [if_neg hc] at h
      refine tb_Es (k := 2) (st' := (13, [(0, .ref a0), (1, .int a1)], [.int 0, .ref a0], x2.2)) rfl ?_
      replace h := Option.bind_eq_some_iff.mp h
      obtain ⟨x3, ex3, h⟩ := h
      obtain ⟨hkx3, hcall⟩ := tb_on_some ex3
      refine tb_e_cv (v := none) rfl (Or.inl ⟨_, rfl⟩) rfl rfl (Nat.le_of_ble_eq_true rfl) rfl (Nat.le_of_ble_eq_true rfl) hkx3 ((dc_m_fillsFits hcall).up (by decide)) ?_
      refine tb_Es (k := 5) (st' := (19, [(3, .int (-2)), (2, .int 0), (0, .ref a0), (1, .int a1)], [.ref a0], x3)) rfl ?_
      replace h := Option.bind_eq_some_iff.mp h
      obtain ⟨x4, ex4, h⟩ := h
      refine tb_e_gI rfl ex4 ?_
      refine tb_Es (k := 2) (st' := (22, [(0, .ref a0), (1, .int a1), (2, .int 0), (3, .int (-2)), (4, .int x4)], [], x3)) rfl ?_
      replace h := Option.bind_eq_some_iff.mp h
      obtain ⟨o7, eo7, h⟩ := h
      refine dl_m_ruled_21 _ a0 a1 0 (-2) x4 x3 _ eo7 r ?_
      refine tb_Es (k := 1) (st' := (39, [(1, .int o7.1), (2, .int o7.2.1), (3, .int o7.2.2.1)], [.int o7.1], o7.2.2.2)) rfl ?_
      refine tb_b_ine rfl (fun hc => ?_) (fun hc => ?_)
      · rw [if_pos hc] at h
        refine tb_Es (k := 2) (st' := (43, [(1, .int o7.1), (2, .int o7.2.1), (3, .int o7.2.2.1)], [.int o7.2.1], o7.2.2.2)) rfl ?_
        obtain rfl := Option.some.inj h
        subst hr
        exact tb_Er rfl rfl
      · rw [if_neg hc] at h
        refine tb_Es (k := 1) (st' := (43, [(1, .int o7.1), (2, .int o7.2.1), (3, .int o7.2.2.1)], [.int o7.2.2.1], o7.2.2.2)) rfl ?_
        obtain rfl := Option.some.inj h
        subst hr
        exact tb_Er rfl rfl
