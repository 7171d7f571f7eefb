/-! TannerBuntingModel.pence(II)I -/
def fl_m_pence_38 : Nat → Nat → Int32 → Int32 → Int32 → Int32 → Int32 → Int32 → Int32 → tb_Hp → Option (Int32 × Int32 × Int32 × Int32 × tb_Hp)
  | 0, _, _, _, _, _, _, _, _, _ => none
  | n + 1, v0, v1, v2, v3, v4, v5, v6, v7, w => (tb_on 22 v0 w (fb_m_houses v0 w)).bind fun x7 => (if v7 < x7.1 then (tb_on 22 v0 x7.2 (fb_m_isStanding v0 v7 x7.2)).bind fun x8 => (if x8.1 = 0 then fl_m_pence_38 n v0 v1 v2 v3 v4 v5 v6 (v7 + 1) x8.2 else (tb_gN 22 20 v0 x8.2).bind fun p9 => (tb_lI [1, 9] p9 (12 + v7) x8.2).bind fun x10 => if v3 = 0 then none else if v3 = 0 then none else if v3 = 0 then none else (if ((v1 * x10) - (v1 * x10) / v3 * v3) ≤ (v4 - v4 / v3 * v3) then if v3 = 0 then none else if v3 = 0 then none else (if ((v1 * x10) - (v1 * x10) / v3 * v3) = (v4 - v4 / v3 * v3) then (if v7 < v2 then fl_m_pence_38 n v0 v1 v2 v3 v4 (v5 - ((v1 * x10) / v3)) (v6 + 1) (v7 + 1) x8.2 else fl_m_pence_38 n v0 v1 v2 v3 v4 (v5 - ((v1 * x10) / v3)) (v6 + 0) (v7 + 1) x8.2) else fl_m_pence_38 n v0 v1 v2 v3 v4 (v5 - ((v1 * x10) / v3)) (v6 + 0) (v7 + 1) x8.2) else fl_m_pence_38 n v0 v1 v2 v3 v4 (v5 - ((v1 * x10) / v3)) (v6 + 1) (v7 + 1) x8.2)) else some ((v3, v4, v5, v6, x7.2)))
set_option maxHeartbeats 4000000 in
set_option maxRecDepth 20000 in
theorem dl_m_pence_38 : ∀ (n : Nat) (v0 : Nat) (v1 : Int32) (v2 : Int32) (v3 : Int32) (v4 : Int32) (v5 : Int32) (v6 : Int32) (v7 : Int32) (w : tb_Hp) (o : Int32 × Int32 × Int32 × Int32 × tb_Hp), fl_m_pence_38 n v0 v1 v2 v3 v4 v5 v6 v7 w = some o → ∀ (r : Option Value × tb_Hp), tb_Ev tb_P 4 283 (89, [(3, .int o.1), (4, .int o.2.1), (5, .int o.2.2.1), (6, .int o.2.2.2.1)], [], o.2.2.2.2) r → tb_Ev tb_P 4 283 (39, [(0, .ref v0), (1, .int v1), (2, .int v2), (3, .int v3), (4, .int v4), (5, .int v5), (6, .int v6), (7, .int v7)], [], w) r := by
  intro n
  induction n with
  | zero =>
    intro v0 v1 v2 v3 v4 v5 v6 v7 w o h
    cases h
  | succ n ih =>
    intro v0 v1 v2 v3 v4 v5 v6 v7 w o h r hx
    unfold fl_m_pence_38 at h
    refine tb_Es (k := 2) (st' := (41, [(0, .ref v0), (1, .int v1), (2, .int v2), (3, .int v3), (4, .int v4), (5, .int v5), (6, .int v6), (7, .int v7)], [.ref v0, .int v7], w)) rfl ?_
    replace h := Option.bind_eq_some_iff.mp h
    obtain ⟨x7, ex7, h⟩ := h
    obtain ⟨hkx7, hcall⟩ := tb_on_some ex7
    refine tb_e_cv (v := some (.int x7.1)) rfl (Or.inl ⟨_, rfl⟩) rfl rfl (Nat.le_of_ble_eq_true rfl) rfl (Nat.le_of_ble_eq_true rfl) hkx7 ((dc_m_houses hcall).up (by decide)) ?_
    refine tb_b_cge rfl (fun hc => ?_) (fun hc => ?_)
    · rw [if_pos hc] at h
      refine tb_Es (k := 2) (st' := (45, [(0, .ref v0), (1, .int v1), (2, .int v2), (3, .int v3), (4, .int v4), (5, .int v5), (6, .int v6), (7, .int v7)], [.int v7, .ref v0], x7.2)) rfl ?_
      replace h := Option.bind_eq_some_iff.mp h
      obtain ⟨x8, ex8, h⟩ := h
      obtain ⟨hkx8, hcall⟩ := tb_on_some ex8
      refine tb_e_cv (v := some (.int x8.1)) rfl (Or.inl ⟨_, rfl⟩) rfl rfl (Nat.le_of_ble_eq_true rfl) rfl (Nat.le_of_ble_eq_true rfl) hkx8 ((dc_m_isStanding hcall).up (by decide)) ?_
      refine tb_b_ine rfl (fun hc => ?_) (fun hc => ?_)
      · rw [if_pos hc] at h
        refine tb_Es (k := 4) (st' := (39, [(0, .ref v0), (1, .int v1), (2, .int v2), (3, .int v3), (4, .int v4), (5, .int v5), (6, .int v6), (7, .int (v7 + 1))], [], x8.2)) rfl ?_
        exact ih v0 v1 v2 v3 v4 v5 v6 (v7 + 1) x8.2 _ h r hx
      · rw [if_neg hc] at h
        refine tb_Es (k := 2) (st' := (50, [(0, .ref v0), (1, .int v1), (2, .int v2), (3, .int v3), (4, .int v4), (5, .int v5), (6, .int v6), (7, .int v7)], [.ref v0, .int v1], x8.2)) rfl ?_
        replace h := Option.bind_eq_some_iff.mp h
        obtain ⟨p9, ep9, h⟩ := h
        refine tb_e_gN rfl ep9 ?_
        refine tb_Es (k := 3) (st' := (54, [(0, .ref v0), (1, .int v1), (2, .int v2), (3, .int v3), (4, .int v4), (5, .int v5), (6, .int v6), (7, .int v7)], [.int (12 + v7), .ref p9, .int v1], x8.2)) rfl ?_
        replace h := Option.bind_eq_some_iff.mp h
        obtain ⟨x10, ex10, h⟩ := h
        refine tb_e_lI rfl (Or.inl ⟨rfl, rfl⟩) ex10 ?_
        refine tb_Es (k := 5) (st' := (60, [(8, .int (v1 * x10)), (0, .ref v0), (1, .int v1), (2, .int v2), (3, .int v3), (4, .int v4), (5, .int v5), (6, .int v6), (7, .int v7)], [.int v3, .int (v1 * x10), .int v5], x8.2)) rfl ?_
        by_cases hz : v3 = 0
        · rw [if_pos hz] at h
          cases h
        rw [if_neg hz] at h
        refine tb_e_idiv rfl hz ?_
        refine tb_Es (k := 5) (st' := (66, [(5, .int (v5 - ((v1 * x10) / v3))), (8, .int (v1 * x10)), (0, .ref v0), (1, .int v1), (2, .int v2), (3, .int v3), (4, .int v4), (6, .int v6), (7, .int v7)], [.int v3, .int (v1 * x10), .int v6], x8.2)) rfl ?_
        by_cases hz : v3 = 0
        · rw [if_pos hz] at h
          cases h
        rw [if_neg hz] at h
        refine tb_e_irem rfl hz ?_
        refine tb_Es (k := 2) (st' := (69, [(5, .int (v5 - ((v1 * x10) / v3))), (8, .int (v1 * x10)), (0, .ref v0), (1, .int v1), (2, .int v2), (3, .int v3), (4, .int v4), (6, .int v6), (7, .int v7)], [.int v3, .int v4, .int ((v1 * x10) - (v1 * x10) / v3 * v3), .int v6], x8.2)) rfl ?_
        by_cases hz : v3 = 0
        · rw [if_pos hz] at h
          cases h
        rw [if_neg hz] at h
        refine tb_e_irem rfl hz ?_
        refine tb_b_cgt rfl (fun hc => ?_) (fun hc => ?_)
        · rw [if_pos hc] at h
          refine tb_Es (k := 2) (st' := (73, [(5, .int (v5 - ((v1 * x10) / v3))), (8, .int (v1 * x10)), (0, .ref v0), (1, .int v1), (2, .int v2), (3, .int v3), (4, .int v4), (6, .int v6), (7, .int v7)], [.int v3, .int (v1 * x10), .int v6], x8.2)) rfl ?_
          by_cases hz : v3 = 0
          · rw [if_pos hz] at h
            cases h
          rw [if_neg hz] at h
          refine tb_e_irem rfl hz ?_
          refine tb_Es (k := 2) (st' := (76, [(5, .int (v5 - ((v1 * x10) / v3))), (8, .int (v1 * x10)), (0, .ref v0), (1, .int v1), (2, .int v2), (3, .int v3), (4, .int v4), (6, .int v6), (7, .int v7)], [.int v3, .int v4, .int ((v1 * x10) - (v1 * x10) / v3 * v3), .int v6], x8.2)) rfl ?_
          by_cases hz : v3 = 0
          · rw [if_pos hz] at h
            cases h
          rw [if_neg hz] at h
          refine tb_e_irem rfl hz ?_
          refine tb_b_cne rfl (fun hc => ?_) (fun hc => ?_)
          · rw [if_pos hc] at h
            refine tb_Es (k := 2) (st' := (80, [(5, .int (v5 - ((v1 * x10) / v3))), (8, .int (v1 * x10)), (0, .ref v0), (1, .int v1), (2, .int v2), (3, .int v3), (4, .int v4), (6, .int v6), (7, .int v7)], [.int v2, .int v7, .int v6], x8.2)) rfl ?_
            refine tb_b_cge rfl (fun hc => ?_) (fun hc => ?_)
            · rw [if_pos hc] at h
              refine tb_Es (k := 7) (st' := (39, [(0, .ref v0), (1, .int v1), (2, .int v2), (3, .int v3), (4, .int v4), (5, .int (v5 - ((v1 * x10) / v3))), (6, .int (v6 + 1)), (7, .int (v7 + 1))], [], x8.2)) rfl ?_
              exact ih v0 v1 v2 v3 v4 (v5 - ((v1 * x10) / v3)) (v6 + 1) (v7 + 1) x8.2 _ h r hx
            · rw [if_neg hc] at h
              refine tb_Es (k := 6) (st' := (39, [(0, .ref v0), (1, .int v1), (2, .int v2), (3, .int v3), (4, .int v4), (5, .int (v5 - ((v1 * x10) / v3))), (6, .int (v6 + 0)), (7, .int (v7 + 1))], [], x8.2)) rfl ?_
              exact ih v0 v1 v2 v3 v4 (v5 - ((v1 * x10) / v3)) (v6 + 0) (v7 + 1) x8.2 _ h r hx
          · rw [if_neg hc] at h
            refine tb_Es (k := 6) (st' := (39, [(0, .ref v0), (1, .int v1), (2, .int v2), (3, .int v3), (4, .int v4), (5, .int (v5 - ((v1 * x10) / v3))), (6, .int (v6 + 0)), (7, .int (v7 + 1))], [], x8.2)) rfl ?_
            exact ih v0 v1 v2 v3 v4 (v5 - ((v1 * x10) / v3)) (v6 + 0) (v7 + 1) x8.2 _ h r hx
        · rw [if_neg hc] at h
          refine tb_Es (k := 7) (st' := (39, [(0, .ref v0), (1, .int v1), (2, .int v2), (3, .int v3), (4, .int v4), (5, .int (v5 - ((v1 * x10) / v3))), (6, .int (v6 + 1)), (7, .int (v7 + 1))], [], x8.2)) rfl ?_
          exact ih v0 v1 v2 v3 v4 (v5 - ((v1 * x10) / v3)) (v6 + 1) (v7 + 1) x8.2 _ h r hx
    · rw [if_neg hc] at h
      refine tb_Es (k := 1) (st' := (89, [(3, .int v3), (4, .int v4), (5, .int v5), (6, .int v6)], [], x7.2)) rfl ?_
      obtain rfl := Option.some.inj h
      exact hx
def fb_m_pence (a0 : Nat) (a1 : Int32) (a2 : Int32) (w : tb_Hp) : Option (Int32 × tb_Hp) := (tb_on 22 a0 w (fb_m_isHouse a0 a2 w)).bind fun x1 => (if x1.1 = 0 then some (-1, x1.2) else (fb_m_in (Int32.toInt64 a1) 0 9999 x1.2).bind fun x2 => (if x2.1 = 0 then some (-1, x2.2) else (tb_on 22 a0 x2.2 (fb_m_leanAll a0 x2.2)).bind fun x3 => (if x3.1 = 0 then some (0, x3.2) else (tb_on 22 a0 x3.2 (fb_m_isStanding a0 a2 x3.2)).bind fun x4 => (if x4.1 = 0 then some (0, x4.2) else (tb_gN 22 20 a0 x4.2).bind fun p5 => (tb_lI [1, 9] p5 (12 + a2) x4.2).bind fun x6 => (fl_m_pence_38 1048576 a0 a1 a2 x3.1 (a1 * x6) a1 0 0 x4.2).bind fun o11 => if o11.1 = 0 then none else (if o11.2.2.2.1 < o11.2.2.1 then some ((o11.2.1 / o11.1) + 1, o11.2.2.2.2) else some ((o11.2.1 / o11.1) + 0, o11.2.2.2.2))))))
set_option maxHeartbeats 4000000 in
set_option maxRecDepth 20000 in
theorem dc_m_pence {a0 : Nat} {a1 : Int32} {a2 : Int32} {w : tb_Hp} {o : Int32 × tb_Hp} (h : fb_m_pence a0 a1 a2 w = some o) : tb_Ev tb_P 4 283 (0, tb_ent [.ref a0, .int a1, .int a2], [], w) (some (.int o.1), o.2) := by
  unfold fb_m_pence at h
  obtain ⟨r, hr⟩ : ∃ r : Option Value × tb_Hp, r = (some (.int o.1), o.2) := ⟨_, rfl⟩
  rw [← hr]
  show tb_Ev tb_P 4 283 (0, [(0, .ref a0), (1, .int a1), (2, .int a2)], [], w) r
  refine tb_Es (k := 2) (st' := (2, [(0, .ref a0), (1, .int a1), (2, .int a2)], [.int a2, .ref a0], w)) rfl ?_
  replace h := Option.bind_eq_some_iff.mp h
  obtain ⟨x1, ex1, h⟩ := h
  obtain ⟨hkx1, hcall⟩ := tb_on_some ex1
  refine tb_e_cv (v := some (.int x1.1)) rfl (Or.inl ⟨_, rfl⟩) rfl rfl (Nat.le_of_ble_eq_true rfl) rfl (Nat.le_of_ble_eq_true rfl) hkx1 ((dc_m_isHouse hcall).up (by decide)) ?_
  refine tb_b_ieq rfl (fun hc => ?_) (fun hc => ?_)
  · rw [if_pos hc] at h
    refine tb_Es (k := 1) (st' := (11, [(0, .ref a0), (1, .int a1), (2, .int a2)], [.int (-1)], x1.2)) rfl ?_
    obtain rfl := Option.some.inj h
    subst hr
    exact tb_Er rfl rfl
  · rw [if_neg hc] at h
    refine tb_Es (k := 4) (st' := (8, [(0, .ref a0), (1, .int a1), (2, .int a2)], [.long 9999, .long 0, .long (Int32.toInt64 a1)], x1.2)) rfl ?_
    replace h := Option.bind_eq_some_iff.mp h
    obtain ⟨x2, ex2, h⟩ := h
    have hcall := ex2
    refine tb_e_cs (v := some (.int x2.1)) rfl rfl rfl (Nat.le_of_ble_eq_true rfl) rfl (Nat.le_of_ble_eq_true rfl) ((dc_m_in hcall).up (by decide)) ?_
    refine tb_b_ine rfl (fun hc => ?_) (fun hc => ?_)
    · rw [if_pos hc] at h
      refine tb_Es (k := 1) (st' := (11, [(0, .ref a0), (1, .int a1), (2, .int a2)], [.int (-1)], x2.2)) rfl ?_
      obtain rfl := Option.some.inj h
      subst hr
      exact tb_Er rfl rfl
    · rw [if_neg hc] at h
      refine tb_Es (k := 1) (st' := (13, [(0, .ref a0), (1, .int a1), (2, .int a2)], [.ref a0], x2.2)) rfl ?_
      replace h := Option.bind_eq_some_iff.mp h
      obtain ⟨x3, ex3, h⟩ := h
      obtain ⟨hkx3, hcall⟩ := tb_on_some ex3
      refine tb_e_cv (v := some (.int x3.1)) rfl (Or.inl ⟨_, rfl⟩) rfl rfl (Nat.le_of_ble_eq_true rfl) rfl (Nat.le_of_ble_eq_true rfl) hkx3 ((dc_m_leanAll hcall).up (by decide)) ?_
      refine tb_Es (k := 2) (st' := (16, [(3, .int x3.1), (0, .ref a0), (1, .int a1), (2, .int a2)], [.int x3.1], x3.2)) rfl ?_
      refine tb_b_ieq rfl (fun hc => ?_) (fun hc => ?_)
      · rw [if_pos hc] at h
        refine tb_Es (k := 1) (st' := (22, [(3, .int x3.1), (0, .ref a0), (1, .int a1), (2, .int a2)], [.int 0], x3.2)) rfl ?_
        obtain rfl := Option.some.inj h
        subst hr
        exact tb_Er rfl rfl
      · rw [if_neg hc] at h
        refine tb_Es (k := 2) (st' := (19, [(3, .int x3.1), (0, .ref a0), (1, .int a1), (2, .int a2)], [.int a2, .ref a0], x3.2)) rfl ?_
        replace h := Option.bind_eq_some_iff.mp h
        obtain ⟨x4, ex4, h⟩ := h
        obtain ⟨hkx4, hcall⟩ := tb_on_some ex4
        refine tb_e_cv (v := some (.int x4.1)) rfl (Or.inl ⟨_, rfl⟩) rfl rfl (Nat.le_of_ble_eq_true rfl) rfl (Nat.le_of_ble_eq_true rfl) hkx4 ((dc_m_isStanding hcall).up (by decide)) ?_
        refine tb_b_ine rfl (fun hc => ?_) (fun hc => ?_)
        · rw [if_pos hc] at h
          refine tb_Es (k := 1) (st' := (22, [(3, .int x3.1), (0, .ref a0), (1, .int a1), (2, .int a2)], [.int 0], x4.2)) rfl ?_
          obtain rfl := Option.some.inj h
          subst hr
          exact tb_Er rfl rfl
        · rw [if_neg hc] at h
          refine tb_Es (k := 2) (st' := (25, [(3, .int x3.1), (0, .ref a0), (1, .int a1), (2, .int a2)], [.ref a0, .int a1], x4.2)) rfl ?_
          replace h := Option.bind_eq_some_iff.mp h
          obtain ⟨p5, ep5, h⟩ := h
          refine tb_e_gN rfl ep5 ?_
          refine tb_Es (k := 3) (st' := (29, [(3, .int x3.1), (0, .ref a0), (1, .int a1), (2, .int a2)], [.int (12 + a2), .ref p5, .int a1], x4.2)) rfl ?_
          replace h := Option.bind_eq_some_iff.mp h
          obtain ⟨x6, ex6, h⟩ := h
          refine tb_e_lI rfl (Or.inl ⟨rfl, rfl⟩) ex6 ?_
          refine tb_Es (k := 9) (st' := (39, [(0, .ref a0), (1, .int a1), (2, .int a2), (3, .int x3.1), (4, .int (a1 * x6)), (5, .int a1), (6, .int 0), (7, .int 0)], [], x4.2)) rfl ?_
          replace h := Option.bind_eq_some_iff.mp h
          obtain ⟨o11, eo11, h⟩ := h
          refine dl_m_pence_38 _ a0 a1 a2 x3.1 (a1 * x6) a1 0 0 x4.2 _ eo11 r ?_
          refine tb_Es (k := 2) (st' := (91, [(3, .int o11.1), (4, .int o11.2.1), (5, .int o11.2.2.1), (6, .int o11.2.2.2.1)], [.int o11.1, .int o11.2.1], o11.2.2.2.2)) rfl ?_
          by_cases hz : o11.1 = 0
          · rw [if_pos hz] at h
            cases h
          rw [if_neg hz] at h
          refine tb_e_idiv rfl hz ?_
          refine tb_Es (k := 2) (st' := (94, [(3, .int o11.1), (4, .int o11.2.1), (5, .int o11.2.2.1), (6, .int o11.2.2.2.1)], [.int o11.2.2.1, .int o11.2.2.2.1, .int (o11.2.1 / o11.1)], o11.2.2.2.2)) rfl ?_
          refine tb_b_cge rfl (fun hc => ?_) (fun hc => ?_)
          · rw [if_pos hc] at h
            refine tb_Es (k := 3) (st' := (99, [(3, .int o11.1), (4, .int o11.2.1), (5, .int o11.2.2.1), (6, .int o11.2.2.2.1)], [.int ((o11.2.1 / o11.1) + 1)], o11.2.2.2.2)) rfl ?_
            obtain rfl := Option.some.inj h
            subst hr
            exact tb_Er rfl rfl
          · rw [if_neg hc] at h
            refine tb_Es (k := 2) (st' := (99, [(3, .int o11.1), (4, .int o11.2.1), (5, .int o11.2.2.1), (6, .int o11.2.2.2.1)], [.int ((o11.2.1 / o11.1) + 0)], o11.2.2.2.2)) rfl ?_
            obtain rfl := Option.some.inj h
            subst hr
            exact tb_Er rfl rfl
/-! TannerBuntingModel.count(I)I -/
def fb_m_count (a0 : Nat) (a1 : Int32) (w : tb_Hp) : Option (Int32 × tb_Hp) := (if a1 = 0 then (tb_gN 22 20 a0 w).bind fun p1 => (tb_lI [1, 9] p1 (a1 + 1) w).bind fun x2 => some (x2, w) else (if a1 = 1 then (tb_gN 22 20 a0 w).bind fun p3 => (tb_lI [1, 9] p3 (a1 + 1) w).bind fun x4 => some (x4, w) else (if a1 = 2 then (tb_gN 22 20 a0 w).bind fun p5 => (tb_lI [1, 9] p5 11 w).bind fun x6 => some (x6, w) else (if a1 = 3 then (tb_gI 22 2 a0 w).bind fun x7 => some (x7, w) else (if a1 = 4 then (tb_gI 22 21 a0 w).bind fun x8 => some (x8, w) else (if a1 = 5 then (tb_gN 22 20 a0 w).bind fun p9 => (tb_lI [1, 9] p9 10 w).bind fun x10 => some (x10, w) else (if a1 = 6 then (tb_on 22 a0 w (fb_m_standingOnes a0 w)).bind fun x11 => some (x11.1, x11.2) else (if a1 = 7 then (tb_on 22 a0 w (fb_m_linesUp a0 w)).bind fun x12 => some (x12.1, x12.2) else (if a1 = 8 then (tb_on 22 a0 w (fb_m_pullAll a0 w)).bind fun x13 => some (x13.1, x13.2) else (if a1 = 9 then (tb_on 22 a0 w (fb_m_leanAll a0 w)).bind fun x14 => some (x14.1, x14.2) else (if a1 = 10 then (tb_gN 22 20 a0 w).bind fun p15 => (tb_lI [1, 9] p15 148 w).bind fun x16 => some (x16, w) else (if a1 = 11 then (tb_gI 22 24 a0 w).bind fun x17 => some (x17, w) else (if a1 = 12 then (tb_gI 22 22 a0 w).bind fun x18 => some (x18, w) else (if a1 = 13 then (tb_gI 22 1 a0 w).bind fun x19 => some (x19, w) else some (-1, w)))))))))))))))
set_option maxHeartbeats 4000000 in
set_option maxRecDepth 20000 in
theorem dc_m_count {a0 : Nat} {a1 : Int32} {w : tb_Hp} {o : Int32 × tb_Hp} (h : fb_m_count a0 a1 w = some o) : tb_Ev tb_P 4 296 (0, tb_ent [.ref a0, .int a1], [], w) (some (.int o.1), o.2) := by
  unfold fb_m_count at h
  obtain ⟨r, hr⟩ : ∃ r : Option Value × tb_Hp, r = (some (.int o.1), o.2) := ⟨_, rfl⟩
  rw [← hr]
  show tb_Ev tb_P 4 296 (0, [(0, .ref a0), (1, .int a1)], [], w) r
  refine tb_Es (k := 1) (st' := (1, [(0, .ref a0), (1, .int a1)], [.int a1], w)) rfl ?_
  refine tb_w_tab rfl (by decide) ?_
  refine tb_w_one (k := 0) (by decide) (fun hc => ?_) (fun hc => ?_)
  · rw [if_pos hc] at h
    refine tb_Es (k := 1) (st' := (3, [(0, .ref a0), (1, .int a1)], [.ref a0], w)) rfl ?_
    replace h := Option.bind_eq_some_iff.mp h
    obtain ⟨p1, ep1, h⟩ := h
    refine tb_e_gN rfl ep1 ?_
    refine tb_Es (k := 3) (st' := (7, [(0, .ref a0), (1, .int a1)], [.int (a1 + 1), .ref p1], w)) rfl ?_
    replace h := Option.bind_eq_some_iff.mp h
    obtain ⟨x2, ex2, h⟩ := h
    refine tb_e_lI rfl (Or.inl ⟨rfl, rfl⟩) ex2 ?_
    obtain rfl := Option.some.inj h
    subst hr
    exact tb_Er rfl rfl
  rw [if_neg hc] at h
  refine tb_w_one (k := 1) (by decide) (fun hc => ?_) (fun hc => ?_)
  · rw [if_pos hc] at h
    refine tb_Es (k := 1) (st' := (3, [(0, .ref a0), (1, .int a1)], [.ref a0], w)) rfl ?_
    replace h := Option.bind_eq_some_iff.mp h
    obtain ⟨p3, ep3, h⟩ := h
    refine tb_e_gN rfl ep3 ?_
    refine tb_Es (k := 3) (st' := (7, [(0, .ref a0), (1, .int a1)], [.int (a1 + 1), .ref p3], w)) rfl ?_
    replace h := Option.bind_eq_some_iff.mp h
    obtain ⟨x4, ex4, h⟩ := h
    refine tb_e_lI rfl (Or.inl ⟨rfl, rfl⟩) ex4 ?_
    obtain rfl := Option.some.inj h
    subst hr
    exact tb_Er rfl rfl
  rw [if_neg hc] at h
  refine tb_w_one (k := 2) (by decide) (fun hc => ?_) (fun hc => ?_)
  · rw [if_pos hc] at h
    refine tb_Es (k := 1) (st' := (10, [(0, .ref a0), (1, .int a1)], [.ref a0], w)) rfl ?_
    replace h := Option.bind_eq_some_iff.mp h
    obtain ⟨p5, ep5, h⟩ := h
    refine tb_e_gN rfl ep5 ?_
    refine tb_Es (k := 1) (st' := (12, [(0, .ref a0), (1, .int a1)], [.int 11, .ref p5], w)) rfl ?_
    replace h := Option.bind_eq_some_iff.mp h
    obtain ⟨x6, ex6, h⟩ := h
    refine tb_e_lI rfl (Or.inl ⟨rfl, rfl⟩) ex6 ?_
    obtain rfl := Option.some.inj h
    subst hr
    exact tb_Er rfl rfl
  rw [if_neg hc] at h
  refine tb_w_one (k := 3) (by decide) (fun hc => ?_) (fun hc => ?_)
  · rw [if_pos hc] at h
    refine tb_Es (k := 1) (st' := (15, [(0, .ref a0), (1, .int a1)], [.ref a0], w)) rfl ?_
    replace h := Option.bind_eq_some_iff.mp h
    obtain ⟨x7, ex7, h⟩ := h
    refine tb_e_gI rfl ex7 ?_
    obtain rfl := Option.some.inj h
    subst hr
    exact tb_Er rfl rfl
  rw [if_neg hc] at h
  refine tb_w_one (k := 4) (by decide) (fun hc => ?_) (fun hc => ?_)
  · rw [if_pos hc] at h
    refine tb_Es (k := 1) (st' := (18, [(0, .ref a0), (1, .int a1)], [.ref a0], w)) rfl ?_
    replace h := Option.bind_eq_some_iff.mp h
    obtain ⟨x8, ex8, h⟩ := h
    refine tb_e_gI rfl ex8 ?_
    obtain rfl := Option.some.inj h
    subst hr
    exact tb_Er rfl rfl
  rw [if_neg hc] at h
  refine tb_w_one (k := 5) (by decide) (fun hc => ?_) (fun hc => ?_)
  · rw [if_pos hc] at h
    refine tb_Es (k := 1) (st' := (21, [(0, .ref a0), (1, .int a1)], [.ref a0], w)) rfl ?_
    replace h := Option.bind_eq_some_iff.mp h
    obtain ⟨p9, ep9, h⟩ := h
    refine tb_e_gN rfl ep9 ?_
    refine tb_Es (k := 1) (st' := (23, [(0, .ref a0), (1, .int a1)], [.int 10, .ref p9], w)) rfl ?_
    replace h := Option.bind_eq_some_iff.mp h
    obtain ⟨x10, ex10, h⟩ := h
    refine tb_e_lI rfl (Or.inl ⟨rfl, rfl⟩) ex10 ?_
    obtain rfl := Option.some.inj h
    subst hr
    exact tb_Er rfl rfl
  rw [if_neg hc] at h
  refine tb_w_one (k := 6) (by decide) (fun hc => ?_) (fun hc => ?_)
  · rw [if_pos hc] at h
    refine tb_Es (k := 1) (st' := (26, [(0, .ref a0), (1, .int a1)], [.ref a0], w)) rfl ?_
    replace h := Option.bind_eq_some_iff.mp h
    obtain ⟨x11, ex11, h⟩ := h
    obtain ⟨hkx11, hcall⟩ := tb_on_some ex11
    refine tb_e_cv (v := some (.int x11.1)) rfl (Or.inl ⟨_, rfl⟩) rfl rfl (Nat.le_of_ble_eq_true rfl) rfl (Nat.le_of_ble_eq_true rfl) hkx11 ((dc_m_standingOnes hcall).up (by decide)) ?_
    obtain rfl := Option.some.inj h
    subst hr
    exact tb_Er rfl rfl
  rw [if_neg hc] at h
  refine tb_w_one (k := 7) (by decide) (fun hc => ?_) (fun hc => ?_)
  · rw [if_pos hc] at h
    refine tb_Es (k := 1) (st' := (29, [(0, .ref a0), (1, .int a1)], [.ref a0], w)) rfl ?_
    replace h := Option.bind_eq_some_iff.mp h
    obtain ⟨x12, ex12, h⟩ := h
    obtain ⟨hkx12, hcall⟩ := tb_on_some ex12
    refine tb_e_cv (v := some (.int x12.1)) rfl (Or.inl ⟨_, rfl⟩) rfl rfl (Nat.le_of_ble_eq_true rfl) rfl (Nat.le_of_ble_eq_true rfl) hkx12 ((dc_m_linesUp hcall).up (by decide)) ?_
    obtain rfl := Option.some.inj h
    subst hr
    exact tb_Er rfl rfl
  rw [if_neg hc] at h
  refine tb_w_one (k := 8) (by decide) (fun hc => ?_) (fun hc => ?_)
  · rw [if_pos hc] at h
    refine tb_Es (k := 1) (st' := (32, [(0, .ref a0), (1, .int a1)], [.ref a0], w)) rfl ?_
    replace h := Option.bind_eq_some_iff.mp h
    obtain ⟨x13, ex13, h⟩ := h
    obtain ⟨hkx13, hcall⟩ := tb_on_some ex13
    refine tb_e_cv (v := some (.int x13.1)) rfl (Or.inl ⟨_, rfl⟩) rfl rfl (Nat.le_of_ble_eq_true rfl) rfl (Nat.le_of_ble_eq_true rfl) hkx13 ((dc_m_pullAll hcall).up (by decide)) ?_
    obtain rfl := Option.some.inj h
    subst hr
    exact tb_Er rfl rfl
  rw [if_neg hc] at h
  refine tb_w_one (k := 9) (by decide) (fun hc => ?_) (fun hc => ?_)
  · rw [if_pos hc] at h
    refine tb_Es (k := 1) (st' := (35, [(0, .ref a0), (1, .int a1)], [.ref a0], w)) rfl ?_
    replace h := Option.bind_eq_some_iff.mp h
    obtain ⟨x14, ex14, h⟩ := h
    obtain ⟨hkx14, hcall⟩ := tb_on_some ex14
    refine tb_e_cv (v := some (.int x14.1)) rfl (Or.inl ⟨_, rfl⟩) rfl rfl (Nat.le_of_ble_eq_true rfl) rfl (Nat.le_of_ble_eq_true rfl) hkx14 ((dc_m_leanAll hcall).up (by decide)) ?_
    obtain rfl := Option.some.inj h
    subst hr
    exact tb_Er rfl rfl
  rw [if_neg hc] at h
  refine tb_w_one (k := 10) (by decide) (fun hc => ?_) (fun hc => ?_)
  · rw [if_pos hc] at h
    refine tb_Es (k := 1) (st' := (38, [(0, .ref a0), (1, .int a1)], [.ref a0], w)) rfl ?_
    replace h := Option.bind_eq_some_iff.mp h
    obtain ⟨p15, ep15, h⟩ := h
    refine tb_e_gN rfl ep15 ?_
    refine tb_Es (k := 1) (st' := (40, [(0, .ref a0), (1, .int a1)], [.int 148, .ref p15], w)) rfl ?_
    replace h := Option.bind_eq_some_iff.mp h
    obtain ⟨x16, ex16, h⟩ := h
    refine tb_e_lI rfl (Or.inl ⟨rfl, rfl⟩) ex16 ?_
    obtain rfl := Option.some.inj h
    subst hr
    exact tb_Er rfl rfl
  rw [if_neg hc] at h
  refine tb_w_one (k := 11) (by decide) (fun hc => ?_) (fun hc => ?_)
  · rw [if_pos hc] at h
    refine tb_Es (k := 1) (st' := (43, [(0, .ref a0), (1, .int a1)], [.ref a0], w)) rfl ?_
    replace h := Option.bind_eq_some_iff.mp h
    obtain ⟨x17, ex17, h⟩ := h
    refine tb_e_gI rfl ex17 ?_
    obtain rfl := Option.some.inj h
    subst hr
    exact tb_Er rfl rfl
  rw [if_neg hc] at h
  refine tb_w_one (k := 12) (by decide) (fun hc => ?_) (fun hc => ?_)
  · rw [if_pos hc] at h
    refine tb_Es (k := 1) (st' := (46, [(0, .ref a0), (1, .int a1)], [.ref a0], w)) rfl ?_
    replace h := Option.bind_eq_some_iff.mp h
    obtain ⟨x18, ex18, h⟩ := h
    refine tb_e_gI rfl ex18 ?_
    obtain rfl := Option.some.inj h
    subst hr
    exact tb_Er rfl rfl
  rw [if_neg hc] at h
  refine tb_w_one (k := 13) (by decide) (fun hc => ?_) (fun hc => ?_)
  · rw [if_pos hc] at h
    refine tb_Es (k := 1) (st' := (49, [(0, .ref a0), (1, .int a1)], [.ref a0], w)) rfl ?_
    replace h := Option.bind_eq_some_iff.mp h
    obtain ⟨x19, ex19, h⟩ := h
    refine tb_e_gI rfl ex19 ?_
    obtain rfl := Option.some.inj h
    subst hr
    exact tb_Er rfl rfl
  rw [if_neg hc] at h
  refine tb_w_end ?_
  refine tb_Es (k := 1) (st' := (52, [(0, .ref a0), (1, .int a1)], [.int (-1)], w)) rfl ?_
  obtain rfl := Option.some.inj h
  subst hr
  exact tb_Er rfl rfl
/-! TannerBunting$RuleReader.readTest(I)V -/
def fl_rr_readTestO_10 (g : Nat → Int32 → tb_Hp → Option tb_Hp) : Nat → Nat → Int32 → Int32 → Int32 → tb_Hp → Option (Nat × Int32 × Int32 × tb_Hp)
  | 0, _, _, _, _, _ => none
  | n + 1, v0, v1, v2, v3, w => (if v3 < 400 then (tb_gN 14 0 v0 w).bind fun p2 => (tb_gI 19 1 p2 w).bind fun x3 => (if x3 = 37 then (tb_gN 14 0 v0 w).bind fun p4 => (tb_on 19 p4 w (fb_t_advance p4 w)).bind fun x5 => (tb_on 14 v0 x5 (g v0 v1 x5)).bind fun x6 => (tb_on 14 v0 x6 (fb_rr_emit v0 (-37) x6)).bind fun x7 => fl_rr_readTestO_10 g n v0 v1 v2 (v3 + 1) x7 else some ((v0, v1, v2, w))) else some ((v0, v1, v2, w)))
set_option maxHeartbeats 4000000 in
set_option maxRecDepth 20000 in
theorem dl_rr_readTestO_10 {g : Nat → Int32 → tb_Hp → Option tb_Hp} {D : Nat} (hg : ∀ (a0 : Nat) (a1 : Int32) (w o : tb_Hp), g a0 a1 w = some o → tb_Ev tb_P D 54 (0, tb_ent [.ref a0, .int a1], [], w) (none, o)) : ∀ (n : Nat) (v0 : Nat) (v1 : Int32) (v2 : Int32) (v3 : Int32) (w : tb_Hp) (o : Nat × Int32 × Int32 × tb_Hp), fl_rr_readTestO_10 g n v0 v1 v2 v3 w = some o → ∀ (r : Option Value × tb_Hp), tb_Ev tb_P (D + 1) 53 (32, [(0, .ref o.1), (1, .int o.2.1), (2, .int o.2.2.1)], [], o.2.2.2) r → tb_Ev tb_P (D + 1) 53 (12, [(0, .ref v0), (1, .int v1), (2, .int v2), (3, .int v3)], [], w) r := by
  intro n
  induction n with
  | zero =>
    intro v0 v1 v2 v3 w o h
    cases h
  | succ n ih =>
    intro v0 v1 v2 v3 w o h r hx
    unfold fl_rr_readTestO_10 at h
    refine tb_Es (k := 2) (st' := (14, [(0, .ref v0), (1, .int v1), (2, .int v2), (3, .int v3)], [.int 400, .int v3], w)) rfl ?_
    refine tb_b_cge rfl (fun hc => ?_) (fun hc => ?_)
    · rw [if_pos hc] at h
      refine tb_Es (k := 1) (st' := (16, [(0, .ref v0), (1, .int v1), (2, .int v2), (3, .int v3)], [.ref v0], w)) rfl ?_
      replace h := Option.bind_eq_some_iff.mp h
      obtain ⟨p2, ep2, h⟩ := h
      refine tb_e_gN rfl ep2 ?_
      replace h := Option.bind_eq_some_iff.mp h
      obtain ⟨x3, ex3, h⟩ := h
      refine tb_e_gI rfl ex3 ?_
      refine tb_Es (k := 1) (st' := (19, [(0, .ref v0), (1, .int v1), (2, .int v2), (3, .int v3)], [.int 37, .int x3], w)) rfl ?_
      refine tb_b_cne rfl (fun hc => ?_) (fun hc => ?_)
      · rw [if_pos hc] at h
        refine tb_Es (k := 1) (st' := (21, [(0, .ref v0), (1, .int v1), (2, .int v2), (3, .int v3)], [.ref v0], w)) rfl ?_
        replace h := Option.bind_eq_some_iff.mp h
        obtain ⟨p4, ep4, h⟩ := h
        refine tb_e_gN rfl ep4 ?_
        replace h := Option.bind_eq_some_iff.mp h
        obtain ⟨x5, ex5, h⟩ := h
        obtain ⟨hkx5, hcall⟩ := tb_on_some ex5
        refine tb_e_cv (v := none) rfl (Or.inl ⟨_, rfl⟩) rfl rfl (Nat.le_of_ble_eq_true rfl) rfl (Nat.le_of_ble_eq_true rfl) hkx5 ((dc_t_advance hcall).up (by omega)) ?_
        refine tb_Es (k := 2) (st' := (25, [(0, .ref v0), (1, .int v1), (2, .int v2), (3, .int v3)], [.int v1, .ref v0], x5)) rfl ?_
        replace h := Option.bind_eq_some_iff.mp h
        obtain ⟨x6, ex6, h⟩ := h
        obtain ⟨hkx6, hcall⟩ := tb_on_some ex6
        refine tb_e_cv (v := none) rfl (Or.inl ⟨_, rfl⟩) rfl rfl (Nat.le_of_ble_eq_true rfl) rfl (Nat.le_of_ble_eq_true rfl) hkx6 ((hg _ _ _ _ hcall).up (by omega)) ?_
        refine tb_Es (k := 2) (st' := (28, [(0, .ref v0), (1, .int v1), (2, .int v2), (3, .int v3)], [.int (-37), .ref v0], x6)) rfl ?_
        replace h := Option.bind_eq_some_iff.mp h
        obtain ⟨x7, ex7, h⟩ := h
        obtain ⟨hkx7, hcall⟩ := tb_on_some ex7
        refine tb_e_cv (v := none) rfl (Or.inl ⟨_, rfl⟩) rfl rfl (Nat.le_of_ble_eq_true rfl) rfl (Nat.le_of_ble_eq_true rfl) hkx7 ((dc_rr_emit hcall).up (by omega)) ?_
        refine tb_Es (k := 3) (st' := (12, [(0, .ref v0), (1, .int v1), (2, .int v2), (3, .int (v3 + 1))], [], x7)) rfl ?_
        exact ih v0 v1 v2 (v3 + 1) x7 _ h r hx
      · rw [if_neg hc] at h
        refine tb_Es (k := 1) (st' := (32, [(0, .ref v0), (1, .int v1), (2, .int v2)], [], w)) rfl ?_
        obtain rfl := Option.some.inj h
        exact hx
    · rw [if_neg hc] at h
      refine tb_Es (k := 1) (st' := (32, [(0, .ref v0), (1, .int v1), (2, .int v2)], [], w)) rfl ?_
      obtain rfl := Option.some.inj h
      exact hx
def fj_rr_readTestO_j39 (g : Nat → Int32 → tb_Hp → Option tb_Hp) (k : Nat → Int32 → Int32 → tb_Hp → Option (tb_Hp)) (w : tb_Hp) : Option (tb_Hp) := some (w)
set_option maxHeartbeats 4000000 in
set_option maxRecDepth 20000 in
theorem dj_rr_readTestO_j39 {g : Nat → Int32 → tb_Hp → Option tb_Hp} {D : Nat} (hg : ∀ (a0 : Nat) (a1 : Int32) (w o : tb_Hp), g a0 a1 w = some o → tb_Ev tb_P D 54 (0, tb_ent [.ref a0, .int a1], [], w) (none, o)) (k : Nat → Int32 → Int32 → tb_Hp → Option (tb_Hp)) (w : tb_Hp) (o : tb_Hp) (h : fj_rr_readTestO_j39 g k  w = some o) (r : Option Value × tb_Hp) (hx : r = (none, o)) (hk : ∀ (v0 : Nat) (v1 : Int32) (v2 : Int32) (w : tb_Hp), k v0 v1 v2 w = some o → tb_Ev tb_P (D + 1) 53 (3, [(0, .ref v0), (1, .int v1), (2, .int v2)], [], w) r) : tb_Ev tb_P (D + 1) 53 (44, [], [], w) r := by
  unfold fj_rr_readTestO_j39 at h
  obtain rfl := Option.some.inj h
  replace hx : r = _ := hx
  subst hx
  exact tb_Er rfl rfl
def fj_rr_readTestO_j34 (g : Nat → Int32 → tb_Hp → Option tb_Hp) (k : Nat → Int32 → Int32 → tb_Hp → Option (tb_Hp)) (v0 : Nat) (v1 : Int32) (v2 : Int32) (w : tb_Hp) : Option (tb_Hp) := (tb_gN 14 0 v0 w).bind fun p10 => (tb_gI 19 1 p10 w).bind fun x11 => (if x11 = 36 then (tb_gN 14 0 v0 w).bind fun p12 => (tb_on 19 p12 w (fb_t_advance p12 w)).bind fun x13 => k v0 v1 (v2 + 1) x13 else fj_rr_readTestO_j39 g k  w)
set_option maxHeartbeats 4000000 in
set_option maxRecDepth 20000 in
theorem dj_rr_readTestO_j34 {g : Nat → Int32 → tb_Hp → Option tb_Hp} {D : Nat} (hg : ∀ (a0 : Nat) (a1 : Int32) (w o : tb_Hp), g a0 a1 w = some o → tb_Ev tb_P D 54 (0, tb_ent [.ref a0, .int a1], [], w) (none, o)) (k : Nat → Int32 → Int32 → tb_Hp → Option (tb_Hp)) (v0 : Nat) (v1 : Int32) (v2 : Int32) (w : tb_Hp) (o : tb_Hp) (h : fj_rr_readTestO_j34 g k v0 v1 v2 w = some o) (r : Option Value × tb_Hp) (hx : r = (none, o)) (hk : ∀ (v0 : Nat) (v1 : Int32) (v2 : Int32) (w : tb_Hp), k v0 v1 v2 w = some o → tb_Ev tb_P (D + 1) 53 (3, [(0, .ref v0), (1, .int v1), (2, .int v2)], [], w) r) : tb_Ev tb_P (D + 1) 53 (38, [(0, .ref v0), (1, .int v1), (2, .int v2)], [], w) r := by
  unfold fj_rr_readTestO_j34 at h
  refine tb_Es (k := 1) (st' := (39, [(0, .ref v0), (1, .int v1), (2, .int v2)], [.ref v0], w)) rfl ?_
  replace h := Option.bind_eq_some_iff.mp h
  obtain ⟨p10, ep10, h⟩ := h
  refine tb_e_gN rfl ep10 ?_
  replace h := Option.bind_eq_some_iff.mp h
  obtain ⟨x11, ex11, h⟩ := h
  refine tb_e_gI rfl ex11 ?_
  refine tb_Es (k := 1) (st' := (42, [(0, .ref v0), (1, .int v1), (2, .int v2)], [.int 36, .int x11], w)) rfl ?_
  refine tb_b_ceq rfl (fun hc => ?_) (fun hc => ?_)
  · rw [if_pos hc] at h
    refine tb_Es (k := 1) (st' := (46, [(0, .ref v0), (1, .int v1), (2, .int v2)], [.ref v0], w)) rfl ?_
    replace h := Option.bind_eq_some_iff.mp h
    obtain ⟨p12, ep12, h⟩ := h
    refine tb_e_gN rfl ep12 ?_
    replace h := Option.bind_eq_some_iff.mp h
    obtain ⟨x13, ex13, h⟩ := h
    obtain ⟨hkx13, hcall⟩ := tb_on_some ex13
    refine tb_e_cv (v := none) rfl (Or.inl ⟨_, rfl⟩) rfl rfl (Nat.le_of_ble_eq_true rfl) rfl (Nat.le_of_ble_eq_true rfl) hkx13 ((dc_t_advance hcall).up (by omega)) ?_
    refine tb_Es (k := 3) (st' := (3, [(0, .ref v0), (1, .int v1), (2, .int (v2 + 1))], [], x13)) rfl ?_
    exact hk v0 v1 (v2 + 1) x13 h
  · rw [if_neg hc] at h
    refine tb_Es (k := 1) (st' := (44, [], [], w)) rfl ?_
    exact dj_rr_readTestO_j39 hg k  w _ h r hx hk
def fj_rr_readTestO_j45 (g : Nat → Int32 → tb_Hp → Option tb_Hp) (k : Nat → Int32 → Int32 → tb_Hp → Option (tb_Hp)) (w : tb_Hp) : Option (tb_Hp) := some (w)
set_option maxHeartbeats 4000000 in
set_option maxRecDepth 20000 in
theorem dj_rr_readTestO_j45 {g : Nat → Int32 → tb_Hp → Option tb_Hp} {D : Nat} (hg : ∀ (a0 : Nat) (a1 : Int32) (w o : tb_Hp), g a0 a1 w = some o → tb_Ev tb_P D 54 (0, tb_ent [.ref a0, .int a1], [], w) (none, o)) (k : Nat → Int32 → Int32 → tb_Hp → Option (tb_Hp)) (w : tb_Hp) (o : tb_Hp) (h : fj_rr_readTestO_j45 g k  w = some o) (r : Option Value × tb_Hp) (hx : r = (none, o)) (hk : ∀ (v0 : Nat) (v1 : Int32) (v2 : Int32) (w : tb_Hp), k v0 v1 v2 w = some o → tb_Ev tb_P (D + 1) 53 (3, [(0, .ref v0), (1, .int v1), (2, .int v2)], [], w) r) : tb_Ev tb_P (D + 1) 53 (51, [], [], w) r := by
  unfold fj_rr_readTestO_j45 at h
  obtain rfl := Option.some.inj h
  replace hx : r = _ := hx
  subst hx
  exact tb_Er rfl rfl
def fl_rr_readTestO_2 (g : Nat → Int32 → tb_Hp → Option tb_Hp) : Nat → Nat → Int32 → Int32 → tb_Hp → Option (tb_Hp)
  | 0, _, _, _, _ => none
  | n + 1, v0, v1, v2, w => (if v2 < 400 then (tb_on 14 v0 w (g v0 v1 w)).bind fun x1 => (fl_rr_readTestO_10 g 1048576 v0 v1 v2 0 x1).bind fun o8 => (if 0 < o8.2.2.1 then (tb_on 14 o8.1 o8.2.2.2 (fb_rr_emit o8.1 (-36) o8.2.2.2)).bind fun x9 => fj_rr_readTestO_j34 g (fl_rr_readTestO_2 g n) o8.1 o8.2.1 o8.2.2.1 x9 else fj_rr_readTestO_j34 g (fl_rr_readTestO_2 g n) o8.1 o8.2.1 o8.2.2.1 o8.2.2.2) else fj_rr_readTestO_j45 g (fl_rr_readTestO_2 g n)  w)
set_option maxHeartbeats 4000000 in
set_option maxRecDepth 20000 in
theorem dl_rr_readTestO_2 {g : Nat → Int32 → tb_Hp → Option tb_Hp} {D : Nat} (hg : ∀ (a0 : Nat) (a1 : Int32) (w o : tb_Hp), g a0 a1 w = some o → tb_Ev tb_P D 54 (0, tb_ent [.ref a0, .int a1], [], w) (none, o)) : ∀ (n : Nat) (v0 : Nat) (v1 : Int32) (v2 : Int32) (w : tb_Hp) (o : tb_Hp), fl_rr_readTestO_2 g n v0 v1 v2 w = some o → ∀ (r : Option Value × tb_Hp), r = (none, o) → tb_Ev tb_P (D + 1) 53 (3, [(0, .ref v0), (1, .int v1), (2, .int v2)], [], w) r := by
  intro n
  induction n with
  | zero =>
    intro v0 v1 v2 w o h
    cases h
  | succ n ih =>
    intro v0 v1 v2 w o h r hx
    unfold fl_rr_readTestO_2 at h
    refine tb_Es (k := 2) (st' := (5, [(0, .ref v0), (1, .int v1), (2, .int v2)], [.int 400, .int v2], w)) rfl ?_
    refine tb_b_cge rfl (fun hc => ?_) (fun hc => ?_)
    · rw [if_pos hc] at h
      refine tb_Es (k := 2) (st' := (8, [(0, .ref v0), (1, .int v1), (2, .int v2)], [.int v1, .ref v0], w)) rfl ?_
      replace h := Option.bind_eq_some_iff.mp h
      obtain ⟨x1, ex1, h⟩ := h
      obtain ⟨hkx1, hcall⟩ := tb_on_some ex1
      refine tb_e_cv (v := none) rfl (Or.inl ⟨_, rfl⟩) rfl rfl (Nat.le_of_ble_eq_true rfl) rfl (Nat.le_of_ble_eq_true rfl) hkx1 ((hg _ _ _ _ hcall).up (by omega)) ?_
      refine tb_Es (k := 3) (st' := (12, [(0, .ref v0), (1, .int v1), (2, .int v2), (3, .int 0)], [], x1)) rfl ?_
      replace h := Option.bind_eq_some_iff.mp h
      obtain ⟨o8, eo8, h⟩ := h
      refine dl_rr_readTestO_10 hg _ v0 v1 v2 0 x1 _ eo8 r ?_
      refine tb_Es (k := 1) (st' := (33, [(0, .ref o8.1), (1, .int o8.2.1), (2, .int o8.2.2.1)], [.int o8.2.2.1], o8.2.2.2)) rfl ?_
      refine tb_b_ile rfl (fun hc => ?_) (fun hc => ?_)
      · rw [if_pos hc] at h
        refine tb_Es (k := 2) (st' := (36, [(0, .ref o8.1), (1, .int o8.2.1), (2, .int o8.2.2.1)], [.int (-36), .ref o8.1], o8.2.2.2)) rfl ?_
        replace h := Option.bind_eq_some_iff.mp h
        obtain ⟨x9, ex9, h⟩ := h
        obtain ⟨hkx9, hcall⟩ := tb_on_some ex9
        refine tb_e_cv (v := none) rfl (Or.inl ⟨_, rfl⟩) rfl rfl (Nat.le_of_ble_eq_true rfl) rfl (Nat.le_of_ble_eq_true rfl) hkx9 ((dc_rr_emit hcall).up (by omega)) ?_
        refine tb_Es (k := 1) (st' := (38, [(0, .ref o8.1), (1, .int o8.2.1), (2, .int o8.2.2.1)], [], x9)) rfl ?_
        exact dj_rr_readTestO_j34 hg (fl_rr_readTestO_2 g n) o8.1 o8.2.1 o8.2.2.1 x9 _ h r hx (fun v0_ v1_ v2_ w_ h_ => ih v0_ v1_ v2_ w_ _ h_ r hx)
      · rw [if_neg hc] at h
        refine tb_Es (k := 1) (st' := (38, [(0, .ref o8.1), (1, .int o8.2.1), (2, .int o8.2.2.1)], [], o8.2.2.2)) rfl ?_
        exact dj_rr_readTestO_j34 hg (fl_rr_readTestO_2 g n) o8.1 o8.2.1 o8.2.2.1 o8.2.2.2 _ h r hx (fun v0_ v1_ v2_ w_ h_ => ih v0_ v1_ v2_ w_ _ h_ r hx)
    · rw [if_neg hc] at h
      refine tb_Es (k := 1) (st' := (51, [], [], w)) rfl ?_
      exact dj_rr_readTestO_j45 hg (fl_rr_readTestO_2 g n)  w _ h r hx (fun v0_ v1_ v2_ w_ h_ => ih v0_ v1_ v2_ w_ _ h_ r hx)
def fb_rr_readTestO (g : Nat → Int32 → tb_Hp → Option tb_Hp) (a0 : Nat) (a1 : Int32) (w : tb_Hp) : Option (tb_Hp) := (fl_rr_readTestO_2 g 1048576 a0 a1 0 w).bind fun o14 => some o14
set_option maxHeartbeats 4000000 in
set_option maxRecDepth 20000 in
theorem dc_rr_readTestO {g : Nat → Int32 → tb_Hp → Option tb_Hp} {D : Nat} (hg : ∀ (a0 : Nat) (a1 : Int32) (w o : tb_Hp), g a0 a1 w = some o → tb_Ev tb_P D 54 (0, tb_ent [.ref a0, .int a1], [], w) (none, o)) {a0 : Nat} {a1 : Int32} {w : tb_Hp} {o : tb_Hp} (h : fb_rr_readTestO g a0 a1 w = some o) : tb_Ev tb_P (D + 1) 53 (0, tb_ent [.ref a0, .int a1], [], w) (none, o) := by
  unfold fb_rr_readTestO at h
  obtain ⟨r, hr⟩ : ∃ r : Option Value × tb_Hp, r = (none, o) := ⟨_, rfl⟩
  rw [← hr]
  show tb_Ev tb_P (D + 1) 53 (0, [(0, .ref a0), (1, .int a1)], [], w) r
  refine tb_Es (k := 3) (st' := (3, [(0, .ref a0), (1, .int a1), (2, .int 0)], [], w)) rfl ?_
  replace h := Option.bind_eq_some_iff.mp h
  obtain ⟨o14, eo14, h⟩ := h
  refine dl_rr_readTestO_2 hg _ a0 a1 0 w _ eo14 r ?_
  obtain rfl := Option.some.inj h
  exact hr
/-! TannerBunting$RuleReader.readFact(I)V -/
def fj_rr_readFactO_j18 (g : Nat → Int32 → tb_Hp → Option tb_Hp) (v0 : Nat) (v1 : Int32) (v2 : Int32) (w : tb_Hp) : Option (tb_Hp) := (if v2 = 38 then (tb_gN 14 0 v0 w).bind fun p3 => (tb_on 19 p3 w (fb_t_advance p3 w)).bind fun x4 => (tb_on 14 v0 x4 (g v0 (v1 + 1) x4)).bind fun x5 => (tb_on 14 v0 x5 (fb_rr_emit v0 (-38) x5)).bind fun x6 => some x6 else (if v2 = 5 then (tb_gN 14 0 v0 w).bind fun p7 => (tb_on 19 p7 w (fb_t_advance p7 w)).bind fun x8 => (tb_on 14 v0 x8 (fb_rr_readTestO g v0 (v1 + 1) x8)).bind fun x9 => (tb_gN 14 0 v0 x9).bind fun p10 => (tb_gI 19 1 p10 x9).bind fun x11 => (if x11 = 6 then (tb_gN 14 0 v0 x9).bind fun p12 => (tb_on 19 p12 x9 (fb_t_advance p12 x9)).bind fun x13 => some x13 else (tb_gN 14 0 v0 x9).bind fun p14 => (tb_on 19 p14 x9 (fb_t_fail p14 0 x9)).bind fun x15 => some x15) else (tb_on 14 v0 w (fb_rr_readSum v0 w)).bind fun x16 => (tb_gN 14 0 v0 x16).bind fun p17 => (tb_gI 19 1 p17 x16).bind fun x18 => (fb_x_within x18 12 16 x16).bind fun x19 => (if x19.1 = 0 then (tb_gN 14 0 v0 x19.2).bind fun p20 => (tb_on 19 p20 x19.2 (fb_t_fail p20 0 x19.2)).bind fun x21 => some x21 else (tb_on 14 v0 x19.2 (fb_rr_takePart v0 x19.2)).bind fun x22 => (tb_on 14 v0 x22 (fb_rr_readSum v0 x22)).bind fun x23 => (tb_on 14 v0 x23 (fb_rr_emit v0 (-x18) x23)).bind fun x24 => some x24)))
set_option maxHeartbeats 4000000 in
set_option maxRecDepth 20000 in
theorem dj_rr_readFactO_j18 {g : Nat → Int32 → tb_Hp → Option tb_Hp} {D : Nat} (hg : ∀ (a0 : Nat) (a1 : Int32) (w o : tb_Hp), g a0 a1 w = some o → tb_Ev tb_P D 54 (0, tb_ent [.ref a0, .int a1], [], w) (none, o)) (v0 : Nat) (v1 : Int32) (v2 : Int32) (w : tb_Hp) (o : tb_Hp) (h : fj_rr_readFactO_j18 g v0 v1 v2 w = some o) (r : Option Value × tb_Hp) (hr : r = (none, o)) : tb_Ev tb_P (D + 4) 54 (20, [(0, .ref v0), (1, .int v1), (2, .int v2)], [], w) r := by
  unfold fj_rr_readFactO_j18 at h
  refine tb_Es (k := 2) (st' := (22, [(0, .ref v0), (1, .int v1), (2, .int v2)], [.int 38, .int v2], w)) rfl ?_
  refine tb_b_cne rfl (fun hc => ?_) (fun hc => ?_)
  · rw [if_pos hc] at h
    refine tb_Es (k := 1) (st' := (24, [(0, .ref v0), (1, .int v1), (2, .int v2)], [.ref v0], w)) rfl ?_
    replace h := Option.bind_eq_some_iff.mp h
    obtain ⟨p3, ep3, h⟩ := h
    refine tb_e_gN rfl ep3 ?_
    replace h := Option.bind_eq_some_iff.mp h
    obtain ⟨x4, ex4, h⟩ := h
    obtain ⟨hkx4, hcall⟩ := tb_on_some ex4
    refine tb_e_cv (v := none) rfl (Or.inl ⟨_, rfl⟩) rfl rfl (Nat.le_of_ble_eq_true rfl) rfl (Nat.le_of_ble_eq_true rfl) hkx4 ((dc_t_advance hcall).up (by omega)) ?_
    refine tb_Es (k := 4) (st' := (30, [(0, .ref v0), (1, .int v1), (2, .int v2)], [.int (v1 + 1), .ref v0], x4)) rfl ?_
    replace h := Option.bind_eq_some_iff.mp h
    obtain ⟨x5, ex5, h⟩ := h
    obtain ⟨hkx5, hcall⟩ := tb_on_some ex5
    refine tb_e_cv (v := none) rfl (Or.inl ⟨_, rfl⟩) rfl rfl (Nat.le_of_ble_eq_true rfl) rfl (Nat.le_of_ble_eq_true rfl) hkx5 ((hg _ _ _ _ hcall).up (by omega)) ?_
    refine tb_Es (k := 2) (st' := (33, [(0, .ref v0), (1, .int v1), (2, .int v2)], [.int (-38), .ref v0], x5)) rfl ?_
    replace h := Option.bind_eq_some_iff.mp h
    obtain ⟨x6, ex6, h⟩ := h
    obtain ⟨hkx6, hcall⟩ := tb_on_some ex6
    refine tb_e_cv (v := none) rfl (Or.inl ⟨_, rfl⟩) rfl rfl (Nat.le_of_ble_eq_true rfl) rfl (Nat.le_of_ble_eq_true rfl) hkx6 ((dc_rr_emit hcall).up (by omega)) ?_
    refine tb_Es (k := 1) (st' := (84, [(0, .ref v0), (1, .int v1), (2, .int v2)], [], x6)) rfl ?_
    obtain rfl := Option.some.inj h
    subst hr
    exact tb_Er rfl rfl
  · rw [if_neg hc] at h
    refine tb_Es (k := 2) (st' := (37, [(0, .ref v0), (1, .int v1), (2, .int v2)], [.int 5, .int v2], w)) rfl ?_
    refine tb_b_cne rfl (fun hc => ?_) (fun hc => ?_)
    · rw [if_pos hc] at h
      refine tb_Es (k := 1) (st' := (39, [(0, .ref v0), (1, .int v1), (2, .int v2)], [.ref v0], w)) rfl ?_
      replace h := Option.bind_eq_some_iff.mp h
      obtain ⟨p7, ep7, h⟩ := h
      refine tb_e_gN rfl ep7 ?_
      replace h := Option.bind_eq_some_iff.mp h
      obtain ⟨x8, ex8, h⟩ := h
      obtain ⟨hkx8, hcall⟩ := tb_on_some ex8
      refine tb_e_cv (v := none) rfl (Or.inl ⟨_, rfl⟩) rfl rfl (Nat.le_of_ble_eq_true rfl) rfl (Nat.le_of_ble_eq_true rfl) hkx8 ((dc_t_advance hcall).up (by omega)) ?_
      refine tb_Es (k := 4) (st' := (45, [(0, .ref v0), (1, .int v1), (2, .int v2)], [.int (v1 + 1), .ref v0], x8)) rfl ?_
      replace h := Option.bind_eq_some_iff.mp h
      obtain ⟨x9, ex9, h⟩ := h
      obtain ⟨hkx9, hcall⟩ := tb_on_some ex9
      refine tb_e_cv (v := none) rfl (Or.inl ⟨_, rfl⟩) rfl rfl (Nat.le_of_ble_eq_true rfl) rfl (Nat.le_of_ble_eq_true rfl) hkx9 ((dc_rr_readTestO hg hcall).up (by omega)) ?_
      refine tb_Es (k := 1) (st' := (47, [(0, .ref v0), (1, .int v1), (2, .int v2)], [.ref v0], x9)) rfl ?_
      replace h := Option.bind_eq_some_iff.mp h
      obtain ⟨p10, ep10, h⟩ := h
      refine tb_e_gN rfl ep10 ?_
      replace h := Option.bind_eq_some_iff.mp h
      obtain ⟨x11, ex11, h⟩ := h
      refine tb_e_gI rfl ex11 ?_
      refine tb_Es (k := 1) (st' := (50, [(0, .ref v0), (1, .int v1), (2, .int v2)], [.int 6, .int x11], x9)) rfl ?_
      refine tb_b_cne rfl (fun hc => ?_) (fun hc => ?_)
      · rw [if_pos hc] at h
        refine tb_Es (k := 1) (st' := (52, [(0, .ref v0), (1, .int v1), (2, .int v2)], [.ref v0], x9)) rfl ?_
        replace h := Option.bind_eq_some_iff.mp h
        obtain ⟨p12, ep12, h⟩ := h
        refine tb_e_gN rfl ep12 ?_
        replace h := Option.bind_eq_some_iff.mp h
        obtain ⟨x13, ex13, h⟩ := h
        obtain ⟨hkx13, hcall⟩ := tb_on_some ex13
        refine tb_e_cv (v := none) rfl (Or.inl ⟨_, rfl⟩) rfl rfl (Nat.le_of_ble_eq_true rfl) rfl (Nat.le_of_ble_eq_true rfl) hkx13 ((dc_t_advance hcall).up (by omega)) ?_
        refine tb_Es (k := 1) (st' := (84, [(0, .ref v0), (1, .int v1), (2, .int v2)], [], x13)) rfl ?_
        obtain rfl := Option.some.inj h
        subst hr
        exact tb_Er rfl rfl
      · rw [if_neg hc] at h
        refine tb_Es (k := 1) (st' := (56, [(0, .ref v0), (1, .int v1), (2, .int v2)], [.ref v0], x9)) rfl ?_
        replace h := Option.bind_eq_some_iff.mp h
        obtain ⟨p14, ep14, h⟩ := h
        refine tb_e_gN rfl ep14 ?_
        refine tb_Es (k := 1) (st' := (58, [(0, .ref v0), (1, .int v1), (2, .int v2)], [.int 0, .ref p14], x9)) rfl ?_
        replace h := Option.bind_eq_some_iff.mp h
        obtain ⟨x15, ex15, h⟩ := h
        obtain ⟨hkx15, hcall⟩ := tb_on_some ex15
        refine tb_e_cv (v := none) rfl (Or.inl ⟨_, rfl⟩) rfl rfl (Nat.le_of_ble_eq_true rfl) rfl (Nat.le_of_ble_eq_true rfl) hkx15 ((dc_t_fail hcall).up (by omega)) ?_
        refine tb_Es (k := 1) (st' := (84, [(0, .ref v0), (1, .int v1), (2, .int v2)], [], x15)) rfl ?_
        obtain rfl := Option.some.inj h
        subst hr
        exact tb_Er rfl rfl
    · rw [if_neg hc] at h
      refine tb_Es (k := 1) (st' := (61, [(0, .ref v0), (1, .int v1), (2, .int v2)], [.ref v0], w)) rfl ?_
      replace h := Option.bind_eq_some_iff.mp h
      obtain ⟨x16, ex16, h⟩ := h
      obtain ⟨hkx16, hcall⟩ := tb_on_some ex16
      refine tb_e_cv (v := none) rfl (Or.inl ⟨_, rfl⟩) rfl rfl (Nat.le_of_ble_eq_true rfl) rfl (Nat.le_of_ble_eq_true rfl) hkx16 ((dc_rr_readSum hcall).up (by omega)) ?_
      refine tb_Es (k := 1) (st' := (63, [(0, .ref v0), (1, .int v1), (2, .int v2)], [.ref v0], x16)) rfl ?_
      replace h := Option.bind_eq_some_iff.mp h
      obtain ⟨p17, ep17, h⟩ := h
      refine tb_e_gN rfl ep17 ?_
      replace h := Option.bind_eq_some_iff.mp h
      obtain ⟨x18, ex18, h⟩ := h
      refine tb_e_gI rfl ex18 ?_
      refine tb_Es (k := 4) (st' := (69, [(3, .int x18), (0, .ref v0), (1, .int v1), (2, .int v2)], [.int 16, .int 12, .int x18], x16)) rfl ?_
      replace h := Option.bind_eq_some_iff.mp h
      obtain ⟨x19, ex19, h⟩ := h
      have hcall := ex19
      refine tb_e_cs (v := some (.int x19.1)) rfl rfl rfl (Nat.le_of_ble_eq_true rfl) rfl (Nat.le_of_ble_eq_true rfl) ((dc_x_within hcall).up (by omega)) ?_
      refine tb_b_ieq rfl (fun hc => ?_) (fun hc => ?_)
      · rw [if_pos hc] at h
        refine tb_Es (k := 1) (st' := (81, [(3, .int x18), (0, .ref v0), (1, .int v1), (2, .int v2)], [.ref v0], x19.2)) rfl ?_
        replace h := Option.bind_eq_some_iff.mp h
        obtain ⟨p20, ep20, h⟩ := h
        refine tb_e_gN rfl ep20 ?_
        refine tb_Es (k := 1) (st' := (83, [(3, .int x18), (0, .ref v0), (1, .int v1), (2, .int v2)], [.int 0, .ref p20], x19.2)) rfl ?_
        replace h := Option.bind_eq_some_iff.mp h
        obtain ⟨x21, ex21, h⟩ := h
        obtain ⟨hkx21, hcall⟩ := tb_on_some ex21
        refine tb_e_cv (v := none) rfl (Or.inl ⟨_, rfl⟩) rfl rfl (Nat.le_of_ble_eq_true rfl) rfl (Nat.le_of_ble_eq_true rfl) hkx21 ((dc_t_fail hcall).up (by omega)) ?_
        obtain rfl := Option.some.inj h
        subst hr
        exact tb_Er rfl rfl
      · rw [if_neg hc] at h
        refine tb_Es (k := 1) (st' := (72, [(3, .int x18), (0, .ref v0), (1, .int v1), (2, .int v2)], [.ref v0], x19.2)) rfl ?_
        replace h := Option.bind_eq_some_iff.mp h
        obtain ⟨x22, ex22, h⟩ := h
        obtain ⟨hkx22, hcall⟩ := tb_on_some ex22
        refine tb_e_cv (v := none) rfl (Or.inl ⟨_, rfl⟩) rfl rfl (Nat.le_of_ble_eq_true rfl) rfl (Nat.le_of_ble_eq_true rfl) hkx22 ((dc_rr_takePart hcall).up (by omega)) ?_
        refine tb_Es (k := 1) (st' := (74, [(3, .int x18), (0, .ref v0), (1, .int v1), (2, .int v2)], [.ref v0], x22)) rfl ?_
        replace h := Option.bind_eq_some_iff.mp h
        obtain ⟨x23, ex23, h⟩ := h
        obtain ⟨hkx23, hcall⟩ := tb_on_some ex23
        refine tb_e_cv (v := none) rfl (Or.inl ⟨_, rfl⟩) rfl rfl (Nat.le_of_ble_eq_true rfl) rfl (Nat.le_of_ble_eq_true rfl) hkx23 ((dc_rr_readSum hcall).up (by omega)) ?_
        refine tb_Es (k := 3) (st' := (78, [(3, .int x18), (0, .ref v0), (1, .int v1), (2, .int v2)], [.int (-x18), .ref v0], x23)) rfl ?_
        replace h := Option.bind_eq_some_iff.mp h
        obtain ⟨x24, ex24, h⟩ := h
        obtain ⟨hkx24, hcall⟩ := tb_on_some ex24
        refine tb_e_cv (v := none) rfl (Or.inl ⟨_, rfl⟩) rfl rfl (Nat.le_of_ble_eq_true rfl) rfl (Nat.le_of_ble_eq_true rfl) hkx24 ((dc_rr_emit hcall).up (by omega)) ?_
        refine tb_Es (k := 1) (st' := (84, [(3, .int x18), (0, .ref v0), (1, .int v1), (2, .int v2)], [], x24)) rfl ?_
        obtain rfl := Option.some.inj h
        subst hr
        exact tb_Er rfl rfl
def fj_rr_readFactO_j10 (g : Nat → Int32 → tb_Hp → Option tb_Hp) (v0 : Nat) (v1 : Int32) (v2 : Int32) (w : tb_Hp) : Option (tb_Hp) := (if v1 < 10 then fj_rr_readFactO_j18 g v0 v1 v2 w else (tb_gN 14 0 v0 w).bind fun p25 => (tb_on 19 p25 w (fb_t_fail p25 2 w)).bind fun x26 => some x26)
set_option maxHeartbeats 4000000 in
set_option maxRecDepth 20000 in
theorem dj_rr_readFactO_j10 {g : Nat → Int32 → tb_Hp → Option tb_Hp} {D : Nat} (hg : ∀ (a0 : Nat) (a1 : Int32) (w o : tb_Hp), g a0 a1 w = some o → tb_Ev tb_P D 54 (0, tb_ent [.ref a0, .int a1], [], w) (none, o)) (v0 : Nat) (v1 : Int32) (v2 : Int32) (w : tb_Hp) (o : tb_Hp) (h : fj_rr_readFactO_j10 g v0 v1 v2 w = some o) (r : Option Value × tb_Hp) (hr : r = (none, o)) : tb_Ev tb_P (D + 4) 54 (11, [(0, .ref v0), (1, .int v1), (2, .int v2)], [], w) r := by
  unfold fj_rr_readFactO_j10 at h
  refine tb_Es (k := 2) (st' := (13, [(0, .ref v0), (1, .int v1), (2, .int v2)], [.int 10, .int v1], w)) rfl ?_
  refine tb_b_clt rfl (fun hc => ?_) (fun hc => ?_)
  · rw [if_pos hc] at h
    refine tb_Es (k := 1) (st' := (20, [(0, .ref v0), (1, .int v1), (2, .int v2)], [], w)) rfl ?_
    exact dj_rr_readFactO_j18 hg v0 v1 v2 w _ h r hr
  · rw [if_neg hc] at h
    refine tb_Es (k := 1) (st' := (15, [(0, .ref v0), (1, .int v1), (2, .int v2)], [.ref v0], w)) rfl ?_
    replace h := Option.bind_eq_some_iff.mp h
    obtain ⟨p25, ep25, h⟩ := h
    refine tb_e_gN rfl ep25 ?_
    refine tb_Es (k := 1) (st' := (17, [(0, .ref v0), (1, .int v1), (2, .int v2)], [.int 2, .ref p25], w)) rfl ?_
    replace h := Option.bind_eq_some_iff.mp h
    obtain ⟨x26, ex26, h⟩ := h
    obtain ⟨hkx26, hcall⟩ := tb_on_some ex26
    refine tb_e_cv (v := none) rfl (Or.inl ⟨_, rfl⟩) rfl rfl (Nat.le_of_ble_eq_true rfl) rfl (Nat.le_of_ble_eq_true rfl) hkx26 ((dc_t_fail hcall).up (by omega)) ?_
    refine tb_Es (k := 1) (st' := (84, [(0, .ref v0), (1, .int v1), (2, .int v2)], [], x26)) rfl ?_
    obtain rfl := Option.some.inj h
    subst hr
    exact tb_Er rfl rfl
def fb_rr_readFactO (g : Nat → Int32 → tb_Hp → Option tb_Hp) (a0 : Nat) (a1 : Int32) (w : tb_Hp) : Option (tb_Hp) := (tb_gN 14 0 a0 w).bind fun p1 => (tb_gI 19 1 p1 w).bind fun x2 => (if x2 = 38 then fj_rr_readFactO_j10 g a0 a1 x2 w else (if x2 = 5 then fj_rr_readFactO_j10 g a0 a1 x2 w else fj_rr_readFactO_j18 g a0 a1 x2 w))
set_option maxHeartbeats 4000000 in
set_option maxRecDepth 20000 in
theorem dc_rr_readFactO {g : Nat → Int32 → tb_Hp → Option tb_Hp} {D : Nat} (hg : ∀ (a0 : Nat) (a1 : Int32) (w o : tb_Hp), g a0 a1 w = some o → tb_Ev tb_P D 54 (0, tb_ent [.ref a0, .int a1], [], w) (none, o)) {a0 : Nat} {a1 : Int32} {w : tb_Hp} {o : tb_Hp} (h : fb_rr_readFactO g a0 a1 w = some o) : tb_Ev tb_P (D + 4) 54 (0, tb_ent [.ref a0, .int a1], [], w) (none, o) := by
  unfold fb_rr_readFactO at h
  obtain ⟨r, hr⟩ : ∃ r : Option Value × tb_Hp, r = (none, o) := ⟨_, rfl⟩
  rw [← hr]
  show tb_Ev tb_P (D + 4) 54 (0, [(0, .ref a0), (1, .int a1)], [], w) r
  refine tb_Es (k := 1) (st' := (1, [(0, .ref a0), (1, .int a1)], [.ref a0], w)) rfl ?_
  replace h := Option.bind_eq_some_iff.mp h
  obtain ⟨p1, ep1, h⟩ := h
  refine tb_e_gN rfl ep1 ?_
  replace h := Option.bind_eq_some_iff.mp h
  obtain ⟨x2, ex2, h⟩ := h
  refine tb_e_gI rfl ex2 ?_
  refine tb_Es (k := 3) (st' := (6, [(2, .int x2), (0, .ref a0), (1, .int a1)], [.int 38, .int x2], w)) rfl ?_
  refine tb_b_ceq rfl (fun hc => ?_) (fun hc => ?_)
  · rw [if_pos hc] at h
    refine tb_Es (k := 1) (st' := (11, [(0, .ref a0), (1, .int a1), (2, .int x2)], [], w)) rfl ?_
    exact dj_rr_readFactO_j10 hg a0 a1 x2 w _ h r hr
  · rw [if_neg hc] at h
    refine tb_Es (k := 2) (st' := (9, [(2, .int x2), (0, .ref a0), (1, .int a1)], [.int 5, .int x2], w)) rfl ?_
    refine tb_b_cne rfl (fun hc => ?_) (fun hc => ?_)
    · rw [if_pos hc] at h
      refine tb_Es (k := 1) (st' := (11, [(0, .ref a0), (1, .int a1), (2, .int x2)], [], w)) rfl ?_
      exact dj_rr_readFactO_j10 hg a0 a1 x2 w _ h r hr
    · rw [if_neg hc] at h
      refine tb_Es (k := 1) (st' := (20, [(0, .ref a0), (1, .int a1), (2, .int x2)], [], w)) rfl ?_
      exact dj_rr_readFactO_j18 hg a0 a1 x2 w _ h r hr
def fb_rr_readFactN : Nat → Nat → Int32 → tb_Hp → Option tb_Hp
  | 0, _, _, _ => none
  | n + 1, a0, a1, w => fb_rr_readFactO (fb_rr_readFactN n) a0 a1 w
theorem dc_rr_readFactN : ∀ (n : Nat) (a0 : Nat) (a1 : Int32) (w o : tb_Hp), fb_rr_readFactN n a0 a1 w = some o → tb_Ev tb_P (4 * n) 54 (0, tb_ent [.ref a0, .int a1], [], w) (none, o) := by
  intro n
  induction n with
  | zero =>
    intro a0 a1 w o h
    cases h
  | succ n ih =>
    intro a0 a1 w o h
    unfold fb_rr_readFactN at h
    exact dc_rr_readFactO ih h
def fb_rr_readFact (a0 : Nat) (a1 : Int32) (w : tb_Hp) : Option tb_Hp := fb_rr_readFactN 16 a0 a1 w
theorem dc_rr_readFact {a0 : Nat} {a1 : Int32} {w o : tb_Hp} (h : fb_rr_readFact a0 a1 w = some o) : tb_Ev tb_P 64 54 (0, tb_ent [.ref a0, .int a1], [], w) (none, o) := dc_rr_readFactN 16 a0 a1 w o h
def fb_rr_readTest (a0 : Nat) (a1 : Int32) (w : tb_Hp) : Option tb_Hp := fb_rr_readTestO (fb_rr_readFactN 16) a0 a1 w
theorem dc_rr_readTest {a0 : Nat} {a1 : Int32} {w o : tb_Hp} (h : fb_rr_readTest a0 a1 w = some o) : tb_Ev tb_P 65 53 (0, tb_ent [.ref a0, .int a1], [], w) (none, o) := dc_rr_readTestO (dc_rr_readFactN 16) h
/-! TannerBunting.street()I -/
def fb_x_street (a0 : Nat) (w : tb_Hp) : Option (Int32 × tb_Hp) := (tb_gN 21 1 a0 w).bind fun p1 => (tb_on 18 p1 w (fb_sr_read p1 w)).bind fun x2 => (tb_gN 21 0 a0 x2.2).bind fun p3 => (tb_pI 19 0 p3 0 x2.2).bind fun w4 => (if x2.1 = 0 then (tb_gN 21 5 a0 w4).bind fun p5 => (tb_gN 21 1 a0 w4).bind fun p6 => (tb_gN 18 0 p6 w4).bind fun p7 => (tb_on 15 p5 w4 (fb_sc_beginWith p5 p7 w4)).bind fun x8 => (tb_gN 21 7 a0 x8).bind fun p9 => (tb_on 13 p9 x8 (fb_p_clear p9 x8)).bind fun x10 => (tb_gN 21 5 a0 x10).bind fun p11 => (tb_gN 15 0 p11 x10).bind fun p12 => (tb_gI 17 3 p12 x10).bind fun x13 => some (x13, x10) else some ((-2) - x2.1, w4))
set_option maxHeartbeats 4000000 in
set_option maxRecDepth 20000 in
theorem dc_x_street {a0 : Nat} {w : tb_Hp} {o : Int32 × tb_Hp} (h : fb_x_street a0 w = some o) : tb_Ev tb_P 5 15 (0, tb_ent [.ref a0], [], w) (some (.int o.1), o.2) := by
  unfold fb_x_street at h
  obtain ⟨r, hr⟩ : ∃ r : Option Value × tb_Hp, r = (some (.int o.1), o.2) := ⟨_, rfl⟩
  rw [← hr]
  show tb_Ev tb_P 5 15 (0, [(0, .ref a0)], [], w) r
  refine tb_Es (k := 1) (st' := (1, [(0, .ref a0)], [.ref a0], w)) rfl ?_
  replace h := Option.bind_eq_some_iff.mp h
  obtain ⟨p1, ep1, h⟩ := h
  refine tb_e_gN rfl ep1 ?_
  replace h := Option.bind_eq_some_iff.mp h
  obtain ⟨x2, ex2, h⟩ := h
  obtain ⟨hkx2, hcall⟩ := tb_on_some ex2
  refine tb_e_cv (v := some (.int x2.1)) rfl (Or.inl ⟨_, rfl⟩) rfl rfl (Nat.le_of_ble_eq_true rfl) rfl (Nat.le_of_ble_eq_true rfl) hkx2 ((dc_sr_read hcall).up (by decide)) ?_
  refine tb_Es (k := 2) (st' := (5, [(1, .int x2.1), (0, .ref a0)], [.ref a0], x2.2)) rfl ?_
  replace h := Option.bind_eq_some_iff.mp h
  obtain ⟨p3, ep3, h⟩ := h
  refine tb_e_gN rfl ep3 ?_
  refine tb_Es (k := 1) (st' := (7, [(1, .int x2.1), (0, .ref a0)], [.int 0, .ref p3], x2.2)) rfl ?_
  replace h := Option.bind_eq_some_iff.mp h
  obtain ⟨w4, ew4, h⟩ := h
  refine tb_e_pI rfl ew4 ?_
  refine tb_Es (k := 1) (st' := (9, [(1, .int x2.1), (0, .ref a0)], [.int x2.1], w4)) rfl ?_
  refine tb_b_ieq rfl (fun hc => ?_) (fun hc => ?_)
  · rw [if_pos hc] at h
    refine tb_Es (k := 1) (st' := (15, [(1, .int x2.1), (0, .ref a0)], [.ref a0], w4)) rfl ?_
    replace h := Option.bind_eq_some_iff.mp h
    obtain ⟨p5, ep5, h⟩ := h
    refine tb_e_gN rfl ep5 ?_
    refine tb_Es (k := 1) (st' := (17, [(1, .int x2.1), (0, .ref a0)], [.ref a0, .ref p5], w4)) rfl ?_
    replace h := Option.bind_eq_some_iff.mp h
    obtain ⟨p6, ep6, h⟩ := h
    refine tb_e_gN rfl ep6 ?_
    replace h := Option.bind_eq_some_iff.mp h
    obtain ⟨p7, ep7, h⟩ := h
    refine tb_e_gN rfl ep7 ?_
    replace h := Option.bind_eq_some_iff.mp h
    obtain ⟨x8, ex8, h⟩ := h
    obtain ⟨hkx8, hcall⟩ := tb_on_some ex8
    refine tb_e_cv (v := none) rfl (Or.inl ⟨_, rfl⟩) rfl rfl (Nat.le_of_ble_eq_true rfl) rfl (Nat.le_of_ble_eq_true rfl) hkx8 ((dc_sc_beginWith hcall).up (by decide)) ?_
    refine tb_Es (k := 1) (st' := (21, [(1, .int x2.1), (0, .ref a0)], [.ref a0], x8)) rfl ?_
    replace h := Option.bind_eq_some_iff.mp h
    obtain ⟨p9, ep9, h⟩ := h
    refine tb_e_gN rfl ep9 ?_
    replace h := Option.bind_eq_some_iff.mp h
    obtain ⟨x10, ex10, h⟩ := h
    obtain ⟨hkx10, hcall⟩ := tb_on_some ex10
    refine tb_e_cv (v := none) rfl (Or.inl ⟨_, rfl⟩) rfl rfl (Nat.le_of_ble_eq_true rfl) rfl (Nat.le_of_ble_eq_true rfl) hkx10 ((dc_p_clear hcall).up (by decide)) ?_
    refine tb_Es (k := 1) (st' := (24, [(1, .int x2.1), (0, .ref a0)], [.ref a0], x10)) rfl ?_
    replace h := Option.bind_eq_some_iff.mp h
    obtain ⟨p11, ep11, h⟩ := h
    refine tb_e_gN rfl ep11 ?_
    replace h := Option.bind_eq_some_iff.mp h
    obtain ⟨p12, ep12, h⟩ := h
    refine tb_e_gN rfl ep12 ?_
    replace h := Option.bind_eq_some_iff.mp h
    obtain ⟨x13, ex13, h⟩ := h
    refine tb_e_gI rfl ex13 ?_
    obtain rfl := Option.some.inj h
    subst hr
    exact tb_Er rfl rfl
  · rw [if_neg hc] at h
    refine tb_Es (k := 3) (st' := (13, [(1, .int x2.1), (0, .ref a0)], [.int ((-2) - x2.1)], w4)) rfl ?_
    obtain rfl := Option.some.inj h
    subst hr
    exact tb_Er rfl rfl
/-! TannerBunting.year()I -/
def fb_x_year (a0 : Nat) (w : tb_Hp) : Option (Int32 × tb_Hp) := (tb_gN 21 5 a0 w).bind fun p1 => (tb_on 15 p1 w (fb_sc_isEmpty p1 w)).bind fun x2 => (if x2.1 = 0 then (tb_gN 21 5 a0 x2.2).bind fun p3 => (tb_gN 15 0 p3 x2.2).bind fun p4 => (tb_gI 17 2 p4 x2.2).bind fun x5 => (if x5 < 999 then (tb_gN 21 7 a0 x2.2).bind fun p6 => (tb_gN 21 5 a0 x2.2).bind fun p7 => (tb_gN 15 0 p7 x2.2).bind fun p8 => (tb_on 13 p6 x2.2 (fb_p_keep p6 p8 x2.2)).bind fun x9 => (tb_gN 21 8 a0 x9).bind fun p10 => (tb_gN 21 5 a0 x9).bind fun p11 => (tb_gN 15 0 p11 x9).bind fun p12 => (tb_on 21 a0 x9 (fb_x_ruleInForce a0 x9)).bind fun x13 => (tb_on 11 p10 x13.2 (fb_jg_passYear p10 p12 x13.1 x13.2)).bind fun x14 => some (x14.1, x14.2) else some (-1, x2.2)) else some (-1, x2.2))
set_option maxHeartbeats 4000000 in
set_option maxRecDepth 20000 in
theorem dc_x_year {a0 : Nat} {w : tb_Hp} {o : Int32 × tb_Hp} (h : fb_x_year a0 w = some o) : tb_Ev tb_P 5 72 (0, tb_ent [.ref a0], [], w) (some (.int o.1), o.2) := by
  unfold fb_x_year at h
  obtain ⟨r, hr⟩ : ∃ r : Option Value × tb_Hp, r = (some (.int o.1), o.2) := ⟨_, rfl⟩
  rw [← hr]
  show tb_Ev tb_P 5 72 (0, [(0, .ref a0)], [], w) r
  refine tb_Es (k := 1) (st' := (1, [(0, .ref a0)], [.ref a0], w)) rfl ?_
  replace h := Option.bind_eq_some_iff.mp h
  obtain ⟨p1, ep1, h⟩ := h
  refine tb_e_gN rfl ep1 ?_
  replace h := Option.bind_eq_some_iff.mp h
  obtain ⟨x2, ex2, h⟩ := h
  obtain ⟨hkx2, hcall⟩ := tb_on_some ex2
  refine tb_e_cv (v := some (.int x2.1)) rfl (Or.inl ⟨_, rfl⟩) rfl rfl (Nat.le_of_ble_eq_true rfl) rfl (Nat.le_of_ble_eq_true rfl) hkx2 ((dc_sc_isEmpty hcall).up (by decide)) ?_
  refine tb_b_ine rfl (fun hc => ?_) (fun hc => ?_)
  · rw [if_pos hc] at h
    refine tb_Es (k := 1) (st' := (5, [(0, .ref a0)], [.ref a0], x2.2)) rfl ?_
    replace h := Option.bind_eq_some_iff.mp h
    obtain ⟨p3, ep3, h⟩ := h
    refine tb_e_gN rfl ep3 ?_
    replace h := Option.bind_eq_some_iff.mp h
    obtain ⟨p4, ep4, h⟩ := h
    refine tb_e_gN rfl ep4 ?_
    replace h := Option.bind_eq_some_iff.mp h
    obtain ⟨x5, ex5, h⟩ := h
    refine tb_e_gI rfl ex5 ?_
    refine tb_Es (k := 1) (st' := (9, [(0, .ref a0)], [.int 999, .int x5], x2.2)) rfl ?_
    refine tb_b_clt rfl (fun hc => ?_) (fun hc => ?_)
    · rw [if_pos hc] at h
      refine tb_Es (k := 1) (st' := (13, [(0, .ref a0)], [.ref a0], x2.2)) rfl ?_
      replace h := Option.bind_eq_some_iff.mp h
      obtain ⟨p6, ep6, h⟩ := h
      refine tb_e_gN rfl ep6 ?_
      refine tb_Es (k := 1) (st' := (15, [(0, .ref a0)], [.ref a0, .ref p6], x2.2)) rfl ?_
      replace h := Option.bind_eq_some_iff.mp h
      obtain ⟨p7, ep7, h⟩ := h
      refine tb_e_gN rfl ep7 ?_
      replace h := Option.bind_eq_some_iff.mp h
      obtain ⟨p8, ep8, h⟩ := h
      refine tb_e_gN rfl ep8 ?_
      replace h := Option.bind_eq_some_iff.mp h
      obtain ⟨x9, ex9, h⟩ := h
      obtain ⟨hkx9, hcall⟩ := tb_on_some ex9
      refine tb_e_cv (v := none) rfl (Or.inl ⟨_, rfl⟩) rfl rfl (Nat.le_of_ble_eq_true rfl) rfl (Nat.le_of_ble_eq_true rfl) hkx9 ((dc_p_keep hcall).up (by decide)) ?_
      refine tb_Es (k := 1) (st' := (19, [(0, .ref a0)], [.ref a0], x9)) rfl ?_
      replace h := Option.bind_eq_some_iff.mp h
      obtain ⟨p10, ep10, h⟩ := h
      refine tb_e_gN rfl ep10 ?_
      refine tb_Es (k := 1) (st' := (21, [(0, .ref a0)], [.ref a0, .ref p10], x9)) rfl ?_
      replace h := Option.bind_eq_some_iff.mp h
      obtain ⟨p11, ep11, h⟩ := h
      refine tb_e_gN rfl ep11 ?_
      replace h := Option.bind_eq_some_iff.mp h
      obtain ⟨p12, ep12, h⟩ := h
      refine tb_e_gN rfl ep12 ?_
      refine tb_Es (k := 1) (st' := (24, [(0, .ref a0)], [.ref a0, .ref p12, .ref p10], x9)) rfl ?_
      replace h := Option.bind_eq_some_iff.mp h
      obtain ⟨x13, ex13, h⟩ := h
      obtain ⟨hkx13, hcall⟩ := tb_on_some ex13
      refine tb_e_cv (v := some (va_rf x13.1)) rfl (Or.inl ⟨_, rfl⟩) rfl rfl (Nat.le_of_ble_eq_true rfl) rfl (Nat.le_of_ble_eq_true rfl) hkx13 ((dc_x_ruleInForce hcall).up (by decide)) ?_
      replace h := Option.bind_eq_some_iff.mp h
      obtain ⟨x14, ex14, h⟩ := h
      obtain ⟨hkx14, hcall⟩ := tb_on_some ex14
      refine tb_e_cv (as := [.ref p12, va_rf x13.1]) (v := some (.int x14.1)) rfl (Or.inl ⟨_, rfl⟩) rfl rfl (Nat.le_of_ble_eq_true rfl) rfl (by simp only [List.map_cons, List.map_nil, List.sum_cons, List.sum_nil, tb_catq, tb_cR, tb_cI, tb_cJ, tb_cT]; exact Nat.le_of_ble_eq_true rfl) hkx14 ((dc_jg_passYear hcall).up (by decide)) ?_
      obtain rfl := Option.some.inj h
      subst hr
      exact tb_Er rfl rfl
    · rw [if_neg hc] at h
      refine tb_Es (k := 1) (st' := (11, [(0, .ref a0)], [.int (-1)], x2.2)) rfl ?_
      obtain rfl := Option.some.inj h
      subst hr
      exact tb_Er rfl rfl
  · rw [if_neg hc] at h
    refine tb_Es (k := 1) (st' := (11, [(0, .ref a0)], [.int (-1)], x2.2)) rfl ?_
    obtain rfl := Option.some.inj h
    subst hr
    exact tb_Er rfl rfl
