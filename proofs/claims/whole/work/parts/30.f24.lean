/-! TannerBuntingModel.look(II)I -/
def fl_m_look_26 : Nat → Nat → Int32 → Int32 → Int32 → Int32 → tb_Hp → Option (Int32 × Int32 × Int32 × tb_Hp)
  | 0, _, _, _, _, _, _ => none
  | n + 1, v0, v2, v3, v4, v5, w => (tb_on 22 v0 w (fb_m_houses v0 w)).bind fun x5 => (if v5 < x5.1 then (tb_on 22 v0 x5.2 (fb_m_alikeAt v0 v5 x5.2)).bind fun x6 => (if x6.1 = 0 then fl_m_look_26 n v0 v2 v3 v4 (v5 + 1) x6.2 else (if v3 < 0 then fl_m_look_26 n v0 v2 v5 x6.1 (v5 + 1) x6.2 else (if x6.1 < v4 then fl_m_look_26 n v0 v2 v5 x6.1 (v5 + 1) x6.2 else fl_m_look_26 n v0 v2 v3 v4 (v5 + 1) x6.2))) else some ((v2, v3, v4, x5.2)))
set_option maxHeartbeats 4000000 in
set_option maxRecDepth 20000 in
theorem dl_m_look_26 : ∀ (n : Nat) (v0 : Nat) (v2 : Int32) (v3 : Int32) (v4 : Int32) (v5 : Int32) (w : tb_Hp) (o : Int32 × Int32 × Int32 × tb_Hp), fl_m_look_26 n v0 v2 v3 v4 v5 w = some o → ∀ (r : Option Value × tb_Hp), tb_Ev tb_P 9 290 (50, [(2, .int o.1), (3, .int o.2.1), (4, .int o.2.2.1)], [], o.2.2.2) r → tb_Ev tb_P 9 290 (27, [(0, .ref v0), (2, .int v2), (3, .int v3), (4, .int v4), (5, .int v5)], [], w) r := by
  intro n
  induction n with
  | zero =>
    intro v0 v2 v3 v4 v5 w o h
    cases h
  | succ n ih =>
    intro v0 v2 v3 v4 v5 w o h r hx
    unfold fl_m_look_26 at h
    refine tb_Es (k := 2) (st' := (29, [(0, .ref v0), (2, .int v2), (3, .int v3), (4, .int v4), (5, .int v5)], [.ref v0, .int v5], w)) rfl ?_
    replace h := Option.bind_eq_some_iff.mp h
    obtain ⟨x5, ex5, h⟩ := h
    obtain ⟨hkx5, hcall⟩ := tb_on_some ex5
    refine tb_e_cv (v := some (.int x5.1)) rfl (Or.inl ⟨_, rfl⟩) rfl rfl (Nat.le_of_ble_eq_true rfl) rfl (Nat.le_of_ble_eq_true rfl) hkx5 ((dc_m_houses hcall).up (by decide)) ?_
    refine tb_b_cge rfl (fun hc => ?_) (fun hc => ?_)
    · rw [if_pos hc] at h
      refine tb_Es (k := 2) (st' := (33, [(0, .ref v0), (2, .int v2), (3, .int v3), (4, .int v4), (5, .int v5)], [.int v5, .ref v0], x5.2)) rfl ?_
      replace h := Option.bind_eq_some_iff.mp h
      obtain ⟨x6, ex6, h⟩ := h
      obtain ⟨hkx6, hcall⟩ := tb_on_some ex6
      refine tb_e_cv (v := some (.int x6.1)) rfl (Or.inl ⟨_, rfl⟩) rfl rfl (Nat.le_of_ble_eq_true rfl) rfl (Nat.le_of_ble_eq_true rfl) hkx6 ((dc_m_alikeAt hcall).up (by decide)) ?_
      refine tb_Es (k := 2) (st' := (36, [(6, .int x6.1), (0, .ref v0), (2, .int v2), (3, .int v3), (4, .int v4), (5, .int v5)], [.int x6.1], x6.2)) rfl ?_
      refine tb_b_ieq rfl (fun hc => ?_) (fun hc => ?_)
      · rw [if_pos hc] at h
        refine tb_Es (k := 3) (st' := (27, [(0, .ref v0), (2, .int v2), (3, .int v3), (4, .int v4), (5, .int (v5 + 1))], [], x6.2)) rfl ?_
        exact ih v0 v2 v3 v4 (v5 + 1) x6.2 _ h r hx
      · rw [if_neg hc] at h
        refine tb_Es (k := 1) (st' := (38, [(6, .int x6.1), (0, .ref v0), (2, .int v2), (3, .int v3), (4, .int v4), (5, .int v5)], [.int v3], x6.2)) rfl ?_
        refine tb_b_ilt rfl (fun hc => ?_) (fun hc => ?_)
        · rw [if_pos hc] at h
          refine tb_Es (k := 7) (st' := (27, [(0, .ref v0), (2, .int v2), (3, .int v5), (4, .int x6.1), (5, .int (v5 + 1))], [], x6.2)) rfl ?_
          exact ih v0 v2 v5 x6.1 (v5 + 1) x6.2 _ h r hx
        · rw [if_neg hc] at h
          refine tb_Es (k := 2) (st' := (41, [(6, .int x6.1), (0, .ref v0), (2, .int v2), (3, .int v3), (4, .int v4), (5, .int v5)], [.int v4, .int x6.1], x6.2)) rfl ?_
          refine tb_b_clt rfl (fun hc => ?_) (fun hc => ?_)
          · rw [if_pos hc] at h
            refine tb_Es (k := 7) (st' := (27, [(0, .ref v0), (2, .int v2), (3, .int v5), (4, .int x6.1), (5, .int (v5 + 1))], [], x6.2)) rfl ?_
            exact ih v0 v2 v5 x6.1 (v5 + 1) x6.2 _ h r hx
          · rw [if_neg hc] at h
            refine tb_Es (k := 4) (st' := (27, [(0, .ref v0), (2, .int v2), (3, .int v3), (4, .int v4), (5, .int (v5 + 1))], [], x6.2)) rfl ?_
            exact ih v0 v2 v3 v4 (v5 + 1) x6.2 _ h r hx
    · rw [if_neg hc] at h
      refine tb_Es (k := 1) (st' := (50, [(2, .int v2), (3, .int v3), (4, .int v4)], [], x5.2)) rfl ?_
      obtain rfl := Option.some.inj h
      exact hx
def fb_m_look (a0 : Nat) (a1 : Int32) (a2 : Int32) (w : tb_Hp) : Option (Int32 × tb_Hp) := (tb_on 22 a0 w (fb_m_isStreet a0 w)).bind fun x1 => (if x1.1 = 0 then some (-1, x1.2) else (fb_m_in (Int32.toInt64 a1) 0 60 x1.2).bind fun x2 => (if x2.1 = 0 then some (-1, x2.2) else (fb_m_in (Int32.toInt64 a2) 0 1 x2.2).bind fun x3 => (if x3.1 = 0 then some (-1, x3.2) else (tb_on 22 a0 x3.2 (fb_m_fillsFits a0 a1 x3.2)).bind fun x4 => (fl_m_look_26 1048576 a0 a2 (-2) (-2) 0 x4).bind fun o7 => (if o7.1 = 0 then some (o7.2.1, o7.2.2.2) else some (o7.2.2.1, o7.2.2.2)))))
set_option maxHeartbeats 4000000 in
set_option maxRecDepth 20000 in
theorem dc_m_look {a0 : Nat} {a1 : Int32} {a2 : Int32} {w : tb_Hp} {o : Int32 × tb_Hp} (h : fb_m_look a0 a1 a2 w = some o) : tb_Ev tb_P 9 290 (0, tb_ent [.ref a0, .int a1, .int a2], [], w) (some (.int o.1), o.2) := by
  unfold fb_m_look at h
  obtain ⟨r, hr⟩ : ∃ r : Option Value × tb_Hp, r = (some (.int o.1), o.2) := ⟨_, rfl⟩
  rw [← hr]
  show tb_Ev tb_P 9 290 (0, [(0, .ref a0), (1, .int a1), (2, .int a2)], [], w) r
  refine tb_Es (k := 1) (st' := (1, [(0, .ref a0), (1, .int a1), (2, .int a2)], [.ref a0], w)) rfl ?_
  replace h := Option.bind_eq_some_iff.mp h
  obtain ⟨x1, ex1, h⟩ := h
  obtain ⟨hkx1, hcall⟩ := tb_on_some ex1
  refine tb_e_cv (v := some (.int x1.1)) rfl (Or.inl ⟨_, rfl⟩) rfl rfl (Nat.le_of_ble_eq_true rfl) rfl (Nat.le_of_ble_eq_true rfl) hkx1 ((dc_m_isStreet hcall).up (by decide)) ?_
  refine tb_b_ieq rfl (fun hc => ?_) (fun hc => ?_)
  · rw [if_pos hc] at h
    refine tb_Es (k := 1) (st' := (16, [(0, .ref a0), (1, .int a1), (2, .int a2)], [.int (-1)], x1.2)) rfl ?_
    obtain rfl := Option.some.inj h
    subst hr
    exact tb_Er rfl rfl
  · rw [if_neg hc] at h
    refine tb_Es (k := 4) (st' := (7, [(0, .ref a0), (1, .int a1), (2, .int a2)], [.long 60, .long 0, .long (Int32.toInt64 a1)], x1.2)) rfl ?_
    replace h := Option.bind_eq_some_iff.mp h
    obtain ⟨x2, ex2, h⟩ := h
    have hcall := ex2
    refine tb_e_cs (v := some (.int x2.1)) rfl rfl rfl (Nat.le_of_ble_eq_true rfl) rfl (Nat.le_of_ble_eq_true rfl) ((dc_m_in hcall).up (by decide)) ?_
    refine tb_b_ieq rfl (fun hc => ?_) (fun hc => ?_)
    · rw [if_pos hc] at h
      refine tb_Es (k := 1) (st' := (16, [(0, .ref a0), (1, .int a1), (2, .int a2)], [.int (-1)], x2.2)) rfl ?_
      obtain rfl := Option.some.inj h
      subst hr
      exact tb_Er rfl rfl
    · rw [if_neg hc] at h
      refine tb_Es (k := 4) (st' := (13, [(0, .ref a0), (1, .int a1), (2, .int a2)], [.long 1, .long 0, .long (Int32.toInt64 a2)], x2.2)) rfl ?_
      replace h := Option.bind_eq_some_iff.mp h
      obtain ⟨x3, ex3, h⟩ := h
      have hcall := ex3
      refine tb_e_cs (v := some (.int x3.1)) rfl rfl rfl (Nat.le_of_ble_eq_true rfl) rfl (Nat.le_of_ble_eq_true rfl) ((dc_m_in hcall).up (by decide)) ?_
      refine tb_b_ine rfl (fun hc => ?_) (fun hc => ?_)
      · rw [if_pos hc] at h
        refine tb_Es (k := 1) (st' := (16, [(0, .ref a0), (1, .int a1), (2, .int a2)], [.int (-1)], x3.2)) rfl ?_
        obtain rfl := Option.some.inj h
        subst hr
        exact tb_Er rfl rfl
      · rw [if_neg hc] at h
        refine tb_Es (k := 2) (st' := (19, [(0, .ref a0), (1, .int a1), (2, .int a2)], [.int a1, .ref a0], x3.2)) rfl ?_
        replace h := Option.bind_eq_some_iff.mp h
        obtain ⟨x4, ex4, h⟩ := h
        obtain ⟨hkx4, hcall⟩ := tb_on_some ex4
        refine tb_e_cv (v := none) rfl (Or.inl ⟨_, rfl⟩) rfl rfl (Nat.le_of_ble_eq_true rfl) rfl (Nat.le_of_ble_eq_true rfl) hkx4 ((dc_m_fillsFits hcall).up (by decide)) ?_
        refine tb_Es (k := 7) (st' := (27, [(0, .ref a0), (2, .int a2), (3, .int (-2)), (4, .int (-2)), (5, .int 0)], [], x4)) rfl ?_
        replace h := Option.bind_eq_some_iff.mp h
        obtain ⟨o7, eo7, h⟩ := h
        refine dl_m_look_26 _ a0 a2 (-2) (-2) 0 x4 _ eo7 r ?_
        refine tb_Es (k := 1) (st' := (51, [(2, .int o7.1), (3, .int o7.2.1), (4, .int o7.2.2.1)], [.int o7.1], o7.2.2.2)) rfl ?_
        refine tb_b_ine rfl (fun hc => ?_) (fun hc => ?_)
        · rw [if_pos hc] at h
          refine tb_Es (k := 2) (st' := (55, [(2, .int o7.1), (3, .int o7.2.1), (4, .int o7.2.2.1)], [.int o7.2.1], o7.2.2.2)) rfl ?_
          obtain rfl := Option.some.inj h
          subst hr
          exact tb_Er rfl rfl
        · rw [if_neg hc] at h
          refine tb_Es (k := 1) (st' := (55, [(2, .int o7.1), (3, .int o7.2.1), (4, .int o7.2.2.1)], [.int o7.2.2.1], o7.2.2.2)) rfl ?_
          obtain rfl := Option.some.inj h
          subst hr
          exact tb_Er rfl rfl
/-! TannerBuntingModel.clauseHere()Z -/
def fj_m_clauseHere_j36 (v0 : Nat) (v1 : Int32) (v2 : Int32) (s0 : Int32) (s1 : Int32) (w : tb_Hp) : Option (Int32 × tb_Hp) := (if s1 = s0 then (tb_on 22 v0 w (fb_m_fails v0 4 v1 w)).bind fun x7 => tb_z x7.1 x7.2 else (tb_gI 22 14 v0 w).bind fun x8 => (tb_pI 22 14 v0 (x8 + 1) w).bind fun w9 => (if v2 = 0 then (tb_on 22 v0 w9 (fb_m_isKeepHere v0 w9)).bind fun x10 => tb_z x10.1 x10.2 else (tb_on 22 v0 w9 (fb_m_streetLineHere v0 v1 w9)).bind fun x11 => tb_z x11.1 x11.2))
set_option maxHeartbeats 4000000 in
set_option maxRecDepth 20000 in
theorem dj_m_clauseHere_j36 (v0 : Nat) (v1 : Int32) (v2 : Int32) (s0 : Int32) (s1 : Int32) (w : tb_Hp) (o : Int32 × tb_Hp) (h : fj_m_clauseHere_j36 v0 v1 v2 s0 s1 w = some o) (r : Option Value × tb_Hp) (hr : r = (some (.int o.1), o.2)) : tb_Ev tb_P 10 176 (39, [(0, .ref v0), (1, .int v1), (2, .int v2)], [.int s0, .int s1], w) r := by
  unfold fj_m_clauseHere_j36 at h
  refine tb_b_cne rfl (fun hc => ?_) (fun hc => ?_)
  · rw [if_pos hc] at h
    refine tb_Es (k := 3) (st' := (43, [(0, .ref v0), (1, .int v1), (2, .int v2)], [.int v1, .int 4, .ref v0], w)) rfl ?_
    replace h := Option.bind_eq_some_iff.mp h
    obtain ⟨x7, ex7, h⟩ := h
    obtain ⟨hkx7, hcall⟩ := tb_on_some ex7
    refine tb_e_cv (v := some (.int x7.1)) rfl (Or.inl ⟨_, rfl⟩) rfl rfl (Nat.le_of_ble_eq_true rfl) rfl (Nat.le_of_ble_eq_true rfl) hkx7 ((dc_m_fails hcall).up (by decide)) ?_
    subst hr
    exact tb_r_z rfl h
  · rw [if_neg hc] at h
    refine tb_Es (k := 2) (st' := (47, [(0, .ref v0), (1, .int v1), (2, .int v2)], [.ref v0, .ref v0], w)) rfl ?_
    replace h := Option.bind_eq_some_iff.mp h
    obtain ⟨x8, ex8, h⟩ := h
    refine tb_e_gI rfl ex8 ?_
    refine tb_Es (k := 2) (st' := (50, [(0, .ref v0), (1, .int v1), (2, .int v2)], [.int (x8 + 1), .ref v0], w)) rfl ?_
    replace h := Option.bind_eq_some_iff.mp h
    obtain ⟨w9, ew9, h⟩ := h
    refine tb_e_pI rfl ew9 ?_
    refine tb_Es (k := 1) (st' := (52, [(0, .ref v0), (1, .int v1), (2, .int v2)], [.int v2], w9)) rfl ?_
    refine tb_b_ieq rfl (fun hc => ?_) (fun hc => ?_)
    · rw [if_pos hc] at h
      refine tb_Es (k := 1) (st' := (58, [(0, .ref v0), (1, .int v1), (2, .int v2)], [.ref v0], w9)) rfl ?_
      replace h := Option.bind_eq_some_iff.mp h
      obtain ⟨x10, ex10, h⟩ := h
      obtain ⟨hkx10, hcall⟩ := tb_on_some ex10
      refine tb_e_cv (v := some (.int x10.1)) rfl (Or.inl ⟨_, rfl⟩) rfl rfl (Nat.le_of_ble_eq_true rfl) rfl (Nat.le_of_ble_eq_true rfl) hkx10 ((dc_m_isKeepHere hcall).up (by decide)) ?_
      subst hr
      exact tb_r_z rfl h
    · rw [if_neg hc] at h
      refine tb_Es (k := 2) (st' := (55, [(0, .ref v0), (1, .int v1), (2, .int v2)], [.int v1, .ref v0], w9)) rfl ?_
      replace h := Option.bind_eq_some_iff.mp h
      obtain ⟨x11, ex11, h⟩ := h
      obtain ⟨hkx11, hcall⟩ := tb_on_some ex11
      refine tb_e_cv (v := some (.int x11.1)) rfl (Or.inl ⟨_, rfl⟩) rfl rfl (Nat.le_of_ble_eq_true rfl) rfl (Nat.le_of_ble_eq_true rfl) hkx11 ((dc_m_streetLineHere hcall).up (by decide)) ?_
      refine tb_Es (k := 1) (st' := (59, [(0, .ref v0), (1, .int v1), (2, .int v2)], [.int x11.1], x11.2)) rfl ?_
      subst hr
      exact tb_r_z rfl h
def fj_m_clauseHere_j29 (v0 : Nat) (v1 : Int32) (v2 : Int32) (w : tb_Hp) : Option (Int32 × tb_Hp) := (tb_gI 22 14 v0 w).bind fun x6 => (if v2 = 0 then fj_m_clauseHere_j36 v0 v1 v2 12 x6 w else fj_m_clauseHere_j36 v0 v1 v2 40 x6 w)
set_option maxHeartbeats 4000000 in
set_option maxRecDepth 20000 in
theorem dj_m_clauseHere_j29 (v0 : Nat) (v1 : Int32) (v2 : Int32) (w : tb_Hp) (o : Int32 × tb_Hp) (h : fj_m_clauseHere_j29 v0 v1 v2 w = some o) (r : Option Value × tb_Hp) (hr : r = (some (.int o.1), o.2)) : tb_Ev tb_P 10 176 (31, [(0, .ref v0), (1, .int v1), (2, .int v2)], [], w) r := by
  unfold fj_m_clauseHere_j29 at h
  refine tb_Es (k := 1) (st' := (32, [(0, .ref v0), (1, .int v1), (2, .int v2)], [.ref v0], w)) rfl ?_
  replace h := Option.bind_eq_some_iff.mp h
  obtain ⟨x6, ex6, h⟩ := h
  refine tb_e_gI rfl ex6 ?_
  refine tb_Es (k := 1) (st' := (34, [(0, .ref v0), (1, .int v1), (2, .int v2)], [.int v2, .int x6], w)) rfl ?_
  refine tb_b_ieq rfl (fun hc => ?_) (fun hc => ?_)
  · rw [if_pos hc] at h
    refine tb_Es (k := 2) (st' := (39, [(0, .ref v0), (1, .int v1), (2, .int v2)], [.int 12, .int x6], w)) rfl ?_
    exact dj_m_clauseHere_j36 v0 v1 v2 12 x6 w _ h r hr
  · rw [if_neg hc] at h
    refine tb_Es (k := 3) (st' := (39, [(0, .ref v0), (1, .int v1), (2, .int v2)], [.int 40, .int x6], w)) rfl ?_
    exact dj_m_clauseHere_j36 v0 v1 v2 40 x6 w _ h r hr
def fj_m_clauseHere_j13 (v0 : Nat) (v1 : Int32) (s0 : Int32) (w : tb_Hp) : Option (Int32 × tb_Hp) := (if s0 = 0 then (tb_on 22 v0 w (fb_m_isWord v0 1801807216 w)).bind fun x4 => (if x4.1 = 0 then (tb_on 22 v0 x4.2 (fb_m_fails v0 0 v1 x4.2)).bind fun x5 => tb_z x5.1 x5.2 else fj_m_clauseHere_j29 v0 v1 s0 x4.2) else (tb_on 22 v0 w (fb_m_isStreetWord v0 w)).bind fun x12 => (if x12.1 = 0 then (tb_on 22 v0 x12.2 (fb_m_fails v0 0 v1 x12.2)).bind fun x13 => tb_z x13.1 x13.2 else fj_m_clauseHere_j29 v0 v1 s0 x12.2))
set_option maxHeartbeats 4000000 in
set_option maxRecDepth 20000 in
theorem dj_m_clauseHere_j13 (v0 : Nat) (v1 : Int32) (s0 : Int32) (w : tb_Hp) (o : Int32 × tb_Hp) (h : fj_m_clauseHere_j13 v0 v1 s0 w = some o) (r : Option Value × tb_Hp) (hr : r = (some (.int o.1), o.2)) : tb_Ev tb_P 10 176 (14, [(0, .ref v0), (1, .int v1)], [.int s0], w) r := by
  unfold fj_m_clauseHere_j13 at h
  refine tb_Es (k := 2) (st' := (16, [(2, .int s0), (0, .ref v0), (1, .int v1)], [.int s0], w)) rfl ?_
  refine tb_b_ieq rfl (fun hc => ?_) (fun hc => ?_)
  · rw [if_pos hc] at h
    refine tb_Es (k := 2) (st' := (23, [(2, .int s0), (0, .ref v0), (1, .int v1)], [.long 1801807216, .ref v0], w)) rfl ?_
    replace h := Option.bind_eq_some_iff.mp h
    obtain ⟨x4, ex4, h⟩ := h
    obtain ⟨hkx4, hcall⟩ := tb_on_some ex4
    refine tb_e_cv (v := some (.int x4.1)) rfl (Or.inl ⟨_, rfl⟩) rfl rfl (Nat.le_of_ble_eq_true rfl) rfl (Nat.le_of_ble_eq_true rfl) hkx4 ((dc_m_isWord hcall).up (by decide)) ?_
    refine tb_b_ine rfl (fun hc => ?_) (fun hc => ?_)
    · rw [if_pos hc] at h
      refine tb_Es (k := 3) (st' := (28, [(2, .int s0), (0, .ref v0), (1, .int v1)], [.int v1, .int 0, .ref v0], x4.2)) rfl ?_
      replace h := Option.bind_eq_some_iff.mp h
      obtain ⟨x5, ex5, h⟩ := h
      obtain ⟨hkx5, hcall⟩ := tb_on_some ex5
      refine tb_e_cv (v := some (.int x5.1)) rfl (Or.inl ⟨_, rfl⟩) rfl rfl (Nat.le_of_ble_eq_true rfl) rfl (Nat.le_of_ble_eq_true rfl) hkx5 ((dc_m_fails hcall).up (by decide)) ?_
      subst hr
      exact tb_r_z rfl h
    · rw [if_neg hc] at h
      refine tb_Es (k := 1) (st' := (31, [(0, .ref v0), (1, .int v1), (2, .int s0)], [], x4.2)) rfl ?_
      exact dj_m_clauseHere_j29 v0 v1 s0 x4.2 _ h r hr
  · rw [if_neg hc] at h
    refine tb_Es (k := 1) (st' := (18, [(2, .int s0), (0, .ref v0), (1, .int v1)], [.ref v0], w)) rfl ?_
    replace h := Option.bind_eq_some_iff.mp h
    obtain ⟨x12, ex12, h⟩ := h
    obtain ⟨hkx12, hcall⟩ := tb_on_some ex12
    refine tb_e_cv (v := some (.int x12.1)) rfl (Or.inl ⟨_, rfl⟩) rfl rfl (Nat.le_of_ble_eq_true rfl) rfl (Nat.le_of_ble_eq_true rfl) hkx12 ((dc_m_isStreetWord hcall).up (by decide)) ?_
    refine tb_b_ine rfl (fun hc => ?_) (fun hc => ?_)
    · rw [if_pos hc] at h
      refine tb_Es (k := 4) (st' := (28, [(2, .int s0), (0, .ref v0), (1, .int v1)], [.int v1, .int 0, .ref v0], x12.2)) rfl ?_
      replace h := Option.bind_eq_some_iff.mp h
      obtain ⟨x13, ex13, h⟩ := h
      obtain ⟨hkx13, hcall⟩ := tb_on_some ex13
      refine tb_e_cv (v := some (.int x13.1)) rfl (Or.inl ⟨_, rfl⟩) rfl rfl (Nat.le_of_ble_eq_true rfl) rfl (Nat.le_of_ble_eq_true rfl) hkx13 ((dc_m_fails hcall).up (by decide)) ?_
      subst hr
      exact tb_r_z rfl h
    · rw [if_neg hc] at h
      refine tb_Es (k := 1) (st' := (31, [(0, .ref v0), (1, .int v1), (2, .int s0)], [], x12.2)) rfl ?_
      exact dj_m_clauseHere_j29 v0 v1 s0 x12.2 _ h r hr
def fb_m_clauseHere (a0 : Nat) (w : tb_Hp) : Option (Int32 × tb_Hp) := (tb_on 22 a0 w (fb_m_see a0 w)).bind fun x1 => (tb_gI 22 8 a0 x1.2).bind fun x2 => (tb_gI 22 11 a0 x1.2).bind fun x3 => (if x3 = 6 then fj_m_clauseHere_j13 a0 x2 1 x1.2 else fj_m_clauseHere_j13 a0 x2 0 x1.2)
set_option maxHeartbeats 4000000 in
set_option maxRecDepth 20000 in
theorem dc_m_clauseHere {a0 : Nat} {w : tb_Hp} {o : Int32 × tb_Hp} (h : fb_m_clauseHere a0 w = some o) : tb_Ev tb_P 10 176 (0, tb_ent [.ref a0], [], w) (some (.int o.1), o.2) := by
  unfold fb_m_clauseHere at h
  obtain ⟨r, hr⟩ : ∃ r : Option Value × tb_Hp, r = (some (.int o.1), o.2) := ⟨_, rfl⟩
  rw [← hr]
  show tb_Ev tb_P 10 176 (0, [(0, .ref a0)], [], w) r
  refine tb_Es (k := 1) (st' := (1, [(0, .ref a0)], [.ref a0], w)) rfl ?_
  replace h := Option.bind_eq_some_iff.mp h
  obtain ⟨x1, ex1, h⟩ := h
  obtain ⟨hkx1, hcall⟩ := tb_on_some ex1
  refine tb_e_cv (v := some (.int x1.1)) rfl (Or.inl ⟨_, rfl⟩) rfl rfl (Nat.le_of_ble_eq_true rfl) rfl (Nat.le_of_ble_eq_true rfl) hkx1 ((dc_m_see hcall).up (by decide)) ?_
  refine tb_Es (k := 2) (st' := (4, [(0, .ref a0)], [.ref a0], x1.2)) rfl ?_
  replace h := Option.bind_eq_some_iff.mp h
  obtain ⟨x2, ex2, h⟩ := h
  refine tb_e_gI rfl ex2 ?_
  refine tb_Es (k := 2) (st' := (7, [(1, .int x2), (0, .ref a0)], [.ref a0], x1.2)) rfl ?_
  replace h := Option.bind_eq_some_iff.mp h
  obtain ⟨x3, ex3, h⟩ := h
  refine tb_e_gI rfl ex3 ?_
  refine tb_Es (k := 1) (st' := (9, [(1, .int x2), (0, .ref a0)], [.int 6, .int x3], x1.2)) rfl ?_
  refine tb_b_cne rfl (fun hc => ?_) (fun hc => ?_)
  · rw [if_pos hc] at h
    refine tb_Es (k := 3) (st' := (14, [(0, .ref a0), (1, .int x2)], [.int 1], x1.2)) rfl ?_
    exact dj_m_clauseHere_j13 a0 x2 1 x1.2 _ h r hr
  · rw [if_neg hc] at h
    refine tb_Es (k := 2) (st' := (14, [(0, .ref a0), (1, .int x2)], [.int 0], x1.2)) rfl ?_
    exact dj_m_clauseHere_j13 a0 x2 0 x1.2 _ h r hr
/-! TannerBuntingModel.readsAll()Z -/
def fl_m_readsAll_21 : Nat → Nat → Int32 → tb_Hp → Option (Nat × Int32 × tb_Hp)
  | 0, _, _, _ => none
  | n + 1, v0, v1, w => (if v1 = 0 then some ((v0, v1, w)) else (tb_on 22 v0 w (fb_m_see v0 w)).bind fun x9 => (if x9.1 = 59 then (tb_gI 22 8 v0 x9.2).bind fun x10 => (tb_pI 22 8 v0 (x10 + 1) x9.2).bind fun w11 => (tb_on 22 v0 w11 (fb_m_clauseHere v0 w11)).bind fun x12 => fl_m_readsAll_21 n v0 x12.1 x12.2 else some ((v0, v1, x9.2))))
set_option maxHeartbeats 4000000 in
set_option maxRecDepth 20000 in
theorem dl_m_readsAll_21 : ∀ (n : Nat) (v0 : Nat) (v1 : Int32) (w : tb_Hp) (o : Nat × Int32 × tb_Hp), fl_m_readsAll_21 n v0 v1 w = some o → ∀ (r : Option Value × tb_Hp), tb_Ev tb_P 11 175 (39, [(0, .ref o.1), (1, .int o.2.1)], [], o.2.2) r → tb_Ev tb_P 11 175 (22, [(0, .ref v0), (1, .int v1)], [], w) r := by
  intro n
  induction n with
  | zero =>
    intro v0 v1 w o h
    cases h
  | succ n ih =>
    intro v0 v1 w o h r hx
    unfold fl_m_readsAll_21 at h
    refine tb_Es (k := 1) (st' := (23, [(0, .ref v0), (1, .int v1)], [.int v1], w)) rfl ?_
    refine tb_b_ieq rfl (fun hc => ?_) (fun hc => ?_)
    · rw [if_pos hc] at h
      refine tb_Es (k := 1) (st' := (39, [(0, .ref v0), (1, .int v1)], [], w)) rfl ?_
      obtain rfl := Option.some.inj h
      exact hx
    · rw [if_neg hc] at h
      refine tb_Es (k := 1) (st' := (25, [(0, .ref v0), (1, .int v1)], [.ref v0], w)) rfl ?_
      replace h := Option.bind_eq_some_iff.mp h
      obtain ⟨x9, ex9, h⟩ := h
      obtain ⟨hkx9, hcall⟩ := tb_on_some ex9
      refine tb_e_cv (v := some (.int x9.1)) rfl (Or.inl ⟨_, rfl⟩) rfl rfl (Nat.le_of_ble_eq_true rfl) rfl (Nat.le_of_ble_eq_true rfl) hkx9 ((dc_m_see hcall).up (by decide)) ?_
      refine tb_Es (k := 1) (st' := (27, [(0, .ref v0), (1, .int v1)], [.int 59, .int x9.1], x9.2)) rfl ?_
      refine tb_b_cne rfl (fun hc => ?_) (fun hc => ?_)
      · rw [if_pos hc] at h
        refine tb_Es (k := 2) (st' := (30, [(0, .ref v0), (1, .int v1)], [.ref v0, .ref v0], x9.2)) rfl ?_
        replace h := Option.bind_eq_some_iff.mp h
        obtain ⟨x10, ex10, h⟩ := h
        refine tb_e_gI rfl ex10 ?_
        refine tb_Es (k := 2) (st' := (33, [(0, .ref v0), (1, .int v1)], [.int (x10 + 1), .ref v0], x9.2)) rfl ?_
        replace h := Option.bind_eq_some_iff.mp h
        obtain ⟨w11, ew11, h⟩ := h
        refine tb_e_pI rfl ew11 ?_
        refine tb_Es (k := 1) (st' := (35, [(0, .ref v0), (1, .int v1)], [.ref v0], w11)) rfl ?_
        replace h := Option.bind_eq_some_iff.mp h
        obtain ⟨x12, ex12, h⟩ := h
        obtain ⟨hkx12, hcall⟩ := tb_on_some ex12
        refine tb_e_cv (v := some (.int x12.1)) rfl (Or.inl ⟨_, rfl⟩) rfl rfl (Nat.le_of_ble_eq_true rfl) rfl (Nat.le_of_ble_eq_true rfl) hkx12 ((dc_m_clauseHere hcall).up (by decide)) ?_
        refine tb_Es (k := 3) (st' := (22, [(0, .ref v0), (1, .int x12.1)], [], x12.2)) rfl ?_
        exact ih v0 x12.1 x12.2 _ h r hx
      · rw [if_neg hc] at h
        refine tb_Es (k := 1) (st' := (39, [(0, .ref v0), (1, .int v1)], [], x9.2)) rfl ?_
        obtain rfl := Option.some.inj h
        exact hx
def fj_m_readsAll_j49 (v0 : Nat) (w : tb_Hp) : Option (Int32 × tb_Hp) := (tb_pI 22 1 v0 0 w).bind fun w14 => (tb_gI 22 9 v0 w14).bind fun x15 => (if x15 = 0 then some (1, w14) else some (0, w14))
set_option maxHeartbeats 4000000 in
set_option maxRecDepth 20000 in
theorem dj_m_readsAll_j49 (v0 : Nat) (w : tb_Hp) (o : Int32 × tb_Hp) (h : fj_m_readsAll_j49 v0 w = some o) (r : Option Value × tb_Hp) (hr : r = (some (.int o.1), o.2)) : tb_Ev tb_P 11 175 (52, [(0, .ref v0)], [], w) r := by
  unfold fj_m_readsAll_j49 at h
  refine tb_Es (k := 2) (st' := (54, [(0, .ref v0)], [.int 0, .ref v0], w)) rfl ?_
  replace h := Option.bind_eq_some_iff.mp h
  obtain ⟨w14, ew14, h⟩ := h
  refine tb_e_pI rfl ew14 ?_
  refine tb_Es (k := 1) (st' := (56, [(0, .ref v0)], [.ref v0], w14)) rfl ?_
  replace h := Option.bind_eq_some_iff.mp h
  obtain ⟨x15, ex15, h⟩ := h
  refine tb_e_gI rfl ex15 ?_
  refine tb_b_ine rfl (fun hc => ?_) (fun hc => ?_)
  · rw [if_pos hc] at h
    refine tb_Es (k := 2) (st' := (61, [(0, .ref v0)], [.int 1], w14)) rfl ?_
    obtain rfl := Option.some.inj h
    subst hr
    exact tb_Er rfl rfl
  · rw [if_neg hc] at h
    refine tb_Es (k := 1) (st' := (61, [(0, .ref v0)], [.int 0], w14)) rfl ?_
    obtain rfl := Option.some.inj h
    subst hr
    exact tb_Er rfl rfl
def fb_m_readsAll (a0 : Nat) (w : tb_Hp) : Option (Int32 × tb_Hp) := (tb_gN 22 4 a0 w).bind fun p1 => (tb_gI 22 11 a0 w).bind fun x2 => (tb_tI p1 x2 0 w).bind fun w3 => (tb_pI 22 14 a0 0 w3).bind fun w4 => (tb_pI 22 8 a0 0 w4).bind fun w5 => (tb_pI 22 9 a0 0 w5).bind fun w6 => (tb_pI 22 12 a0 0 w6).bind fun w7 => (tb_on 22 a0 w7 (fb_m_clauseHere a0 w7)).bind fun x8 => (fl_m_readsAll_21 1048576 a0 x8.1 x8.2).bind fun o13 => (if o13.2.1 = 0 then fj_m_readsAll_j49 o13.1 o13.2.2 else (tb_on 22 o13.1 o13.2.2 (fb_m_see o13.1 o13.2.2)).bind fun x16 => (if x16.1 = (-1) then fj_m_readsAll_j49 o13.1 x16.2 else (tb_gI 22 8 o13.1 x16.2).bind fun x17 => (tb_on 22 o13.1 x16.2 (fb_m_fails o13.1 0 x17 x16.2)).bind fun x18 => fj_m_readsAll_j49 o13.1 x18.2))
set_option maxHeartbeats 4000000 in
set_option maxRecDepth 20000 in
theorem dc_m_readsAll {a0 : Nat} {w : tb_Hp} {o : Int32 × tb_Hp} (h : fb_m_readsAll a0 w = some o) : tb_Ev tb_P 11 175 (0, tb_ent [.ref a0], [], w) (some (.int o.1), o.2) := by
  unfold fb_m_readsAll at h
  obtain ⟨r, hr⟩ : ∃ r : Option Value × tb_Hp, r = (some (.int o.1), o.2) := ⟨_, rfl⟩
  rw [← hr]
  show tb_Ev tb_P 11 175 (0, [(0, .ref a0)], [], w) r
  refine tb_Es (k := 1) (st' := (1, [(0, .ref a0)], [.ref a0], w)) rfl ?_
  replace h := Option.bind_eq_some_iff.mp h
  obtain ⟨p1, ep1, h⟩ := h
  refine tb_e_gN rfl ep1 ?_
  refine tb_Es (k := 1) (st' := (3, [(0, .ref a0)], [.ref a0, .ref p1], w)) rfl ?_
  replace h := Option.bind_eq_some_iff.mp h
  obtain ⟨x2, ex2, h⟩ := h
  refine tb_e_gI rfl ex2 ?_
  refine tb_Es (k := 1) (st' := (5, [(0, .ref a0)], [.int 0, .int x2, .ref p1], w)) rfl ?_
  replace h := Option.bind_eq_some_iff.mp h
  obtain ⟨w3, ew3, h⟩ := h
  refine tb_e_tI rfl ew3 ?_
  refine tb_Es (k := 2) (st' := (8, [(0, .ref a0)], [.int 0, .ref a0], w3)) rfl ?_
  replace h := Option.bind_eq_some_iff.mp h
  obtain ⟨w4, ew4, h⟩ := h
  refine tb_e_pI rfl ew4 ?_
  refine tb_Es (k := 2) (st' := (11, [(0, .ref a0)], [.int 0, .ref a0], w4)) rfl ?_
  replace h := Option.bind_eq_some_iff.mp h
  obtain ⟨w5, ew5, h⟩ := h
  refine tb_e_pI rfl ew5 ?_
  refine tb_Es (k := 2) (st' := (14, [(0, .ref a0)], [.int 0, .ref a0], w5)) rfl ?_
  replace h := Option.bind_eq_some_iff.mp h
  obtain ⟨w6, ew6, h⟩ := h
  refine tb_e_pI rfl ew6 ?_
  refine tb_Es (k := 2) (st' := (17, [(0, .ref a0)], [.int 0, .ref a0], w6)) rfl ?_
  replace h := Option.bind_eq_some_iff.mp h
  obtain ⟨w7, ew7, h⟩ := h
  refine tb_e_pI rfl ew7 ?_
  refine tb_Es (k := 1) (st' := (19, [(0, .ref a0)], [.ref a0], w7)) rfl ?_
  replace h := Option.bind_eq_some_iff.mp h
  obtain ⟨x8, ex8, h⟩ := h
  obtain ⟨hkx8, hcall⟩ := tb_on_some ex8
  refine tb_e_cv (v := some (.int x8.1)) rfl (Or.inl ⟨_, rfl⟩) rfl rfl (Nat.le_of_ble_eq_true rfl) rfl (Nat.le_of_ble_eq_true rfl) hkx8 ((dc_m_clauseHere hcall).up (by decide)) ?_
  refine tb_Es (k := 2) (st' := (22, [(0, .ref a0), (1, .int x8.1)], [], x8.2)) rfl ?_
  replace h := Option.bind_eq_some_iff.mp h
  obtain ⟨o13, eo13, h⟩ := h
  refine dl_m_readsAll_21 _ a0 x8.1 x8.2 _ eo13 r ?_
  refine tb_Es (k := 1) (st' := (40, [(0, .ref o13.1), (1, .int o13.2.1)], [.int o13.2.1], o13.2.2)) rfl ?_
  refine tb_b_ieq rfl (fun hc => ?_) (fun hc => ?_)
  · rw [if_pos hc] at h
    refine tb_Es (k := 1) (st' := (52, [(0, .ref o13.1)], [], o13.2.2)) rfl ?_
    exact dj_m_readsAll_j49 o13.1 o13.2.2 _ h r hr
  · rw [if_neg hc] at h
    refine tb_Es (k := 1) (st' := (42, [(0, .ref o13.1), (1, .int o13.2.1)], [.ref o13.1], o13.2.2)) rfl ?_
    replace h := Option.bind_eq_some_iff.mp h
    obtain ⟨x16, ex16, h⟩ := h
    obtain ⟨hkx16, hcall⟩ := tb_on_some ex16
    refine tb_e_cv (v := some (.int x16.1)) rfl (Or.inl ⟨_, rfl⟩) rfl rfl (Nat.le_of_ble_eq_true rfl) rfl (Nat.le_of_ble_eq_true rfl) hkx16 ((dc_m_see hcall).up (by decide)) ?_
    refine tb_Es (k := 1) (st' := (44, [(0, .ref o13.1), (1, .int o13.2.1)], [.int (-1), .int x16.1], x16.2)) rfl ?_
    refine tb_b_ceq rfl (fun hc => ?_) (fun hc => ?_)
    · rw [if_pos hc] at h
      refine tb_Es (k := 1) (st' := (52, [(0, .ref o13.1)], [], x16.2)) rfl ?_
      exact dj_m_readsAll_j49 o13.1 x16.2 _ h r hr
    · rw [if_neg hc] at h
      refine tb_Es (k := 3) (st' := (48, [(0, .ref o13.1), (1, .int o13.2.1)], [.ref o13.1, .int 0, .ref o13.1], x16.2)) rfl ?_
      replace h := Option.bind_eq_some_iff.mp h
      obtain ⟨x17, ex17, h⟩ := h
      refine tb_e_gI rfl ex17 ?_
      replace h := Option.bind_eq_some_iff.mp h
      obtain ⟨x18, ex18, h⟩ := h
      obtain ⟨hkx18, hcall⟩ := tb_on_some ex18
      refine tb_e_cv (v := some (.int x18.1)) rfl (Or.inl ⟨_, rfl⟩) rfl rfl (Nat.le_of_ble_eq_true rfl) rfl (Nat.le_of_ble_eq_true rfl) hkx18 ((dc_m_fails hcall).up (by decide)) ?_
      refine tb_Es (k := 2) (st' := (52, [(0, .ref o13.1)], [], x18.2)) rfl ?_
      exact dj_m_readsAll_j49 o13.1 x18.2 _ h r hr
/-! TannerBuntingModel.rule()I -/
def fb_m_rule (a0 : Nat) (w : tb_Hp) : Option (Int32 × tb_Hp) := (tb_gI 22 2 a0 w).bind fun x1 => (if x1 = 6 then some (-1, w) else (tb_gI 22 2 a0 w).bind fun x2 => (tb_pI 22 11 a0 x2 w).bind fun w3 => (tb_gN 22 6 a0 w3).bind fun p4 => (tb_gI 22 11 a0 w3).bind fun x5 => (tb_tI p4 x5 0 w3).bind fun w6 => (tb_on 22 a0 w6 (fb_m_readsAll a0 w6)).bind fun x7 => (if x7.1 = 0 then (tb_gI 22 9 a0 x7.2).bind fun x8 => some ((-2) - x8, x7.2) else (tb_gI 22 2 a0 x7.2).bind fun x9 => (tb_pI 22 2 a0 (x9 + 1) x7.2).bind fun w10 => (tb_gI 22 2 a0 w10).bind fun x11 => some (x11 - 1, w10)))
set_option maxHeartbeats 4000000 in
set_option maxRecDepth 20000 in
theorem dc_m_rule {a0 : Nat} {w : tb_Hp} {o : Int32 × tb_Hp} (h : fb_m_rule a0 w = some o) : tb_Ev tb_P 12 174 (0, tb_ent [.ref a0], [], w) (some (.int o.1), o.2) := by
  unfold fb_m_rule at h
  obtain ⟨r, hr⟩ : ∃ r : Option Value × tb_Hp, r = (some (.int o.1), o.2) := ⟨_, rfl⟩
  rw [← hr]
  show tb_Ev tb_P 12 174 (0, [(0, .ref a0)], [], w) r
  refine tb_Es (k := 1) (st' := (1, [(0, .ref a0)], [.ref a0], w)) rfl ?_
  replace h := Option.bind_eq_some_iff.mp h
  obtain ⟨x1, ex1, h⟩ := h
  refine tb_e_gI rfl ex1 ?_
  refine tb_Es (k := 1) (st' := (3, [(0, .ref a0)], [.int 6, .int x1], w)) rfl ?_
  refine tb_b_cne rfl (fun hc => ?_) (fun hc => ?_)
  · rw [if_pos hc] at h
    refine tb_Es (k := 1) (st' := (5, [(0, .ref a0)], [.int (-1)], w)) rfl ?_
    obtain rfl := Option.some.inj h
    subst hr
    exact tb_Er rfl rfl
  · rw [if_neg hc] at h
    refine tb_Es (k := 2) (st' := (8, [(0, .ref a0)], [.ref a0, .ref a0], w)) rfl ?_
    replace h := Option.bind_eq_some_iff.mp h
    obtain ⟨x2, ex2, h⟩ := h
    refine tb_e_gI rfl ex2 ?_
    replace h := Option.bind_eq_some_iff.mp h
    obtain ⟨w3, ew3, h⟩ := h
    refine tb_e_pI rfl ew3 ?_
    refine tb_Es (k := 1) (st' := (11, [(0, .ref a0)], [.ref a0], w3)) rfl ?_
    replace h := Option.bind_eq_some_iff.mp h
    obtain ⟨p4, ep4, h⟩ := h
    refine tb_e_gN rfl ep4 ?_
    refine tb_Es (k := 1) (st' := (13, [(0, .ref a0)], [.ref a0, .ref p4], w3)) rfl ?_
    replace h := Option.bind_eq_some_iff.mp h
    obtain ⟨x5, ex5, h⟩ := h
    refine tb_e_gI rfl ex5 ?_
    refine tb_Es (k := 1) (st' := (15, [(0, .ref a0)], [.int 0, .int x5, .ref p4], w3)) rfl ?_
    replace h := Option.bind_eq_some_iff.mp h
    obtain ⟨w6, ew6, h⟩ := h
    refine tb_e_tI rfl ew6 ?_
    refine tb_Es (k := 1) (st' := (17, [(0, .ref a0)], [.ref a0], w6)) rfl ?_
    replace h := Option.bind_eq_some_iff.mp h
    obtain ⟨x7, ex7, h⟩ := h
    obtain ⟨hkx7, hcall⟩ := tb_on_some ex7
    refine tb_e_cv (v := some (.int x7.1)) rfl (Or.inl ⟨_, rfl⟩) rfl rfl (Nat.le_of_ble_eq_true rfl) rfl (Nat.le_of_ble_eq_true rfl) hkx7 ((dc_m_readsAll hcall).up (by decide)) ?_
    refine tb_b_ine rfl (fun hc => ?_) (fun hc => ?_)
    · rw [if_pos hc] at h
      refine tb_Es (k := 2) (st' := (21, [(0, .ref a0)], [.ref a0, .int (-2)], x7.2)) rfl ?_
      replace h := Option.bind_eq_some_iff.mp h
      obtain ⟨x8, ex8, h⟩ := h
      refine tb_e_gI rfl ex8 ?_
      refine tb_Es (k := 1) (st' := (23, [(0, .ref a0)], [.int ((-2) - x8)], x7.2)) rfl ?_
      obtain rfl := Option.some.inj h
      subst hr
      exact tb_Er rfl rfl
    · rw [if_neg hc] at h
      refine tb_Es (k := 2) (st' := (26, [(0, .ref a0)], [.ref a0, .ref a0], x7.2)) rfl ?_
      replace h := Option.bind_eq_some_iff.mp h
      obtain ⟨x9, ex9, h⟩ := h
      refine tb_e_gI rfl ex9 ?_
      refine tb_Es (k := 2) (st' := (29, [(0, .ref a0)], [.int (x9 + 1), .ref a0], x7.2)) rfl ?_
      replace h := Option.bind_eq_some_iff.mp h
      obtain ⟨w10, ew10, h⟩ := h
      refine tb_e_pI rfl ew10 ?_
      refine tb_Es (k := 1) (st' := (31, [(0, .ref a0)], [.ref a0], w10)) rfl ?_
      replace h := Option.bind_eq_some_iff.mp h
      obtain ⟨x11, ex11, h⟩ := h
      refine tb_e_gI rfl ex11 ?_
      refine tb_Es (k := 2) (st' := (34, [(0, .ref a0)], [.int (x11 - 1)], w10)) rfl ?_
      obtain rfl := Option.some.inj h
      subst hr
      exact tb_Er rfl rfl
/-! TannerBuntingModel.street()I -/
def fl_m_street_5 : Nat → Nat → Int32 → tb_Hp → Option (Nat × tb_Hp)
  | 0, _, _, _ => none
  | n + 1, v0, v1, w => (if v1 < 118 then (tb_gN 22 7 v0 w).bind fun p2 => (tb_tI p2 v1 0 w).bind fun w3 => fl_m_street_5 n v0 (v1 + 1) w3 else some ((v0, w)))
set_option maxHeartbeats 4000000 in
set_option maxRecDepth 20000 in
theorem dl_m_street_5 : ∀ (n : Nat) (v0 : Nat) (v1 : Int32) (w : tb_Hp) (o : Nat × tb_Hp), fl_m_street_5 n v0 v1 w = some o → ∀ (r : Option Value × tb_Hp), tb_Ev tb_P 12 207 (17, [(0, .ref o.1)], [], o.2) r → tb_Ev tb_P 12 207 (6, [(0, .ref v0), (1, .int v1)], [], w) r := by
  intro n
  induction n with
  | zero =>
    intro v0 v1 w o h
    cases h
  | succ n ih =>
    intro v0 v1 w o h r hx
    unfold fl_m_street_5 at h
    refine tb_Es (k := 2) (st' := (8, [(0, .ref v0), (1, .int v1)], [.int 118, .int v1], w)) rfl ?_
    refine tb_b_cge rfl (fun hc => ?_) (fun hc => ?_)
    · rw [if_pos hc] at h
      refine tb_Es (k := 1) (st' := (10, [(0, .ref v0), (1, .int v1)], [.ref v0], w)) rfl ?_
      replace h := Option.bind_eq_some_iff.mp h
      obtain ⟨p2, ep2, h⟩ := h
      refine tb_e_gN rfl ep2 ?_
      refine tb_Es (k := 2) (st' := (13, [(0, .ref v0), (1, .int v1)], [.int 0, .int v1, .ref p2], w)) rfl ?_
      replace h := Option.bind_eq_some_iff.mp h
      obtain ⟨w3, ew3, h⟩ := h
      refine tb_e_tI rfl ew3 ?_
      refine tb_Es (k := 3) (st' := (6, [(0, .ref v0), (1, .int (v1 + 1))], [], w3)) rfl ?_
      exact ih v0 (v1 + 1) w3 _ h r hx
    · rw [if_neg hc] at h
      refine tb_Es (k := 1) (st' := (17, [(0, .ref v0)], [], w)) rfl ?_
      obtain rfl := Option.some.inj h
      exact hx
def fl_m_street_25 : Nat → Nat → Int32 → tb_Hp → Option (Nat × tb_Hp)
  | 0, _, _, _ => none
  | n + 1, v0, v1, w => (if v1 < 149 then (tb_gN 22 20 v0 w).bind fun p7 => (if v1 < 118 then (tb_gN 22 7 v0 w).bind fun p8 => (tb_lI [1, 9] p8 v1 w).bind fun x9 => (tb_tI p7 v1 x9 w).bind fun w10 => fl_m_street_25 n v0 (v1 + 1) w10 else (tb_tI p7 v1 0 w).bind fun w11 => fl_m_street_25 n v0 (v1 + 1) w11) else some ((v0, w)))
set_option maxHeartbeats 4000000 in
set_option maxRecDepth 20000 in
theorem dl_m_street_25 : ∀ (n : Nat) (v0 : Nat) (v1 : Int32) (w : tb_Hp) (o : Nat × tb_Hp), fl_m_street_25 n v0 v1 w = some o → ∀ (r : Option Value × tb_Hp), tb_Ev tb_P 12 207 (47, [(0, .ref o.1)], [], o.2) r → tb_Ev tb_P 12 207 (28, [(0, .ref v0), (1, .int v1)], [], w) r := by
  intro n
  induction n with
  | zero =>
    intro v0 v1 w o h
    cases h
  | succ n ih =>
    intro v0 v1 w o h r hx
    unfold fl_m_street_25 at h
    refine tb_Es (k := 2) (st' := (30, [(0, .ref v0), (1, .int v1)], [.int 149, .int v1], w)) rfl ?_
    refine tb_b_cge rfl (fun hc => ?_) (fun hc => ?_)
    · rw [if_pos hc] at h
      refine tb_Es (k := 1) (st' := (32, [(0, .ref v0), (1, .int v1)], [.ref v0], w)) rfl ?_
      replace h := Option.bind_eq_some_iff.mp h
      obtain ⟨p7, ep7, h⟩ := h
      refine tb_e_gN rfl ep7 ?_
      refine tb_Es (k := 3) (st' := (36, [(0, .ref v0), (1, .int v1)], [.int 118, .int v1, .int v1, .ref p7], w)) rfl ?_
      refine tb_b_cge rfl (fun hc => ?_) (fun hc => ?_)
      · rw [if_pos hc] at h
        refine tb_Es (k := 1) (st' := (38, [(0, .ref v0), (1, .int v1)], [.ref v0, .int v1, .ref p7], w)) rfl ?_
        replace h := Option.bind_eq_some_iff.mp h
        obtain ⟨p8, ep8, h⟩ := h
        refine tb_e_gN rfl ep8 ?_
        refine tb_Es (k := 1) (st' := (40, [(0, .ref v0), (1, .int v1)], [.int v1, .ref p8, .int v1, .ref p7], w)) rfl ?_
        replace h := Option.bind_eq_some_iff.mp h
        obtain ⟨x9, ex9, h⟩ := h
        refine tb_e_lI rfl (Or.inl ⟨rfl, rfl⟩) ex9 ?_
        refine tb_Es (k := 1) (st' := (43, [(0, .ref v0), (1, .int v1)], [.int x9, .int v1, .ref p7], w)) rfl ?_
        replace h := Option.bind_eq_some_iff.mp h
        obtain ⟨w10, ew10, h⟩ := h
        refine tb_e_tI rfl ew10 ?_
        refine tb_Es (k := 3) (st' := (28, [(0, .ref v0), (1, .int (v1 + 1))], [], w10)) rfl ?_
        exact ih v0 (v1 + 1) w10 _ h r hx
      · rw [if_neg hc] at h
        refine tb_Es (k := 1) (st' := (43, [(0, .ref v0), (1, .int v1)], [.int 0, .int v1, .ref p7], w)) rfl ?_
        replace h := Option.bind_eq_some_iff.mp h
        obtain ⟨w11, ew11, h⟩ := h
        refine tb_e_tI rfl ew11 ?_
        refine tb_Es (k := 3) (st' := (28, [(0, .ref v0), (1, .int (v1 + 1))], [], w11)) rfl ?_
        exact ih v0 (v1 + 1) w11 _ h r hx
    · rw [if_neg hc] at h
      refine tb_Es (k := 1) (st' := (47, [(0, .ref v0)], [], w)) rfl ?_
      obtain rfl := Option.some.inj h
      exact hx
def fb_m_street (a0 : Nat) (w : tb_Hp) : Option (Int32 × tb_Hp) := (tb_pI 22 11 a0 6 w).bind fun w1 => (fl_m_street_5 1048576 a0 0 w1).bind fun o4 => (tb_on 22 o4.1 o4.2 (fb_m_readsAll o4.1 o4.2)).bind fun x5 => (if x5.1 = 0 then (tb_gI 22 9 o4.1 x5.2).bind fun x6 => some ((-2) - x6, x5.2) else (fl_m_street_25 1048576 o4.1 0 x5.2).bind fun o12 => (tb_on 22 o12.1 o12.2 (fb_m_begins o12.1 o12.2)).bind fun x13 => (tb_pI 22 24 o12.1 0 x13).bind fun w14 => (tb_gN 22 20 o12.1 w14).bind fun p15 => (tb_lI [1, 9] p15 3 w14).bind fun x16 => some (x16, w14))
set_option maxHeartbeats 4000000 in
set_option maxRecDepth 20000 in
theorem dc_m_street {a0 : Nat} {w : tb_Hp} {o : Int32 × tb_Hp} (h : fb_m_street a0 w = some o) : tb_Ev tb_P 12 207 (0, tb_ent [.ref a0], [], w) (some (.int o.1), o.2) := by
  unfold fb_m_street at h
  obtain ⟨r, hr⟩ : ∃ r : Option Value × tb_Hp, r = (some (.int o.1), o.2) := ⟨_, rfl⟩
  rw [← hr]
  show tb_Ev tb_P 12 207 (0, [(0, .ref a0)], [], w) r
  refine tb_Es (k := 2) (st' := (2, [(0, .ref a0)], [.int 6, .ref a0], w)) rfl ?_
  replace h := Option.bind_eq_some_iff.mp h
  obtain ⟨w1, ew1, h⟩ := h
  refine tb_e_pI rfl ew1 ?_
  refine tb_Es (k := 3) (st' := (6, [(0, .ref a0), (1, .int 0)], [], w1)) rfl ?_
  replace h := Option.bind_eq_some_iff.mp h
  obtain ⟨o4, eo4, h⟩ := h
  refine dl_m_street_5 _ a0 0 w1 _ eo4 r ?_
  refine tb_Es (k := 1) (st' := (18, [(0, .ref o4.1)], [.ref o4.1], o4.2)) rfl ?_
  replace h := Option.bind_eq_some_iff.mp h
  obtain ⟨x5, ex5, h⟩ := h
  obtain ⟨hkx5, hcall⟩ := tb_on_some ex5
  refine tb_e_cv (v := some (.int x5.1)) rfl (Or.inl ⟨_, rfl⟩) rfl rfl (Nat.le_of_ble_eq_true rfl) rfl (Nat.le_of_ble_eq_true rfl) hkx5 ((dc_m_readsAll hcall).up (by decide)) ?_
  refine tb_b_ine rfl (fun hc => ?_) (fun hc => ?_)
  · rw [if_pos hc] at h
    refine tb_Es (k := 2) (st' := (22, [(0, .ref o4.1)], [.ref o4.1, .int (-2)], x5.2)) rfl ?_
    replace h := Option.bind_eq_some_iff.mp h
    obtain ⟨x6, ex6, h⟩ := h
    refine tb_e_gI rfl ex6 ?_
    refine tb_Es (k := 1) (st' := (24, [(0, .ref o4.1)], [.int ((-2) - x6)], x5.2)) rfl ?_
    obtain rfl := Option.some.inj h
    subst hr
    exact tb_Er rfl rfl
  · rw [if_neg hc] at h
    refine tb_Es (k := 3) (st' := (28, [(0, .ref o4.1), (1, .int 0)], [], x5.2)) rfl ?_
    replace h := Option.bind_eq_some_iff.mp h
    obtain ⟨o12, eo12, h⟩ := h
    refine dl_m_street_25 _ o4.1 0 x5.2 _ eo12 r ?_
    refine tb_Es (k := 1) (st' := (48, [(0, .ref o12.1)], [.ref o12.1], o12.2)) rfl ?_
    replace h := Option.bind_eq_some_iff.mp h
    obtain ⟨x13, ex13, h⟩ := h
    obtain ⟨hkx13, hcall⟩ := tb_on_some ex13
    refine tb_e_cv (v := none) rfl (Or.inl ⟨_, rfl⟩) rfl rfl (Nat.le_of_ble_eq_true rfl) rfl (Nat.le_of_ble_eq_true rfl) hkx13 ((dc_m_begins hcall).up (by decide)) ?_
    refine tb_Es (k := 2) (st' := (51, [(0, .ref o12.1)], [.int 0, .ref o12.1], x13)) rfl ?_
    replace h := Option.bind_eq_some_iff.mp h
    obtain ⟨w14, ew14, h⟩ := h
    refine tb_e_pI rfl ew14 ?_
    refine tb_Es (k := 1) (st' := (53, [(0, .ref o12.1)], [.ref o12.1], w14)) rfl ?_
    replace h := Option.bind_eq_some_iff.mp h
    obtain ⟨p15, ep15, h⟩ := h
    refine tb_e_gN rfl ep15 ?_
    refine tb_Es (k := 1) (st' := (55, [(0, .ref o12.1)], [.int 3, .ref p15], w14)) rfl ?_
    replace h := Option.bind_eq_some_iff.mp h
    obtain ⟨x16, ex16, h⟩ := h
    refine tb_e_lI rfl (Or.inl ⟨rfl, rfl⟩) ex16 ?_
    obtain rfl := Option.some.inj h
    subst hr
    exact tb_Er rfl rfl
/-! TannerBunting$RuleReader.read()I -/
def fj_rr_read_j57 (k : Nat → Int32 → tb_Hp → Option (((Nat × tb_Hp) ⊕ ((Nat × tb_Hp) ⊕ (Nat × tb_Hp))))) (v0 : Nat) (v1 : Int32) (w : tb_Hp) : Option (((Nat × tb_Hp) ⊕ ((Nat × tb_Hp) ⊕ (Nat × tb_Hp)))) := (tb_gN 14 0 v0 w).bind fun p16 => (tb_gI 19 1 p16 w).bind fun x17 => (if x17 = 4 then (tb_gN 14 0 v0 w).bind fun p18 => (tb_on 19 p18 w (fb_t_advance p18 w)).bind fun x19 => k v0 (v1 + 1) x19 else some (.inr (.inl ((v0, w)))))
set_option maxHeartbeats 4000000 in
set_option maxRecDepth 20000 in
theorem dj_rr_read_j57 (k : Nat → Int32 → tb_Hp → Option (((Nat × tb_Hp) ⊕ ((Nat × tb_Hp) ⊕ (Nat × tb_Hp))))) (v0 : Nat) (v1 : Int32) (w : tb_Hp) (o : ((Nat × tb_Hp) ⊕ ((Nat × tb_Hp) ⊕ (Nat × tb_Hp)))) (h : fj_rr_read_j57 k v0 v1 w = some o) (r : Option Value × tb_Hp) (hx : (Sum.elim (fun (q : Nat × tb_Hp) => tb_Ev tb_P 66 48 (24, [(0, .ref q.1)], [], q.2) r) (Sum.elim (fun (q : Nat × tb_Hp) => tb_Ev tb_P 66 48 (66, [(0, .ref q.1)], [], q.2) r) (fun (q : Nat × tb_Hp) => tb_Ev tb_P 66 48 (73, [(0, .ref q.1)], [], q.2) r)) o)) (hk : ∀ (v0 : Nat) (v1 : Int32) (w : tb_Hp), k v0 v1 w = some o → tb_Ev tb_P 66 48 (12, [(0, .ref v0), (1, .int v1)], [], w) r) : tb_Ev tb_P 66 48 (60, [(0, .ref v0), (1, .int v1)], [], w) r := by
  unfold fj_rr_read_j57 at h
  refine tb_Es (k := 1) (st' := (61, [(0, .ref v0), (1, .int v1)], [.ref v0], w)) rfl ?_
  replace h := Option.bind_eq_some_iff.mp h
  obtain ⟨p16, ep16, h⟩ := h
  refine tb_e_gN rfl ep16 ?_
  replace h := Option.bind_eq_some_iff.mp h
  obtain ⟨x17, ex17, h⟩ := h
  refine tb_e_gI rfl ex17 ?_
  refine tb_Es (k := 1) (st' := (64, [(0, .ref v0), (1, .int v1)], [.int 4, .int x17], w)) rfl ?_
  refine tb_b_ceq rfl (fun hc => ?_) (fun hc => ?_)
  · rw [if_pos hc] at h
    refine tb_Es (k := 1) (st' := (68, [(0, .ref v0), (1, .int v1)], [.ref v0], w)) rfl ?_
    replace h := Option.bind_eq_some_iff.mp h
    obtain ⟨p18, ep18, h⟩ := h
    refine tb_e_gN rfl ep18 ?_
    replace h := Option.bind_eq_some_iff.mp h
    obtain ⟨x19, ex19, h⟩ := h
    obtain ⟨hkx19, hcall⟩ := tb_on_some ex19
    refine tb_e_cv (v := none) rfl (Or.inl ⟨_, rfl⟩) rfl rfl (Nat.le_of_ble_eq_true rfl) rfl (Nat.le_of_ble_eq_true rfl) hkx19 ((dc_t_advance hcall).up (by decide)) ?_
    refine tb_Es (k := 3) (st' := (12, [(0, .ref v0), (1, .int (v1 + 1))], [], x19)) rfl ?_
    exact hk v0 (v1 + 1) x19 h
  · rw [if_neg hc] at h
    refine tb_Es (k := 1) (st' := (66, [(0, .ref v0)], [], w)) rfl ?_
    obtain rfl := Option.some.inj h
    exact hx
def fl_rr_read_11 : Nat → Nat → Int32 → tb_Hp → Option (((Nat × tb_Hp) ⊕ ((Nat × tb_Hp) ⊕ (Nat × tb_Hp))))
  | 0, _, _, _ => none
  | n + 1, v0, v1, w => (if v1 ≤ 12 then (tb_gN 14 0 v0 w).bind fun p5 => (tb_gI 19 1 p5 w).bind fun x6 => (if x6 = 34 then (if v1 < 12 then (tb_gN 14 0 v0 w).bind fun p7 => (tb_on 19 p7 w (fb_t_advance p7 w)).bind fun x8 => (tb_on 14 v0 x8 (fb_rr_readSum v0 x8)).bind fun x9 => (tb_gN 14 0 v0 x9).bind fun p10 => (tb_gI 19 1 p10 x9).bind fun x11 => (if x11 = 35 then (tb_gN 14 0 v0 x9).bind fun p12 => (tb_on 19 p12 x9 (fb_t_advance p12 x9)).bind fun x13 => (tb_on 14 v0 x13 (fb_rr_readTest v0 0 x13)).bind fun x14 => (tb_on 14 v0 x14 (fb_rr_emit v0 (-35) x14)).bind fun x15 => fj_rr_read_j57 (fl_rr_read_11 n) v0 v1 x15 else (tb_on 14 v0 x9 (fb_rr_emit v0 (-34) x9)).bind fun x20 => fj_rr_read_j57 (fl_rr_read_11 n) v0 v1 x20) else some (.inl ((v0, w)))) else some (.inl ((v0, w)))) else some (.inr (.inr ((v0, w)))))
set_option maxHeartbeats 4000000 in
set_option maxRecDepth 20000 in
theorem dl_rr_read_11 : ∀ (n : Nat) (v0 : Nat) (v1 : Int32) (w : tb_Hp) (o : ((Nat × tb_Hp) ⊕ ((Nat × tb_Hp) ⊕ (Nat × tb_Hp)))), fl_rr_read_11 n v0 v1 w = some o → ∀ (r : Option Value × tb_Hp), (Sum.elim (fun (q : Nat × tb_Hp) => tb_Ev tb_P 66 48 (24, [(0, .ref q.1)], [], q.2) r) (Sum.elim (fun (q : Nat × tb_Hp) => tb_Ev tb_P 66 48 (66, [(0, .ref q.1)], [], q.2) r) (fun (q : Nat × tb_Hp) => tb_Ev tb_P 66 48 (73, [(0, .ref q.1)], [], q.2) r)) o) → tb_Ev tb_P 66 48 (12, [(0, .ref v0), (1, .int v1)], [], w) r := by
  intro n
  induction n with
  | zero =>
    intro v0 v1 w o h
    cases h
  | succ n ih =>
    intro v0 v1 w o h r hx
    unfold fl_rr_read_11 at h
    refine tb_Es (k := 2) (st' := (14, [(0, .ref v0), (1, .int v1)], [.int 12, .int v1], w)) rfl ?_
    refine tb_b_cgt rfl (fun hc => ?_) (fun hc => ?_)
    · rw [if_pos hc] at h
      refine tb_Es (k := 1) (st' := (16, [(0, .ref v0), (1, .int v1)], [.ref v0], w)) rfl ?_
      replace h := Option.bind_eq_some_iff.mp h
      obtain ⟨p5, ep5, h⟩ := h
      refine tb_e_gN rfl ep5 ?_
      replace h := Option.bind_eq_some_iff.mp h
      obtain ⟨x6, ex6, h⟩ := h
      refine tb_e_gI rfl ex6 ?_
      refine tb_Es (k := 1) (st' := (19, [(0, .ref v0), (1, .int v1)], [.int 34, .int x6], w)) rfl ?_
      refine tb_b_cne rfl (fun hc => ?_) (fun hc => ?_)
      · rw [if_pos hc] at h
        refine tb_Es (k := 2) (st' := (22, [(0, .ref v0), (1, .int v1)], [.int 12, .int v1], w)) rfl ?_
        refine tb_b_clt rfl (fun hc => ?_) (fun hc => ?_)
        · rw [if_pos hc] at h
          refine tb_Es (k := 1) (st' := (37, [(0, .ref v0), (1, .int v1)], [.ref v0], w)) rfl ?_
          replace h := Option.bind_eq_some_iff.mp h
          obtain ⟨p7, ep7, h⟩ := h
          refine tb_e_gN rfl ep7 ?_
          replace h := Option.bind_eq_some_iff.mp h
          obtain ⟨x8, ex8, h⟩ := h
          obtain ⟨hkx8, hcall⟩ := tb_on_some ex8
          refine tb_e_cv (v := none) rfl (Or.inl ⟨_, rfl⟩) rfl rfl (Nat.le_of_ble_eq_true rfl) rfl (Nat.le_of_ble_eq_true rfl) hkx8 ((dc_t_advance hcall).up (by decide)) ?_
          refine tb_Es (k := 1) (st' := (40, [(0, .ref v0), (1, .int v1)], [.ref v0], x8)) rfl ?_
          replace h := Option.bind_eq_some_iff.mp h
          obtain ⟨x9, ex9, h⟩ := h
          obtain ⟨hkx9, hcall⟩ := tb_on_some ex9
          refine tb_e_cv (v := none) rfl (Or.inl ⟨_, rfl⟩) rfl rfl (Nat.le_of_ble_eq_true rfl) rfl (Nat.le_of_ble_eq_true rfl) hkx9 ((dc_rr_readSum hcall).up (by decide)) ?_
          refine tb_Es (k := 1) (st' := (42, [(0, .ref v0), (1, .int v1)], [.ref v0], x9)) rfl ?_
          replace h := Option.bind_eq_some_iff.mp h
          obtain ⟨p10, ep10, h⟩ := h
          refine tb_e_gN rfl ep10 ?_
          replace h := Option.bind_eq_some_iff.mp h
          obtain ⟨x11, ex11, h⟩ := h
          refine tb_e_gI rfl ex11 ?_
          refine tb_Es (k := 1) (st' := (45, [(0, .ref v0), (1, .int v1)], [.int 35, .int x11], x9)) rfl ?_
          refine tb_b_cne rfl (fun hc => ?_) (fun hc => ?_)
          · rw [if_pos hc] at h
            refine tb_Es (k := 1) (st' := (47, [(0, .ref v0), (1, .int v1)], [.ref v0], x9)) rfl ?_
            replace h := Option.bind_eq_some_iff.mp h
            obtain ⟨p12, ep12, h⟩ := h
            refine tb_e_gN rfl ep12 ?_
            replace h := Option.bind_eq_some_iff.mp h
            obtain ⟨x13, ex13, h⟩ := h
            obtain ⟨hkx13, hcall⟩ := tb_on_some ex13
            refine tb_e_cv (v := none) rfl (Or.inl ⟨_, rfl⟩) rfl rfl (Nat.le_of_ble_eq_true rfl) rfl (Nat.le_of_ble_eq_true rfl) hkx13 ((dc_t_advance hcall).up (by decide)) ?_
            refine tb_Es (k := 2) (st' := (51, [(0, .ref v0), (1, .int v1)], [.int 0, .ref v0], x13)) rfl ?_
            replace h := Option.bind_eq_some_iff.mp h
            obtain ⟨x14, ex14, h⟩ := h
            obtain ⟨hkx14, hcall⟩ := tb_on_some ex14
            refine tb_e_cv (v := none) rfl (Or.inl ⟨_, rfl⟩) rfl rfl (Nat.le_of_ble_eq_true rfl) rfl (Nat.le_of_ble_eq_true rfl) hkx14 ((dc_rr_readTest hcall).up (by decide)) ?_
            refine tb_Es (k := 2) (st' := (54, [(0, .ref v0), (1, .int v1)], [.int (-35), .ref v0], x14)) rfl ?_
            replace h := Option.bind_eq_some_iff.mp h
            obtain ⟨x15, ex15, h⟩ := h
            obtain ⟨hkx15, hcall⟩ := tb_on_some ex15
            refine tb_e_cv (v := none) rfl (Or.inl ⟨_, rfl⟩) rfl rfl (Nat.le_of_ble_eq_true rfl) rfl (Nat.le_of_ble_eq_true rfl) hkx15 ((dc_rr_emit hcall).up (by decide)) ?_
            refine tb_Es (k := 2) (st' := (60, [(0, .ref v0), (1, .int v1)], [], x15)) rfl ?_
            exact dj_rr_read_j57 (fl_rr_read_11 n) v0 v1 x15 _ h r hx (fun v0_ v1_ w_ h_ => ih v0_ v1_ w_ _ h_ r hx)
          · rw [if_neg hc] at h
            refine tb_Es (k := 2) (st' := (58, [(0, .ref v0), (1, .int v1)], [.int (-34), .ref v0], x9)) rfl ?_
            replace h := Option.bind_eq_some_iff.mp h
            obtain ⟨x20, ex20, h⟩ := h
            obtain ⟨hkx20, hcall⟩ := tb_on_some ex20
            refine tb_e_cv (v := none) rfl (Or.inl ⟨_, rfl⟩) rfl rfl (Nat.le_of_ble_eq_true rfl) rfl (Nat.le_of_ble_eq_true rfl) hkx20 ((dc_rr_emit hcall).up (by decide)) ?_
            refine tb_Es (k := 1) (st' := (60, [(0, .ref v0), (1, .int v1)], [], x20)) rfl ?_
            exact dj_rr_read_j57 (fl_rr_read_11 n) v0 v1 x20 _ h r hx (fun v0_ v1_ w_ h_ => ih v0_ v1_ w_ _ h_ r hx)
        · rw [if_neg hc] at h
          refine tb_Es (k := 1) (st' := (24, [(0, .ref v0)], [], w)) rfl ?_
          obtain rfl := Option.some.inj h
          exact hx
      · rw [if_neg hc] at h
        refine tb_Es (k := 1) (st' := (24, [(0, .ref v0)], [], w)) rfl ?_
        obtain rfl := Option.some.inj h
        exact hx
    · rw [if_neg hc] at h
      refine tb_Es (k := 1) (st' := (73, [(0, .ref v0)], [], w)) rfl ?_
      obtain rfl := Option.some.inj h
      exact hx
def fj_rr_read_j68 (v0 : Nat) (w : tb_Hp) : Option (Int32 × tb_Hp) := (tb_gN 14 0 v0 w).bind fun p27 => (tb_gI 19 1 p27 w).bind fun x28 => (if x28 = 0 then (tb_gN 14 0 v0 w).bind fun p29 => (tb_gI 19 3 p29 w).bind fun x30 => some (x30, w) else (tb_gN 14 0 v0 w).bind fun p31 => (tb_on 19 p31 w (fb_t_fail p31 0 w)).bind fun x32 => (tb_gN 14 0 v0 x32).bind fun p33 => (tb_gI 19 3 p33 x32).bind fun x34 => some (x34, x32))
set_option maxHeartbeats 4000000 in
set_option maxRecDepth 20000 in
theorem dj_rr_read_j68 (v0 : Nat) (w : tb_Hp) (o : Int32 × tb_Hp) (h : fj_rr_read_j68 v0 w = some o) (r : Option Value × tb_Hp) (hr : r = (some (.int o.1), o.2)) : tb_Ev tb_P 66 48 (73, [(0, .ref v0)], [], w) r := by
  unfold fj_rr_read_j68 at h
  refine tb_Es (k := 1) (st' := (74, [(0, .ref v0)], [.ref v0], w)) rfl ?_
  replace h := Option.bind_eq_some_iff.mp h
  obtain ⟨p27, ep27, h⟩ := h
  refine tb_e_gN rfl ep27 ?_
  replace h := Option.bind_eq_some_iff.mp h
  obtain ⟨x28, ex28, h⟩ := h
  refine tb_e_gI rfl ex28 ?_
  refine tb_b_ieq rfl (fun hc => ?_) (fun hc => ?_)
  · rw [if_pos hc] at h
    refine tb_Es (k := 1) (st' := (82, [(0, .ref v0)], [.ref v0], w)) rfl ?_
    replace h := Option.bind_eq_some_iff.mp h
    obtain ⟨p29, ep29, h⟩ := h
    refine tb_e_gN rfl ep29 ?_
    replace h := Option.bind_eq_some_iff.mp h
    obtain ⟨x30, ex30, h⟩ := h
    refine tb_e_gI rfl ex30 ?_
    obtain rfl := Option.some.inj h
    subst hr
    exact tb_Er rfl rfl
  · rw [if_neg hc] at h
    refine tb_Es (k := 1) (st' := (78, [(0, .ref v0)], [.ref v0], w)) rfl ?_
    replace h := Option.bind_eq_some_iff.mp h
    obtain ⟨p31, ep31, h⟩ := h
    refine tb_e_gN rfl ep31 ?_
    refine tb_Es (k := 1) (st' := (80, [(0, .ref v0)], [.int 0, .ref p31], w)) rfl ?_
    replace h := Option.bind_eq_some_iff.mp h
    obtain ⟨x32, ex32, h⟩ := h
    obtain ⟨hkx32, hcall⟩ := tb_on_some ex32
    refine tb_e_cv (v := none) rfl (Or.inl ⟨_, rfl⟩) rfl rfl (Nat.le_of_ble_eq_true rfl) rfl (Nat.le_of_ble_eq_true rfl) hkx32 ((dc_t_fail hcall).up (by decide)) ?_
    refine tb_Es (k := 1) (st' := (82, [(0, .ref v0)], [.ref v0], x32)) rfl ?_
    replace h := Option.bind_eq_some_iff.mp h
    obtain ⟨p33, ep33, h⟩ := h
    refine tb_e_gN rfl ep33 ?_
    replace h := Option.bind_eq_some_iff.mp h
    obtain ⟨x34, ex34, h⟩ := h
    refine tb_e_gI rfl ex34 ?_
    obtain rfl := Option.some.inj h
    subst hr
    exact tb_Er rfl rfl
def fb_rr_read (a0 : Nat) (w : tb_Hp) : Option (Int32 × tb_Hp) := (tb_pI 14 2 a0 0 w).bind fun w1 => (tb_pI 14 3 a0 0 w1).bind fun w2 => (tb_gN 14 0 a0 w2).bind fun p3 => (tb_on 19 p3 w2 (fb_t_begin p3 w2)).bind fun x4 => (fl_rr_read_11 1048576 a0 0 x4).bind fun o21 => (match o21 with | .inl q22 => (tb_gN 14 0 q22.1 q22.2).bind fun p23 => (tb_gN 14 0 q22.1 q22.2).bind fun p24 => (tb_gI 19 1 p24 q22.2).bind fun x25 => (if x25 = 34 then (tb_on 19 p23 q22.2 (fb_t_fail p23 4 q22.2)).bind fun x26 => fj_rr_read_j68 q22.1 x26 else (tb_on 19 p23 q22.2 (fb_t_fail p23 0 q22.2)).bind fun x35 => fj_rr_read_j68 q22.1 x35) | .inr (.inl q36) => fj_rr_read_j68 q36.1 q36.2 | .inr (.inr q37) => (tb_gN 14 0 q37.1 q37.2).bind fun p38 => (tb_gI 19 1 p38 q37.2).bind fun x39 => (if x39 = 0 then (tb_gN 14 0 q37.1 q37.2).bind fun p40 => (tb_gI 19 3 p40 q37.2).bind fun x41 => some (x41, q37.2) else (tb_gN 14 0 q37.1 q37.2).bind fun p42 => (tb_on 19 p42 q37.2 (fb_t_fail p42 0 q37.2)).bind fun x43 => (tb_gN 14 0 q37.1 x43).bind fun p44 => (tb_gI 19 3 p44 x43).bind fun x45 => some (x45, x43)))
set_option maxHeartbeats 4000000 in
set_option maxRecDepth 20000 in
theorem dc_rr_read {a0 : Nat} {w : tb_Hp} {o : Int32 × tb_Hp} (h : fb_rr_read a0 w = some o) : tb_Ev tb_P 66 48 (0, tb_ent [.ref a0], [], w) (some (.int o.1), o.2) := by
  unfold fb_rr_read at h
  obtain ⟨r, hr⟩ : ∃ r : Option Value × tb_Hp, r = (some (.int o.1), o.2) := ⟨_, rfl⟩
  rw [← hr]
  show tb_Ev tb_P 66 48 (0, [(0, .ref a0)], [], w) r
  refine tb_Es (k := 2) (st' := (2, [(0, .ref a0)], [.int 0, .ref a0], w)) rfl ?_
  replace h := Option.bind_eq_some_iff.mp h
  obtain ⟨w1, ew1, h⟩ := h
  refine tb_e_pI rfl ew1 ?_
  refine tb_Es (k := 2) (st' := (5, [(0, .ref a0)], [.int 0, .ref a0], w1)) rfl ?_
  replace h := Option.bind_eq_some_iff.mp h
  obtain ⟨w2, ew2, h⟩ := h
  refine tb_e_pI rfl ew2 ?_
  refine tb_Es (k := 1) (st' := (7, [(0, .ref a0)], [.ref a0], w2)) rfl ?_
  replace h := Option.bind_eq_some_iff.mp h
  obtain ⟨p3, ep3, h⟩ := h
  refine tb_e_gN rfl ep3 ?_
  replace h := Option.bind_eq_some_iff.mp h
  obtain ⟨x4, ex4, h⟩ := h
  obtain ⟨hkx4, hcall⟩ := tb_on_some ex4
  refine tb_e_cv (v := none) rfl (Or.inl ⟨_, rfl⟩) rfl rfl (Nat.le_of_ble_eq_true rfl) rfl (Nat.le_of_ble_eq_true rfl) hkx4 ((dc_t_begin hcall).up (by decide)) ?_
  refine tb_Es (k := 3) (st' := (12, [(0, .ref a0), (1, .int 0)], [], x4)) rfl ?_
  replace h := Option.bind_eq_some_iff.mp h
  obtain ⟨o21, eo21, h⟩ := h
  refine dl_rr_read_11 _ a0 0 x4 _ eo21 r ?_
  rcases o21 with q22 | q36 | q37
  · dsimp only at h
    try simp only [Sum.elim_inl, Sum.elim_inr]
    refine tb_Es (k := 1) (st' := (25, [(0, .ref q22.1)], [.ref q22.1], q22.2)) rfl ?_
    replace h := Option.bind_eq_some_iff.mp h
    obtain ⟨p23, ep23, h⟩ := h
    refine tb_e_gN rfl ep23 ?_
    refine tb_Es (k := 1) (st' := (27, [(0, .ref q22.1)], [.ref q22.1, .ref p23], q22.2)) rfl ?_
    replace h := Option.bind_eq_some_iff.mp h
    obtain ⟨p24, ep24, h⟩ := h
    refine tb_e_gN rfl ep24 ?_
    replace h := Option.bind_eq_some_iff.mp h
    obtain ⟨x25, ex25, h⟩ := h
    refine tb_e_gI rfl ex25 ?_
    refine tb_Es (k := 1) (st' := (30, [(0, .ref q22.1)], [.int 34, .int x25, .ref p23], q22.2)) rfl ?_
    refine tb_b_ceq rfl (fun hc => ?_) (fun hc => ?_)
    · rw [if_pos hc] at h
      refine tb_Es (k := 1) (st' := (34, [(0, .ref q22.1)], [.int 4, .ref p23], q22.2)) rfl ?_
      replace h := Option.bind_eq_some_iff.mp h
      obtain ⟨x26, ex26, h⟩ := h
      obtain ⟨hkx26, hcall⟩ := tb_on_some ex26
      refine tb_e_cv (v := none) rfl (Or.inl ⟨_, rfl⟩) rfl rfl (Nat.le_of_ble_eq_true rfl) rfl (Nat.le_of_ble_eq_true rfl) hkx26 ((dc_t_fail hcall).up (by decide)) ?_
      refine tb_Es (k := 2) (st' := (73, [(0, .ref q22.1)], [], x26)) rfl ?_
      exact dj_rr_read_j68 q22.1 x26 _ h r hr
    · rw [if_neg hc] at h
      refine tb_Es (k := 2) (st' := (34, [(0, .ref q22.1)], [.int 0, .ref p23], q22.2)) rfl ?_
      replace h := Option.bind_eq_some_iff.mp h
      obtain ⟨x35, ex35, h⟩ := h
      obtain ⟨hkx35, hcall⟩ := tb_on_some ex35
      refine tb_e_cv (v := none) rfl (Or.inl ⟨_, rfl⟩) rfl rfl (Nat.le_of_ble_eq_true rfl) rfl (Nat.le_of_ble_eq_true rfl) hkx35 ((dc_t_fail hcall).up (by decide)) ?_
      refine tb_Es (k := 2) (st' := (73, [(0, .ref q22.1)], [], x35)) rfl ?_
      exact dj_rr_read_j68 q22.1 x35 _ h r hr
  · dsimp only at h
    try simp only [Sum.elim_inl, Sum.elim_inr]
    refine tb_Es (k := 2) (st' := (73, [(0, .ref q36.1)], [], q36.2)) rfl ?_
    exact dj_rr_read_j68 q36.1 q36.2 _ h r hr
  · dsimp only at h
    try simp only [Sum.elim_inl, Sum.elim_inr]
    refine tb_Es (k := 1) (st' := (74, [(0, .ref q37.1)], [.ref q37.1], q37.2)) rfl ?_
    replace h := Option.bind_eq_some_iff.mp h
    obtain ⟨p38, ep38, h⟩ := h
    refine tb_e_gN rfl ep38 ?_
    replace h := Option.bind_eq_some_iff.mp h
    obtain ⟨x39, ex39, h⟩ := h
    refine tb_e_gI rfl ex39 ?_
    refine tb_b_ieq rfl (fun hc => ?_) (fun hc => ?_)
    · rw [if_pos hc] at h
      refine tb_Es (k := 1) (st' := (82, [(0, .ref q37.1)], [.ref q37.1], q37.2)) rfl ?_
      replace h := Option.bind_eq_some_iff.mp h
      obtain ⟨p40, ep40, h⟩ := h
      refine tb_e_gN rfl ep40 ?_
      replace h := Option.bind_eq_some_iff.mp h
      obtain ⟨x41, ex41, h⟩ := h
      refine tb_e_gI rfl ex41 ?_
      obtain rfl := Option.some.inj h
      subst hr
      exact tb_Er rfl rfl
    · rw [if_neg hc] at h
      refine tb_Es (k := 1) (st' := (78, [(0, .ref q37.1)], [.ref q37.1], q37.2)) rfl ?_
      replace h := Option.bind_eq_some_iff.mp h
      obtain ⟨p42, ep42, h⟩ := h
      refine tb_e_gN rfl ep42 ?_
      refine tb_Es (k := 1) (st' := (80, [(0, .ref q37.1)], [.int 0, .ref p42], q37.2)) rfl ?_
      replace h := Option.bind_eq_some_iff.mp h
      obtain ⟨x43, ex43, h⟩ := h
      obtain ⟨hkx43, hcall⟩ := tb_on_some ex43
      refine tb_e_cv (v := none) rfl (Or.inl ⟨_, rfl⟩) rfl rfl (Nat.le_of_ble_eq_true rfl) rfl (Nat.le_of_ble_eq_true rfl) hkx43 ((dc_t_fail hcall).up (by decide)) ?_
      refine tb_Es (k := 1) (st' := (82, [(0, .ref q37.1)], [.ref q37.1], x43)) rfl ?_
      replace h := Option.bind_eq_some_iff.mp h
      obtain ⟨p44, ep44, h⟩ := h
      refine tb_e_gN rfl ep44 ?_
      replace h := Option.bind_eq_some_iff.mp h
      obtain ⟨x45, ex45, h⟩ := h
      refine tb_e_gI rfl ex45 ?_
      obtain rfl := Option.some.inj h
      subst hr
      exact tb_Er rfl rfl
/-! TannerBunting.rule()I -/
def fb_x_rule (a0 : Nat) (w : tb_Hp) : Option (Int32 × tb_Hp) := (tb_gI 21 4 a0 w).bind fun x1 => (if x1 < 0 then some (-1, w) else (tb_gI 21 4 a0 w).bind fun x2 => (tb_gN 21 3 a0 w).bind fun p3 => (tb_al p3 w).bind fun x4 => (if x2 < x4 then (tb_gN 21 2 a0 w).bind fun p5 => (tb_on 14 p5 w (fb_rr_read p5 w)).bind fun x6 => (tb_gN 21 0 a0 x6.2).bind fun p7 => (tb_pI 19 0 p7 0 x6.2).bind fun w8 => (if x6.1 = 0 then (tb_gN 21 3 a0 w8).bind fun p9 => (tb_gI 21 4 a0 w8).bind fun x10 => (tb_gN 21 2 a0 w8).bind fun p11 => (tb_on 14 p11 w8 (fb_rr_copyOfCode p11 w8)).bind fun x12 => (tb_tR tb_P.2.2.1 p9 x10 x12.1 x12.2).bind fun w13 => (tb_gI 21 4 a0 w13).bind fun x14 => (tb_pI 21 4 a0 (x14 + 1) w13).bind fun w15 => (tb_gI 21 4 a0 w15).bind fun x16 => some (x16 - 1, w15) else some ((-2) - x6.1, w8)) else some (-1, w)))
set_option maxHeartbeats 4000000 in
set_option maxRecDepth 20000 in
theorem dc_x_rule {a0 : Nat} {w : tb_Hp} {o : Int32 × tb_Hp} (h : fb_x_rule a0 w = some o) : tb_Ev tb_P 67 47 (0, tb_ent [.ref a0], [], w) (some (.int o.1), o.2) := by
  unfold fb_x_rule at h
  obtain ⟨r, hr⟩ : ∃ r : Option Value × tb_Hp, r = (some (.int o.1), o.2) := ⟨_, rfl⟩
  rw [← hr]
  show tb_Ev tb_P 67 47 (0, [(0, .ref a0)], [], w) r
  refine tb_Es (k := 1) (st' := (1, [(0, .ref a0)], [.ref a0], w)) rfl ?_
  replace h := Option.bind_eq_some_iff.mp h
  obtain ⟨x1, ex1, h⟩ := h
  refine tb_e_gI rfl ex1 ?_
  refine tb_b_ilt rfl (fun hc => ?_) (fun hc => ?_)
  · rw [if_pos hc] at h
    refine tb_Es (k := 1) (st' := (10, [(0, .ref a0)], [.int (-1)], w)) rfl ?_
    obtain rfl := Option.some.inj h
    subst hr
    exact tb_Er rfl rfl
  · rw [if_neg hc] at h
    refine tb_Es (k := 1) (st' := (4, [(0, .ref a0)], [.ref a0], w)) rfl ?_
    replace h := Option.bind_eq_some_iff.mp h
    obtain ⟨x2, ex2, h⟩ := h
    refine tb_e_gI rfl ex2 ?_
    refine tb_Es (k := 1) (st' := (6, [(0, .ref a0)], [.ref a0, .int x2], w)) rfl ?_
    replace h := Option.bind_eq_some_iff.mp h
    obtain ⟨p3, ep3, h⟩ := h
    refine tb_e_gN rfl ep3 ?_
    replace h := Option.bind_eq_some_iff.mp h
    obtain ⟨x4, ex4, h⟩ := h
    refine tb_e_al rfl ex4 ?_
    refine tb_b_clt rfl (fun hc => ?_) (fun hc => ?_)
    · rw [if_pos hc] at h
      refine tb_Es (k := 1) (st' := (12, [(0, .ref a0)], [.ref a0], w)) rfl ?_
      replace h := Option.bind_eq_some_iff.mp h
      obtain ⟨p5, ep5, h⟩ := h
      refine tb_e_gN rfl ep5 ?_
      replace h := Option.bind_eq_some_iff.mp h
      obtain ⟨x6, ex6, h⟩ := h
      obtain ⟨hkx6, hcall⟩ := tb_on_some ex6
      refine tb_e_cv (v := some (.int x6.1)) rfl (Or.inl ⟨_, rfl⟩) rfl rfl (Nat.le_of_ble_eq_true rfl) rfl (Nat.le_of_ble_eq_true rfl) hkx6 ((dc_rr_read hcall).up (by decide)) ?_
      refine tb_Es (k := 2) (st' := (16, [(1, .int x6.1), (0, .ref a0)], [.ref a0], x6.2)) rfl ?_
      replace h := Option.bind_eq_some_iff.mp h
      obtain ⟨p7, ep7, h⟩ := h
      refine tb_e_gN rfl ep7 ?_
      refine tb_Es (k := 1) (st' := (18, [(1, .int x6.1), (0, .ref a0)], [.int 0, .ref p7], x6.2)) rfl ?_
      replace h := Option.bind_eq_some_iff.mp h
      obtain ⟨w8, ew8, h⟩ := h
      refine tb_e_pI rfl ew8 ?_
      refine tb_Es (k := 1) (st' := (20, [(1, .int x6.1), (0, .ref a0)], [.int x6.1], w8)) rfl ?_
      refine tb_b_ieq rfl (fun hc => ?_) (fun hc => ?_)
      · rw [if_pos hc] at h
        refine tb_Es (k := 1) (st' := (26, [(1, .int x6.1), (0, .ref a0)], [.ref a0], w8)) rfl ?_
        replace h := Option.bind_eq_some_iff.mp h
        obtain ⟨p9, ep9, h⟩ := h
        refine tb_e_gN rfl ep9 ?_
        refine tb_Es (k := 1) (st' := (28, [(1, .int x6.1), (0, .ref a0)], [.ref a0, .ref p9], w8)) rfl ?_
        replace h := Option.bind_eq_some_iff.mp h
        obtain ⟨x10, ex10, h⟩ := h
        refine tb_e_gI rfl ex10 ?_
        refine tb_Es (k := 1) (st' := (30, [(1, .int x6.1), (0, .ref a0)], [.ref a0, .int x10, .ref p9], w8)) rfl ?_
        replace h := Option.bind_eq_some_iff.mp h
        obtain ⟨p11, ep11, h⟩ := h
        refine tb_e_gN rfl ep11 ?_
        replace h := Option.bind_eq_some_iff.mp h
        obtain ⟨x12, ex12, h⟩ := h
        obtain ⟨hkx12, hcall⟩ := tb_on_some ex12
        refine tb_e_cv (v := some (.ref x12.1)) rfl (Or.inl ⟨_, rfl⟩) rfl rfl (Nat.le_of_ble_eq_true rfl) rfl (Nat.le_of_ble_eq_true rfl) hkx12 ((dc_rr_copyOfCode hcall).up (by decide)) ?_
        replace h := Option.bind_eq_some_iff.mp h
        obtain ⟨w13, ew13, h⟩ := h
        refine tb_e_tR rfl ew13 ?_
        refine tb_Es (k := 2) (st' := (35, [(1, .int x6.1), (0, .ref a0)], [.ref a0, .ref a0], w13)) rfl ?_
        replace h := Option.bind_eq_some_iff.mp h
        obtain ⟨x14, ex14, h⟩ := h
        refine tb_e_gI rfl ex14 ?_
        refine tb_Es (k := 2) (st' := (38, [(1, .int x6.1), (0, .ref a0)], [.int (x14 + 1), .ref a0], w13)) rfl ?_
        replace h := Option.bind_eq_some_iff.mp h
        obtain ⟨w15, ew15, h⟩ := h
        refine tb_e_pI rfl ew15 ?_
        refine tb_Es (k := 1) (st' := (40, [(1, .int x6.1), (0, .ref a0)], [.ref a0], w15)) rfl ?_
        replace h := Option.bind_eq_some_iff.mp h
        obtain ⟨x16, ex16, h⟩ := h
        refine tb_e_gI rfl ex16 ?_
        refine tb_Es (k := 2) (st' := (43, [(1, .int x6.1), (0, .ref a0)], [.int (x16 - 1)], w15)) rfl ?_
        obtain rfl := Option.some.inj h
        subst hr
        exact tb_Er rfl rfl
      · rw [if_neg hc] at h
        refine tb_Es (k := 3) (st' := (24, [(1, .int x6.1), (0, .ref a0)], [.int ((-2) - x6.1)], w8)) rfl ?_
        obtain rfl := Option.some.inj h
        subst hr
        exact tb_Er rfl rfl
    · rw [if_neg hc] at h
      refine tb_Es (k := 1) (st' := (10, [(0, .ref a0)], [.int (-1)], w)) rfl ?_
      obtain rfl := Option.some.inj h
      subst hr
      exact tb_Er rfl rfl
