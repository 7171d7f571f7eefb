/-! TannerBuntingModel.areAllSo(II)Z -/
def fj_m_areAllSo_j19 (k : Nat → Int32 → Int32 → Int32 → Int32 → tb_Hp → Option (Int32 × tb_Hp)) (v0 : Nat) (v1 : Int32) (v2 : Int32) (v4 : Int32) (s0 : Int32) (w : tb_Hp) : Option (Int32 × tb_Hp) := (if v4 = v2 then (tb_gN 22 30 v0 w).bind fun p2 => (tb_on 22 v0 w (fb_m_standingOnes v0 w)).bind fun x3 => (tb_tI p2 v1 x3.1 x3.2).bind fun w4 => k v0 v1 v2 s0 (v4 + 1) w4 else k v0 v1 v2 s0 (v4 + 1) w)
set_option maxHeartbeats 4000000 in
set_option maxRecDepth 20000 in
theorem dj_m_areAllSo_j19 (k : Nat → Int32 → Int32 → Int32 → Int32 → tb_Hp → Option (Int32 × tb_Hp)) (v0 : Nat) (v1 : Int32) (v2 : Int32) (v4 : Int32) (s0 : Int32) (w : tb_Hp) (o : Int32 × tb_Hp) (h : fj_m_areAllSo_j19 k v0 v1 v2 v4 s0 w = some o) (r : Option Value × tb_Hp) (hx : tb_Ev tb_P 7 288 (34, [(3, .int o.1)], [], o.2) r) (hk : ∀ (v0 : Nat) (v1 : Int32) (v2 : Int32) (v3 : Int32) (v4 : Int32) (w : tb_Hp), k v0 v1 v2 v3 v4 w = some o → tb_Ev tb_P 7 288 (5, [(0, .ref v0), (1, .int v1), (2, .int v2), (3, .int v3), (4, .int v4)], [], w) r) : tb_Ev tb_P 7 288 (21, [(0, .ref v0), (1, .int v1), (2, .int v2), (4, .int v4)], [.int s0], w) r := by
  unfold fj_m_areAllSo_j19 at h
  refine tb_Es (k := 3) (st' := (24, [(3, .int s0), (0, .ref v0), (1, .int v1), (2, .int v2), (4, .int v4)], [.int v2, .int v4], w)) rfl ?_
  refine tb_b_cne rfl (fun hc => ?_) (fun hc => ?_)
  · rw [if_pos hc] at h
    refine tb_Es (k := 1) (st' := (26, [(3, .int s0), (0, .ref v0), (1, .int v1), (2, .int v2), (4, .int v4)], [.ref v0], w)) rfl ?_
    replace h := Option.bind_eq_some_iff.mp h
    obtain ⟨p2, ep2, h⟩ := h
    refine tb_e_gN rfl ep2 ?_
    refine tb_Es (k := 2) (st' := (29, [(3, .int s0), (0, .ref v0), (1, .int v1), (2, .int v2), (4, .int v4)], [.ref v0, .int v1, .ref p2], w)) rfl ?_
    replace h := Option.bind_eq_some_iff.mp h
    obtain ⟨x3, ex3, h⟩ := h
    obtain ⟨hkx3, hcall⟩ := tb_on_some ex3
    refine tb_e_cv (v := some (.int x3.1)) rfl (Or.inl ⟨_, rfl⟩) rfl rfl (Nat.le_of_ble_eq_true rfl) rfl (Nat.le_of_ble_eq_true rfl) hkx3 ((dc_m_standingOnes hcall).up (by decide)) ?_
    replace h := Option.bind_eq_some_iff.mp h
    obtain ⟨w4, ew4, h⟩ := h
    refine tb_e_tI rfl ew4 ?_
    refine tb_Es (k := 3) (st' := (5, [(0, .ref v0), (1, .int v1), (2, .int v2), (3, .int s0), (4, .int (v4 + 1))], [], w4)) rfl ?_
    exact hk v0 v1 v2 s0 (v4 + 1) w4 h
  · rw [if_neg hc] at h
    refine tb_Es (k := 3) (st' := (5, [(0, .ref v0), (1, .int v1), (2, .int v2), (3, .int s0), (4, .int (v4 + 1))], [], w)) rfl ?_
    exact hk v0 v1 v2 s0 (v4 + 1) w h
def fl_m_areAllSo_4 : Nat → Nat → Int32 → Int32 → Int32 → Int32 → tb_Hp → Option (Int32 × tb_Hp)
  | 0, _, _, _, _, _, _ => none
  | n + 1, v0, v1, v2, v3, v4, w => (if v4 ≤ 60 then (tb_on 22 v0 w (fb_m_passes v0 w)).bind fun x1 => (if v3 = 0 then fj_m_areAllSo_j19 (fl_m_areAllSo_4 n) v0 v1 v2 v4 0 x1.2 else (tb_on 22 v0 x1.2 (fb_m_areNotesSo v0 v4 x1.2)).bind fun x5 => (if x5.1 = 0 then fj_m_areAllSo_j19 (fl_m_areAllSo_4 n) v0 v1 v2 v4 0 x5.2 else fj_m_areAllSo_j19 (fl_m_areAllSo_4 n) v0 v1 v2 v4 1 x5.2)) else some ((v3, w)))
set_option maxHeartbeats 4000000 in
set_option maxRecDepth 20000 in
theorem dl_m_areAllSo_4 : ∀ (n : Nat) (v0 : Nat) (v1 : Int32) (v2 : Int32) (v3 : Int32) (v4 : Int32) (w : tb_Hp) (o : Int32 × tb_Hp), fl_m_areAllSo_4 n v0 v1 v2 v3 v4 w = some o → ∀ (r : Option Value × tb_Hp), tb_Ev tb_P 7 288 (34, [(3, .int o.1)], [], o.2) r → tb_Ev tb_P 7 288 (5, [(0, .ref v0), (1, .int v1), (2, .int v2), (3, .int v3), (4, .int v4)], [], w) r := by
  intro n
  induction n with
  | zero =>
    intro v0 v1 v2 v3 v4 w o h
    cases h
  | succ n ih =>
    intro v0 v1 v2 v3 v4 w o h r hx
    unfold fl_m_areAllSo_4 at h
    refine tb_Es (k := 2) (st' := (7, [(0, .ref v0), (1, .int v1), (2, .int v2), (3, .int v3), (4, .int v4)], [.int 60, .int v4], w)) rfl ?_
    refine tb_b_cgt rfl (fun hc => ?_) (fun hc => ?_)
    · rw [if_pos hc] at h
      refine tb_Es (k := 1) (st' := (9, [(0, .ref v0), (1, .int v1), (2, .int v2), (3, .int v3), (4, .int v4)], [.ref v0], w)) rfl ?_
      replace h := Option.bind_eq_some_iff.mp h
      obtain ⟨x1, ex1, h⟩ := h
      obtain ⟨hkx1, hcall⟩ := tb_on_some ex1
      refine tb_e_cv (v := some (.int x1.1)) rfl (Or.inl ⟨_, rfl⟩) rfl rfl (Nat.le_of_ble_eq_true rfl) rfl (Nat.le_of_ble_eq_true rfl) hkx1 ((dc_m_passes hcall).up (by decide)) ?_
      refine tb_Es (k := 2) (st' := (12, [(0, .ref v0), (1, .int v1), (2, .int v2), (3, .int v3), (4, .int v4)], [.int v3], x1.2)) rfl ?_
      refine tb_b_ieq rfl (fun hc => ?_) (fun hc => ?_)
      · rw [if_pos hc] at h
        refine tb_Es (k := 2) (st' := (21, [(0, .ref v0), (1, .int v1), (2, .int v2), (4, .int v4)], [.int 0], x1.2)) rfl ?_
        exact dj_m_areAllSo_j19 (fl_m_areAllSo_4 n) v0 v1 v2 v4 0 x1.2 _ h r hx (fun v0_ v1_ v2_ v3_ v4_ w_ h_ => ih v0_ v1_ v2_ v3_ v4_ w_ _ h_ r hx)
      · rw [if_neg hc] at h
        refine tb_Es (k := 2) (st' := (15, [(0, .ref v0), (1, .int v1), (2, .int v2), (3, .int v3), (4, .int v4)], [.int v4, .ref v0], x1.2)) rfl ?_
        replace h := Option.bind_eq_some_iff.mp h
        obtain ⟨x5, ex5, h⟩ := h
        obtain ⟨hkx5, hcall⟩ := tb_on_some ex5
        refine tb_e_cv (v := some (.int x5.1)) rfl (Or.inl ⟨_, rfl⟩) rfl rfl (Nat.le_of_ble_eq_true rfl) rfl (Nat.le_of_ble_eq_true rfl) hkx5 ((dc_m_areNotesSo hcall).up (by decide)) ?_
        refine tb_b_ieq rfl (fun hc => ?_) (fun hc => ?_)
        · rw [if_pos hc] at h
          refine tb_Es (k := 2) (st' := (21, [(0, .ref v0), (1, .int v1), (2, .int v2), (4, .int v4)], [.int 0], x5.2)) rfl ?_
          exact dj_m_areAllSo_j19 (fl_m_areAllSo_4 n) v0 v1 v2 v4 0 x5.2 _ h r hx (fun v0_ v1_ v2_ v3_ v4_ w_ h_ => ih v0_ v1_ v2_ v3_ v4_ w_ _ h_ r hx)
        · rw [if_neg hc] at h
          refine tb_Es (k := 3) (st' := (21, [(0, .ref v0), (1, .int v1), (2, .int v2), (4, .int v4)], [.int 1], x5.2)) rfl ?_
          exact dj_m_areAllSo_j19 (fl_m_areAllSo_4 n) v0 v1 v2 v4 1 x5.2 _ h r hx (fun v0_ v1_ v2_ v3_ v4_ w_ h_ => ih v0_ v1_ v2_ v3_ v4_ w_ _ h_ r hx)
    · rw [if_neg hc] at h
      refine tb_Es (k := 1) (st' := (34, [(3, .int v3)], [], w)) rfl ?_
      obtain rfl := Option.some.inj h
      exact hx
def fb_m_areAllSo (a0 : Nat) (a1 : Int32) (a2 : Int32) (w : tb_Hp) : Option (Int32 × tb_Hp) := (fl_m_areAllSo_4 1048576 a0 a1 a2 1 0 w).bind fun o6 => tb_z o6.1 o6.2
set_option maxHeartbeats 4000000 in
set_option maxRecDepth 20000 in
theorem dc_m_areAllSo {a0 : Nat} {a1 : Int32} {a2 : Int32} {w : tb_Hp} {o : Int32 × tb_Hp} (h : fb_m_areAllSo a0 a1 a2 w = some o) : tb_Ev tb_P 7 288 (0, tb_ent [.ref a0, .int a1, .int a2], [], w) (some (.int o.1), o.2) := by
  unfold fb_m_areAllSo at h
  obtain ⟨r, hr⟩ : ∃ r : Option Value × tb_Hp, r = (some (.int o.1), o.2) := ⟨_, rfl⟩
  rw [← hr]
  show tb_Ev tb_P 7 288 (0, [(0, .ref a0), (1, .int a1), (2, .int a2)], [], w) r
  refine tb_Es (k := 5) (st' := (5, [(0, .ref a0), (1, .int a1), (2, .int a2), (3, .int 1), (4, .int 0)], [], w)) rfl ?_
  replace h := Option.bind_eq_some_iff.mp h
  obtain ⟨o6, eo6, h⟩ := h
  refine dl_m_areAllSo_4 _ a0 a1 a2 1 0 w _ eo6 r ?_
  refine tb_Es (k := 1) (st' := (35, [(3, .int o6.1)], [.int o6.1], o6.2)) rfl ?_
  subst hr
  exact tb_r_z rfl h
/-! TannerBuntingModel.winters(IIII)I -/
def fl_m_winters_47 : Nat → Nat → Int32 → Int32 → Int32 → Int32 → Int32 → Int32 → Int32 → Int32 → tb_Hp → Option (Nat × Int32 × Int32 × Int32 × Int32 × Int32 × Int32 × Int32 × tb_Hp)
  | 0, _, _, _, _, _, _, _, _, _, _ => none
  | n + 1, v0, v1, v2, v3, v4, v5, v6, v7, v8, w => (if v8 < v2 then (tb_on 22 v0 w (fb_m_draw v0 100 w)).bind fun x9 => (if x9.1 < v3 then (tb_gN 22 20 v0 x9.2).bind fun p10 => (tb_on 22 v0 x9.2 (fb_m_houses v0 x9.2)).bind fun x11 => (tb_on 22 v0 x11.2 (fb_m_draw v0 x11.1 x11.2)).bind fun x12 => (tb_lI [1, 9] p10 (12 + x12.1) x12.2).bind fun x13 => (tb_tI p10 (12 + x12.1) (x13 + 1) x12.2).bind fun w14 => (tb_on 22 v0 w14 (fb_m_passes v0 w14)).bind fun x15 => fl_m_winters_47 n v0 v1 v2 v3 v4 v5 v6 v7 (v8 + 1) x15.2 else (tb_on 22 v0 x9.2 (fb_m_passes v0 x9.2)).bind fun x16 => fl_m_winters_47 n v0 v1 v2 v3 v4 v5 v6 v7 (v8 + 1) x16.2) else some ((v0, v1, v2, v3, v4, v5, v6, v7, w)))
set_option maxHeartbeats 4000000 in
set_option maxRecDepth 20000 in
theorem dl_m_winters_47 : ∀ (n : Nat) (v0 : Nat) (v1 : Int32) (v2 : Int32) (v3 : Int32) (v4 : Int32) (v5 : Int32) (v6 : Int32) (v7 : Int32) (v8 : Int32) (w : tb_Hp) (o : Nat × Int32 × Int32 × Int32 × Int32 × Int32 × Int32 × Int32 × tb_Hp), fl_m_winters_47 n v0 v1 v2 v3 v4 v5 v6 v7 v8 w = some o → ∀ (r : Option Value × tb_Hp), tb_Ev tb_P 7 294 (76, [(0, .ref o.1), (1, .int o.2.1), (2, .int o.2.2.1), (3, .int o.2.2.2.1), (4, .int o.2.2.2.2.1), (5, .int o.2.2.2.2.2.1), (6, .int o.2.2.2.2.2.2.1), (7, .int o.2.2.2.2.2.2.2.1)], [], o.2.2.2.2.2.2.2.2) r → tb_Ev tb_P 7 294 (49, [(0, .ref v0), (1, .int v1), (2, .int v2), (3, .int v3), (4, .int v4), (5, .int v5), (6, .int v6), (7, .int v7), (8, .int v8)], [], w) r := by
  intro n
  induction n with
  | zero =>
    intro v0 v1 v2 v3 v4 v5 v6 v7 v8 w o h
    cases h
  | succ n ih =>
    intro v0 v1 v2 v3 v4 v5 v6 v7 v8 w o h r hx
    unfold fl_m_winters_47 at h
    refine tb_Es (k := 2) (st' := (51, [(0, .ref v0), (1, .int v1), (2, .int v2), (3, .int v3), (4, .int v4), (5, .int v5), (6, .int v6), (7, .int v7), (8, .int v8)], [.int v2, .int v8], w)) rfl ?_
    refine tb_b_cge rfl (fun hc => ?_) (fun hc => ?_)
    · rw [if_pos hc] at h
      refine tb_Es (k := 2) (st' := (54, [(0, .ref v0), (1, .int v1), (2, .int v2), (3, .int v3), (4, .int v4), (5, .int v5), (6, .int v6), (7, .int v7), (8, .int v8)], [.int 100, .ref v0], w)) rfl ?_
      replace h := Option.bind_eq_some_iff.mp h
      obtain ⟨x9, ex9, h⟩ := h
      obtain ⟨hkx9, hcall⟩ := tb_on_some ex9
      refine tb_e_cv (v := some (.int x9.1)) rfl (Or.inl ⟨_, rfl⟩) rfl rfl (Nat.le_of_ble_eq_true rfl) rfl (Nat.le_of_ble_eq_true rfl) hkx9 ((dc_m_draw hcall).up (by decide)) ?_
      refine tb_Es (k := 1) (st' := (56, [(0, .ref v0), (1, .int v1), (2, .int v2), (3, .int v3), (4, .int v4), (5, .int v5), (6, .int v6), (7, .int v7), (8, .int v8)], [.int v3, .int x9.1], x9.2)) rfl ?_
      refine tb_b_cge rfl (fun hc => ?_) (fun hc => ?_)
      · rw [if_pos hc] at h
        refine tb_Es (k := 1) (st' := (58, [(0, .ref v0), (1, .int v1), (2, .int v2), (3, .int v3), (4, .int v4), (5, .int v5), (6, .int v6), (7, .int v7), (8, .int v8)], [.ref v0], x9.2)) rfl ?_
        replace h := Option.bind_eq_some_iff.mp h
        obtain ⟨p10, ep10, h⟩ := h
        refine tb_e_gN rfl ep10 ?_
        refine tb_Es (k := 3) (st' := (62, [(0, .ref v0), (1, .int v1), (2, .int v2), (3, .int v3), (4, .int v4), (5, .int v5), (6, .int v6), (7, .int v7), (8, .int v8)], [.ref v0, .ref v0, .int 12, .ref p10], x9.2)) rfl ?_
        replace h := Option.bind_eq_some_iff.mp h
        obtain ⟨x11, ex11, h⟩ := h
        obtain ⟨hkx11, hcall⟩ := tb_on_some ex11
        refine tb_e_cv (v := some (.int x11.1)) rfl (Or.inl ⟨_, rfl⟩) rfl rfl (Nat.le_of_ble_eq_true rfl) rfl (Nat.le_of_ble_eq_true rfl) hkx11 ((dc_m_houses hcall).up (by decide)) ?_
        replace h := Option.bind_eq_some_iff.mp h
        obtain ⟨x12, ex12, h⟩ := h
        obtain ⟨hkx12, hcall⟩ := tb_on_some ex12
        refine tb_e_cv (v := some (.int x12.1)) rfl (Or.inl ⟨_, rfl⟩) rfl rfl (Nat.le_of_ble_eq_true rfl) rfl (Nat.le_of_ble_eq_true rfl) hkx12 ((dc_m_draw hcall).up (by decide)) ?_
        refine tb_Es (k := 2) (st' := (66, [(0, .ref v0), (1, .int v1), (2, .int v2), (3, .int v3), (4, .int v4), (5, .int v5), (6, .int v6), (7, .int v7), (8, .int v8)], [.int (12 + x12.1), .ref p10, .int (12 + x12.1), .ref p10], x12.2)) rfl ?_
        replace h := Option.bind_eq_some_iff.mp h
        obtain ⟨x13, ex13, h⟩ := h
        refine tb_e_lI rfl (Or.inl ⟨rfl, rfl⟩) ex13 ?_
        refine tb_Es (k := 2) (st' := (69, [(0, .ref v0), (1, .int v1), (2, .int v2), (3, .int v3), (4, .int v4), (5, .int v5), (6, .int v6), (7, .int v7), (8, .int v8)], [.int (x13 + 1), .int (12 + x12.1), .ref p10], x12.2)) rfl ?_
        replace h := Option.bind_eq_some_iff.mp h
        obtain ⟨w14, ew14, h⟩ := h
        refine tb_e_tI rfl ew14 ?_
        refine tb_Es (k := 1) (st' := (71, [(0, .ref v0), (1, .int v1), (2, .int v2), (3, .int v3), (4, .int v4), (5, .int v5), (6, .int v6), (7, .int v7), (8, .int v8)], [.ref v0], w14)) rfl ?_
        replace h := Option.bind_eq_some_iff.mp h
        obtain ⟨x15, ex15, h⟩ := h
        obtain ⟨hkx15, hcall⟩ := tb_on_some ex15
        refine tb_e_cv (v := some (.int x15.1)) rfl (Or.inl ⟨_, rfl⟩) rfl rfl (Nat.le_of_ble_eq_true rfl) rfl (Nat.le_of_ble_eq_true rfl) hkx15 ((dc_m_passes hcall).up (by decide)) ?_
        refine tb_Es (k := 4) (st' := (49, [(0, .ref v0), (1, .int v1), (2, .int v2), (3, .int v3), (4, .int v4), (5, .int v5), (6, .int v6), (7, .int v7), (8, .int (v8 + 1))], [], x15.2)) rfl ?_
        exact ih v0 v1 v2 v3 v4 v5 v6 v7 (v8 + 1) x15.2 _ h r hx
      · rw [if_neg hc] at h
        refine tb_Es (k := 1) (st' := (71, [(0, .ref v0), (1, .int v1), (2, .int v2), (3, .int v3), (4, .int v4), (5, .int v5), (6, .int v6), (7, .int v7), (8, .int v8)], [.ref v0], x9.2)) rfl ?_
        replace h := Option.bind_eq_some_iff.mp h
        obtain ⟨x16, ex16, h⟩ := h
        obtain ⟨hkx16, hcall⟩ := tb_on_some ex16
        refine tb_e_cv (v := some (.int x16.1)) rfl (Or.inl ⟨_, rfl⟩) rfl rfl (Nat.le_of_ble_eq_true rfl) rfl (Nat.le_of_ble_eq_true rfl) hkx16 ((dc_m_passes hcall).up (by decide)) ?_
        refine tb_Es (k := 4) (st' := (49, [(0, .ref v0), (1, .int v1), (2, .int v2), (3, .int v3), (4, .int v4), (5, .int v5), (6, .int v6), (7, .int v7), (8, .int (v8 + 1))], [], x16.2)) rfl ?_
        exact ih v0 v1 v2 v3 v4 v5 v6 v7 (v8 + 1) x16.2 _ h r hx
    · rw [if_neg hc] at h
      refine tb_Es (k := 1) (st' := (76, [(0, .ref v0), (1, .int v1), (2, .int v2), (3, .int v3), (4, .int v4), (5, .int v5), (6, .int v6), (7, .int v7)], [], w)) rfl ?_
      obtain rfl := Option.some.inj h
      exact hx
def fl_m_winters_42 : Nat → Nat → Int32 → Int32 → Int32 → Int32 → Int32 → Int32 → Int32 → tb_Hp → Option (Int32 × Int32 × Int32 × tb_Hp)
  | 0, _, _, _, _, _, _, _, _, _ => none
  | n + 1, v0, v1, v2, v3, v4, v5, v6, v7, w => (if v7 < v1 then (fl_m_winters_47 1048576 v0 v1 v2 v3 v4 v5 v6 v7 0 w).bind fun o17 => (tb_on 22 o17.1 o17.2.2.2.2.2.2.2.2 (fb_m_standingOnes o17.1 o17.2.2.2.2.2.2.2.2)).bind fun x18 => (fb_m_bits x18.1 x18.2).bind fun x19 => (tb_on 22 o17.1 x19.2 (fb_m_linesUp o17.1 x19.2)).bind fun x20 => (fb_m_bits x20.1 x20.2).bind fun x21 => (tb_on 22 o17.1 x21.2 (fb_m_laysBack o17.1 x21.2)).bind fun x22 => fl_m_winters_42 n o17.1 o17.2.1 o17.2.2.1 o17.2.2.2.1 o17.2.2.2.2.1 (o17.2.2.2.2.2.1 + x19.1) (o17.2.2.2.2.2.2.1 + x21.1) (o17.2.2.2.2.2.2.2.1 + 1) x22 else some ((v4, v5, v6, w)))
set_option maxHeartbeats 4000000 in
set_option maxRecDepth 20000 in
theorem dl_m_winters_42 : ∀ (n : Nat) (v0 : Nat) (v1 : Int32) (v2 : Int32) (v3 : Int32) (v4 : Int32) (v5 : Int32) (v6 : Int32) (v7 : Int32) (w : tb_Hp) (o : Int32 × Int32 × Int32 × tb_Hp), fl_m_winters_42 n v0 v1 v2 v3 v4 v5 v6 v7 w = some o → ∀ (r : Option Value × tb_Hp), tb_Ev tb_P 7 294 (93, [(4, .int o.1), (5, .int o.2.1), (6, .int o.2.2.1)], [], o.2.2.2) r → tb_Ev tb_P 7 294 (43, [(0, .ref v0), (1, .int v1), (2, .int v2), (3, .int v3), (4, .int v4), (5, .int v5), (6, .int v6), (7, .int v7)], [], w) r := by
  intro n
  induction n with
  | zero =>
    intro v0 v1 v2 v3 v4 v5 v6 v7 w o h
    cases h
  | succ n ih =>
    intro v0 v1 v2 v3 v4 v5 v6 v7 w o h r hx
    unfold fl_m_winters_42 at h
    refine tb_Es (k := 2) (st' := (45, [(0, .ref v0), (1, .int v1), (2, .int v2), (3, .int v3), (4, .int v4), (5, .int v5), (6, .int v6), (7, .int v7)], [.int v1, .int v7], w)) rfl ?_
    refine tb_b_cge rfl (fun hc => ?_) (fun hc => ?_)
    · rw [if_pos hc] at h
      refine tb_Es (k := 3) (st' := (49, [(0, .ref v0), (1, .int v1), (2, .int v2), (3, .int v3), (4, .int v4), (5, .int v5), (6, .int v6), (7, .int v7), (8, .int 0)], [], w)) rfl ?_
      replace h := Option.bind_eq_some_iff.mp h
      obtain ⟨o17, eo17, h⟩ := h
      refine dl_m_winters_47 _ v0 v1 v2 v3 v4 v5 v6 v7 0 w _ eo17 r ?_
      refine tb_Es (k := 2) (st' := (78, [(0, .ref o17.1), (1, .int o17.2.1), (2, .int o17.2.2.1), (3, .int o17.2.2.2.1), (4, .int o17.2.2.2.2.1), (5, .int o17.2.2.2.2.2.1), (6, .int o17.2.2.2.2.2.2.1), (7, .int o17.2.2.2.2.2.2.2.1)], [.ref o17.1, .int o17.2.2.2.2.2.1], o17.2.2.2.2.2.2.2.2)) rfl ?_
      replace h := Option.bind_eq_some_iff.mp h
      obtain ⟨x18, ex18, h⟩ := h
      obtain ⟨hkx18, hcall⟩ := tb_on_some ex18
      refine tb_e_cv (v := some (.int x18.1)) rfl (Or.inl ⟨_, rfl⟩) rfl rfl (Nat.le_of_ble_eq_true rfl) rfl (Nat.le_of_ble_eq_true rfl) hkx18 ((dc_m_standingOnes hcall).up (by decide)) ?_
      replace h := Option.bind_eq_some_iff.mp h
      obtain ⟨x19, ex19, h⟩ := h
      have hcall := ex19
      refine tb_e_cs (v := some (.int x19.1)) rfl rfl rfl (Nat.le_of_ble_eq_true rfl) rfl (Nat.le_of_ble_eq_true rfl) ((dc_m_bits hcall).up (by decide)) ?_
      refine tb_Es (k := 4) (st' := (84, [(5, .int (o17.2.2.2.2.2.1 + x19.1)), (0, .ref o17.1), (1, .int o17.2.1), (2, .int o17.2.2.1), (3, .int o17.2.2.2.1), (4, .int o17.2.2.2.2.1), (6, .int o17.2.2.2.2.2.2.1), (7, .int o17.2.2.2.2.2.2.2.1)], [.ref o17.1, .int o17.2.2.2.2.2.2.1], x19.2)) rfl ?_
      replace h := Option.bind_eq_some_iff.mp h
      obtain ⟨x20, ex20, h⟩ := h
      obtain ⟨hkx20, hcall⟩ := tb_on_some ex20
      refine tb_e_cv (v := some (.int x20.1)) rfl (Or.inl ⟨_, rfl⟩) rfl rfl (Nat.le_of_ble_eq_true rfl) rfl (Nat.le_of_ble_eq_true rfl) hkx20 ((dc_m_linesUp hcall).up (by decide)) ?_
      replace h := Option.bind_eq_some_iff.mp h
      obtain ⟨x21, ex21, h⟩ := h
      have hcall := ex21
      refine tb_e_cs (v := some (.int x21.1)) rfl rfl rfl (Nat.le_of_ble_eq_true rfl) rfl (Nat.le_of_ble_eq_true rfl) ((dc_m_bits hcall).up (by decide)) ?_
      refine tb_Es (k := 3) (st' := (89, [(6, .int (o17.2.2.2.2.2.2.1 + x21.1)), (5, .int (o17.2.2.2.2.2.1 + x19.1)), (0, .ref o17.1), (1, .int o17.2.1), (2, .int o17.2.2.1), (3, .int o17.2.2.2.1), (4, .int o17.2.2.2.2.1), (7, .int o17.2.2.2.2.2.2.2.1)], [.ref o17.1], x21.2)) rfl ?_
      replace h := Option.bind_eq_some_iff.mp h
      obtain ⟨x22, ex22, h⟩ := h
      obtain ⟨hkx22, hcall⟩ := tb_on_some ex22
      refine tb_e_cv (v := none) rfl (Or.inl ⟨_, rfl⟩) rfl rfl (Nat.le_of_ble_eq_true rfl) rfl (Nat.le_of_ble_eq_true rfl) hkx22 ((dc_m_laysBack hcall).up (by decide)) ?_
      refine tb_Es (k := 3) (st' := (43, [(0, .ref o17.1), (1, .int o17.2.1), (2, .int o17.2.2.1), (3, .int o17.2.2.2.1), (4, .int o17.2.2.2.2.1), (5, .int (o17.2.2.2.2.2.1 + x19.1)), (6, .int (o17.2.2.2.2.2.2.1 + x21.1)), (7, .int (o17.2.2.2.2.2.2.2.1 + 1))], [], x22)) rfl ?_
      exact ih o17.1 o17.2.1 o17.2.2.1 o17.2.2.2.1 o17.2.2.2.2.1 (o17.2.2.2.2.2.1 + x19.1) (o17.2.2.2.2.2.2.1 + x21.1) (o17.2.2.2.2.2.2.2.1 + 1) x22 _ h r hx
    · rw [if_neg hc] at h
      refine tb_Es (k := 1) (st' := (93, [(4, .int v4), (5, .int v5), (6, .int v6)], [], w)) rfl ?_
      obtain rfl := Option.some.inj h
      exact hx
def fb_m_winters (a0 : Nat) (a1 : Int32) (a2 : Int32) (a3 : Int32) (a4 : Int32) (w : tb_Hp) : Option (Int32 × tb_Hp) := (tb_on 22 a0 w (fb_m_isStreet a0 w)).bind fun x1 => (if x1.1 = 0 then some (-1, x1.2) else (fb_m_in (Int32.toInt64 a1) 1 10 x1.2).bind fun x2 => (if x2.1 = 0 then some (-1, x2.2) else (fb_m_in (Int32.toInt64 a2) 1 60 x2.2).bind fun x3 => (if x3.1 = 0 then some (-1, x3.2) else (fb_m_in (Int32.toInt64 a3) 0 100 x3.2).bind fun x4 => (if x4.1 = 0 then some (-1, x4.2) else (fb_m_in (Int32.toInt64 a4) 0 1 x4.2).bind fun x5 => (if x5.1 = 0 then some (-1, x5.2) else (tb_gI 22 22 a0 x5.2).bind fun x6 => (tb_pJ 22 31 a0 (Int32.toInt64 x6) x5.2).bind fun w7 => (tb_on 22 a0 w7 (fb_m_keeps a0 w7)).bind fun x8 => (fl_m_winters_42 1048576 a0 a1 a2 a3 a4 0 0 0 x8).bind fun o23 => (if o23.1 = 0 then some (o23.2.1, o23.2.2.2) else some (o23.2.2.1, o23.2.2.2)))))))
set_option maxHeartbeats 4000000 in
set_option maxRecDepth 20000 in
theorem dc_m_winters {a0 : Nat} {a1 : Int32} {a2 : Int32} {a3 : Int32} {a4 : Int32} {w : tb_Hp} {o : Int32 × tb_Hp} (h : fb_m_winters a0 a1 a2 a3 a4 w = some o) : tb_Ev tb_P 7 294 (0, tb_ent [.ref a0, .int a1, .int a2, .int a3, .int a4], [], w) (some (.int o.1), o.2) := by
  unfold fb_m_winters at h
  obtain ⟨r, hr⟩ : ∃ r : Option Value × tb_Hp, r = (some (.int o.1), o.2) := ⟨_, rfl⟩
  rw [← hr]
  show tb_Ev tb_P 7 294 (0, [(0, .ref a0), (1, .int a1), (2, .int a2), (3, .int a3), (4, .int a4)], [], w) r
  refine tb_Es (k := 1) (st' := (1, [(0, .ref a0), (1, .int a1), (2, .int a2), (3, .int a3), (4, .int a4)], [.ref a0], w)) rfl ?_
  replace h := Option.bind_eq_some_iff.mp h
  obtain ⟨x1, ex1, h⟩ := h
  obtain ⟨hkx1, hcall⟩ := tb_on_some ex1
  refine tb_e_cv (v := some (.int x1.1)) rfl (Or.inl ⟨_, rfl⟩) rfl rfl (Nat.le_of_ble_eq_true rfl) rfl (Nat.le_of_ble_eq_true rfl) hkx1 ((dc_m_isStreet hcall).up (by decide)) ?_
  refine tb_b_ieq rfl (fun hc => ?_) (fun hc => ?_)
  · rw [if_pos hc] at h
    refine tb_Es (k := 1) (st' := (28, [(0, .ref a0), (1, .int a1), (2, .int a2), (3, .int a3), (4, .int a4)], [.int (-1)], x1.2)) rfl ?_
    obtain rfl := Option.some.inj h
    subst hr
    exact tb_Er rfl rfl
  · rw [if_neg hc] at h
    refine tb_Es (k := 4) (st' := (7, [(0, .ref a0), (1, .int a1), (2, .int a2), (3, .int a3), (4, .int a4)], [.long 10, .long 1, .long (Int32.toInt64 a1)], x1.2)) rfl ?_
    replace h := Option.bind_eq_some_iff.mp h
    obtain ⟨x2, ex2, h⟩ := h
    have hcall := ex2
    refine tb_e_cs (v := some (.int x2.1)) rfl rfl rfl (Nat.le_of_ble_eq_true rfl) rfl (Nat.le_of_ble_eq_true rfl) ((dc_m_in hcall).up (by decide)) ?_
    refine tb_b_ieq rfl (fun hc => ?_) (fun hc => ?_)
    · rw [if_pos hc] at h
      refine tb_Es (k := 1) (st' := (28, [(0, .ref a0), (1, .int a1), (2, .int a2), (3, .int a3), (4, .int a4)], [.int (-1)], x2.2)) rfl ?_
      obtain rfl := Option.some.inj h
      subst hr
      exact tb_Er rfl rfl
    · rw [if_neg hc] at h
      refine tb_Es (k := 4) (st' := (13, [(0, .ref a0), (1, .int a1), (2, .int a2), (3, .int a3), (4, .int a4)], [.long 60, .long 1, .long (Int32.toInt64 a2)], x2.2)) rfl ?_
      replace h := Option.bind_eq_some_iff.mp h
      obtain ⟨x3, ex3, h⟩ := h
      have hcall := ex3
      refine tb_e_cs (v := some (.int x3.1)) rfl rfl rfl (Nat.le_of_ble_eq_true rfl) rfl (Nat.le_of_ble_eq_true rfl) ((dc_m_in hcall).up (by decide)) ?_
      refine tb_b_ieq rfl (fun hc => ?_) (fun hc => ?_)
      · rw [if_pos hc] at h
        refine tb_Es (k := 1) (st' := (28, [(0, .ref a0), (1, .int a1), (2, .int a2), (3, .int a3), (4, .int a4)], [.int (-1)], x3.2)) rfl ?_
        obtain rfl := Option.some.inj h
        subst hr
        exact tb_Er rfl rfl
      · rw [if_neg hc] at h
        refine tb_Es (k := 4) (st' := (19, [(0, .ref a0), (1, .int a1), (2, .int a2), (3, .int a3), (4, .int a4)], [.long 100, .long 0, .long (Int32.toInt64 a3)], x3.2)) rfl ?_
        replace h := Option.bind_eq_some_iff.mp h
        obtain ⟨x4, ex4, h⟩ := h
        have hcall := ex4
        refine tb_e_cs (v := some (.int x4.1)) rfl rfl rfl (Nat.le_of_ble_eq_true rfl) rfl (Nat.le_of_ble_eq_true rfl) ((dc_m_in hcall).up (by decide)) ?_
        refine tb_b_ieq rfl (fun hc => ?_) (fun hc => ?_)
        · rw [if_pos hc] at h
          refine tb_Es (k := 1) (st' := (28, [(0, .ref a0), (1, .int a1), (2, .int a2), (3, .int a3), (4, .int a4)], [.int (-1)], x4.2)) rfl ?_
          obtain rfl := Option.some.inj h
          subst hr
          exact tb_Er rfl rfl
        · rw [if_neg hc] at h
          refine tb_Es (k := 4) (st' := (25, [(0, .ref a0), (1, .int a1), (2, .int a2), (3, .int a3), (4, .int a4)], [.long 1, .long 0, .long (Int32.toInt64 a4)], x4.2)) rfl ?_
          replace h := Option.bind_eq_some_iff.mp h
          obtain ⟨x5, ex5, h⟩ := h
          have hcall := ex5
          refine tb_e_cs (v := some (.int x5.1)) rfl rfl rfl (Nat.le_of_ble_eq_true rfl) rfl (Nat.le_of_ble_eq_true rfl) ((dc_m_in hcall).up (by decide)) ?_
          refine tb_b_ine rfl (fun hc => ?_) (fun hc => ?_)
          · rw [if_pos hc] at h
            refine tb_Es (k := 1) (st' := (28, [(0, .ref a0), (1, .int a1), (2, .int a2), (3, .int a3), (4, .int a4)], [.int (-1)], x5.2)) rfl ?_
            obtain rfl := Option.some.inj h
            subst hr
            exact tb_Er rfl rfl
          · rw [if_neg hc] at h
            refine tb_Es (k := 2) (st' := (31, [(0, .ref a0), (1, .int a1), (2, .int a2), (3, .int a3), (4, .int a4)], [.ref a0, .ref a0], x5.2)) rfl ?_
            replace h := Option.bind_eq_some_iff.mp h
            obtain ⟨x6, ex6, h⟩ := h
            refine tb_e_gI rfl ex6 ?_
            refine tb_Es (k := 1) (st' := (33, [(0, .ref a0), (1, .int a1), (2, .int a2), (3, .int a3), (4, .int a4)], [.long (Int32.toInt64 x6), .ref a0], x5.2)) rfl ?_
            replace h := Option.bind_eq_some_iff.mp h
            obtain ⟨w7, ew7, h⟩ := h
            refine tb_e_pJ rfl ew7 ?_
            refine tb_Es (k := 5) (st' := (39, [(6, .int 0), (5, .int 0), (0, .ref a0), (1, .int a1), (2, .int a2), (3, .int a3), (4, .int a4)], [.ref a0], w7)) rfl ?_
            replace h := Option.bind_eq_some_iff.mp h
            obtain ⟨x8, ex8, h⟩ := h
            obtain ⟨hkx8, hcall⟩ := tb_on_some ex8
            refine tb_e_cv (v := none) rfl (Or.inl ⟨_, rfl⟩) rfl rfl (Nat.le_of_ble_eq_true rfl) rfl (Nat.le_of_ble_eq_true rfl) hkx8 ((dc_m_keeps hcall).up (by decide)) ?_
            refine tb_Es (k := 3) (st' := (43, [(0, .ref a0), (1, .int a1), (2, .int a2), (3, .int a3), (4, .int a4), (5, .int 0), (6, .int 0), (7, .int 0)], [], x8)) rfl ?_
            replace h := Option.bind_eq_some_iff.mp h
            obtain ⟨o23, eo23, h⟩ := h
            refine dl_m_winters_42 _ a0 a1 a2 a3 a4 0 0 0 x8 _ eo23 r ?_
            refine tb_Es (k := 1) (st' := (94, [(4, .int o23.1), (5, .int o23.2.1), (6, .int o23.2.2.1)], [.int o23.1], o23.2.2.2)) rfl ?_
            refine tb_b_ine rfl (fun hc => ?_) (fun hc => ?_)
            · rw [if_pos hc] at h
              refine tb_Es (k := 2) (st' := (98, [(4, .int o23.1), (5, .int o23.2.1), (6, .int o23.2.2.1)], [.int o23.2.1], o23.2.2.2)) rfl ?_
              obtain rfl := Option.some.inj h
              subst hr
              exact tb_Er rfl rfl
            · rw [if_neg hc] at h
              refine tb_Es (k := 1) (st' := (98, [(4, .int o23.1), (5, .int o23.2.1), (6, .int o23.2.2.1)], [.int o23.2.2.1], o23.2.2.2)) rfl ?_
              obtain rfl := Option.some.inj h
              subst hr
              exact tb_Er rfl rfl
/-! TannerBuntingModel.tested()Z -/
def fj_m_tested_j13 (k : Nat → Int32 → tb_Hp → Option (((Nat × tb_Hp) ⊕ (Int32 × tb_Hp)))) (w : tb_Hp) : Option (((Nat × tb_Hp) ⊕ (Int32 × tb_Hp))) := some (.inr ((0, w)))
set_option maxHeartbeats 4000000 in
set_option maxRecDepth 20000 in
theorem dj_m_tested_j13 (k : Nat → Int32 → tb_Hp → Option (((Nat × tb_Hp) ⊕ (Int32 × tb_Hp)))) (w : tb_Hp) (o : ((Nat × tb_Hp) ⊕ (Int32 × tb_Hp))) (h : fj_m_tested_j13 k  w = some o) (r : Option Value × tb_Hp) (hx : (Sum.elim (fun (q : Nat × tb_Hp) => tb_Ev tb_P 8 199 (63, [(0, .ref q.1)], [], q.2) r) (fun (q : Int32 × tb_Hp) => r = (some (.int q.1), q.2)) o)) (hk : ∀ (v0 : Nat) (v1 : Int32) (w : tb_Hp), k v0 v1 w = some o → tb_Ev tb_P 8 199 (9, [(0, .ref v0), (1, .int v1)], [], w) r) : tb_Ev tb_P 8 199 (15, [], [], w) r := by
  unfold fj_m_tested_j13 at h
  refine tb_Es (k := 1) (st' := (16, [], [.int 0], w)) rfl ?_
  obtain rfl := Option.some.inj h
  replace hx : r = _ := hx
  subst hx
  exact tb_Er rfl rfl
def fj_m_tested_j38 (k : Nat → Int32 → tb_Hp → Option (((Nat × tb_Hp) ⊕ (Int32 × tb_Hp)))) (v0 : Nat) (v1 : Int32) (s0 : Int32) (w : tb_Hp) : Option (((Nat × tb_Hp) ⊕ (Int32 × tb_Hp))) := (tb_on 22 v0 w (fb_m_passWord v0 w)).bind fun x8 => (fb_m_strength s0 x8).bind fun x9 => (tb_on 22 v0 x9.2 (fb_m_layDown v0 x9.1 x9.2)).bind fun x10 => (tb_gN 22 15 v0 x10).bind fun p11 => (tb_gI 22 16 v0 x10).bind fun x12 => (tb_tI p11 x12 s0 x10).bind fun w13 => (tb_gI 22 16 v0 w13).bind fun x14 => (tb_pI 22 16 v0 (x14 + 1) w13).bind fun w15 => k v0 v1 w15
set_option maxHeartbeats 4000000 in
set_option maxRecDepth 20000 in
theorem dj_m_tested_j38 (k : Nat → Int32 → tb_Hp → Option (((Nat × tb_Hp) ⊕ (Int32 × tb_Hp)))) (v0 : Nat) (v1 : Int32) (s0 : Int32) (w : tb_Hp) (o : ((Nat × tb_Hp) ⊕ (Int32 × tb_Hp))) (h : fj_m_tested_j38 k v0 v1 s0 w = some o) (r : Option Value × tb_Hp) (hx : (Sum.elim (fun (q : Nat × tb_Hp) => tb_Ev tb_P 8 199 (63, [(0, .ref q.1)], [], q.2) r) (fun (q : Int32 × tb_Hp) => r = (some (.int q.1), q.2)) o)) (hk : ∀ (v0 : Nat) (v1 : Int32) (w : tb_Hp), k v0 v1 w = some o → tb_Ev tb_P 8 199 (9, [(0, .ref v0), (1, .int v1)], [], w) r) : tb_Ev tb_P 8 199 (42, [(0, .ref v0), (1, .int v1)], [.int s0], w) r := by
  unfold fj_m_tested_j38 at h
  refine tb_Es (k := 2) (st' := (44, [(2, .int s0), (0, .ref v0), (1, .int v1)], [.ref v0], w)) rfl ?_
  replace h := Option.bind_eq_some_iff.mp h
  obtain ⟨x8, ex8, h⟩ := h
  obtain ⟨hkx8, hcall⟩ := tb_on_some ex8
  refine tb_e_cv (v := none) rfl (Or.inl ⟨_, rfl⟩) rfl rfl (Nat.le_of_ble_eq_true rfl) rfl (Nat.le_of_ble_eq_true rfl) hkx8 ((dc_m_passWord hcall).up (by decide)) ?_
  refine tb_Es (k := 2) (st' := (47, [(2, .int s0), (0, .ref v0), (1, .int v1)], [.int s0, .ref v0], x8)) rfl ?_
  replace h := Option.bind_eq_some_iff.mp h
  obtain ⟨x9, ex9, h⟩ := h
  have hcall := ex9
  refine tb_e_cs (v := some (.int x9.1)) rfl rfl rfl (Nat.le_of_ble_eq_true rfl) rfl (Nat.le_of_ble_eq_true rfl) ((dc_m_strength hcall).up (by decide)) ?_
  replace h := Option.bind_eq_some_iff.mp h
  obtain ⟨x10, ex10, h⟩ := h
  obtain ⟨hkx10, hcall⟩ := tb_on_some ex10
  refine tb_e_cv (v := none) rfl (Or.inl ⟨_, rfl⟩) rfl rfl (Nat.le_of_ble_eq_true rfl) rfl (Nat.le_of_ble_eq_true rfl) hkx10 ((dc_m_layDown hcall).up (by decide)) ?_
  refine tb_Es (k := 1) (st' := (50, [(2, .int s0), (0, .ref v0), (1, .int v1)], [.ref v0], x10)) rfl ?_
  replace h := Option.bind_eq_some_iff.mp h
  obtain ⟨p11, ep11, h⟩ := h
  refine tb_e_gN rfl ep11 ?_
  refine tb_Es (k := 1) (st' := (52, [(2, .int s0), (0, .ref v0), (1, .int v1)], [.ref v0, .ref p11], x10)) rfl ?_
  replace h := Option.bind_eq_some_iff.mp h
  obtain ⟨x12, ex12, h⟩ := h
  refine tb_e_gI rfl ex12 ?_
  refine tb_Es (k := 1) (st' := (54, [(2, .int s0), (0, .ref v0), (1, .int v1)], [.int s0, .int x12, .ref p11], x10)) rfl ?_
  replace h := Option.bind_eq_some_iff.mp h
  obtain ⟨w13, ew13, h⟩ := h
  refine tb_e_tI rfl ew13 ?_
  refine tb_Es (k := 2) (st' := (57, [(2, .int s0), (0, .ref v0), (1, .int v1)], [.ref v0, .ref v0], w13)) rfl ?_
  replace h := Option.bind_eq_some_iff.mp h
  obtain ⟨x14, ex14, h⟩ := h
  refine tb_e_gI rfl ex14 ?_
  refine tb_Es (k := 2) (st' := (60, [(2, .int s0), (0, .ref v0), (1, .int v1)], [.int (x14 + 1), .ref v0], w13)) rfl ?_
  replace h := Option.bind_eq_some_iff.mp h
  obtain ⟨w15, ew15, h⟩ := h
  refine tb_e_pI rfl ew15 ?_
  refine tb_Es (k := 2) (st' := (9, [(0, .ref v0), (1, .int v1)], [], w15)) rfl ?_
  exact hk v0 v1 w15 h
def fj_m_tested_j28 (k : Nat → Int32 → tb_Hp → Option (((Nat × tb_Hp) ⊕ (Int32 × tb_Hp)))) (v0 : Nat) (s0 : Int32) (w : tb_Hp) : Option (((Nat × tb_Hp) ⊕ (Int32 × tb_Hp))) := (if s0 = 0 then k v0 s0 w else (tb_on 22 v0 w (fb_m_isWord v0 6385252 w)).bind fun x7 => (if x7.1 = 0 then fj_m_tested_j38 k v0 s0 13 x7.2 else fj_m_tested_j38 k v0 s0 12 x7.2))
set_option maxHeartbeats 4000000 in
set_option maxRecDepth 20000 in
theorem dj_m_tested_j28 (k : Nat → Int32 → tb_Hp → Option (((Nat × tb_Hp) ⊕ (Int32 × tb_Hp)))) (v0 : Nat) (s0 : Int32) (w : tb_Hp) (o : ((Nat × tb_Hp) ⊕ (Int32 × tb_Hp))) (h : fj_m_tested_j28 k v0 s0 w = some o) (r : Option Value × tb_Hp) (hx : (Sum.elim (fun (q : Nat × tb_Hp) => tb_Ev tb_P 8 199 (63, [(0, .ref q.1)], [], q.2) r) (fun (q : Int32 × tb_Hp) => r = (some (.int q.1), q.2)) o)) (hk : ∀ (v0 : Nat) (v1 : Int32) (w : tb_Hp), k v0 v1 w = some o → tb_Ev tb_P 8 199 (9, [(0, .ref v0), (1, .int v1)], [], w) r) : tb_Ev tb_P 8 199 (31, [(0, .ref v0)], [.int s0], w) r := by
  unfold fj_m_tested_j28 at h
  refine tb_Es (k := 2) (st' := (33, [(1, .int s0), (0, .ref v0)], [.int s0], w)) rfl ?_
  refine tb_b_ieq rfl (fun hc => ?_) (fun hc => ?_)
  · rw [if_pos hc] at h
    refine tb_Es (k := 1) (st' := (9, [(0, .ref v0), (1, .int s0)], [], w)) rfl ?_
    exact hk v0 s0 w h
  · rw [if_neg hc] at h
    refine tb_Es (k := 2) (st' := (36, [(1, .int s0), (0, .ref v0)], [.long 6385252, .ref v0], w)) rfl ?_
    replace h := Option.bind_eq_some_iff.mp h
    obtain ⟨x7, ex7, h⟩ := h
    obtain ⟨hkx7, hcall⟩ := tb_on_some ex7
    refine tb_e_cv (v := some (.int x7.1)) rfl (Or.inl ⟨_, rfl⟩) rfl rfl (Nat.le_of_ble_eq_true rfl) rfl (Nat.le_of_ble_eq_true rfl) hkx7 ((dc_m_isWord hcall).up (by decide)) ?_
    refine tb_b_ieq rfl (fun hc => ?_) (fun hc => ?_)
    · rw [if_pos hc] at h
      refine tb_Es (k := 2) (st' := (42, [(0, .ref v0), (1, .int s0)], [.int 13], x7.2)) rfl ?_
      exact dj_m_tested_j38 k v0 s0 13 x7.2 _ h r hx hk
    · rw [if_neg hc] at h
      refine tb_Es (k := 3) (st' := (42, [(0, .ref v0), (1, .int s0)], [.int 12], x7.2)) rfl ?_
      exact dj_m_tested_j38 k v0 s0 12 x7.2 _ h r hx hk
def fl_m_tested_8 : Nat → Nat → Int32 → tb_Hp → Option (((Nat × tb_Hp) ⊕ (Int32 × tb_Hp)))
  | 0, _, _, _ => none
  | n + 1, v0, v1, w => (if v1 = 0 then some (.inl ((v0, w))) else (tb_on 22 v0 w (fb_m_fact v0 w)).bind fun x3 => (if x3.1 = 0 then fj_m_tested_j13 (fl_m_tested_8 n)  x3.2 else (tb_on 22 v0 x3.2 (fb_m_closes v0 x3.2)).bind fun x4 => (tb_on 22 v0 x4 (fb_m_isWord v0 6385252 x4)).bind fun x5 => (if x5.1 = 0 then (tb_on 22 v0 x5.2 (fb_m_isWord v0 28530 x5.2)).bind fun x6 => (if x6.1 = 0 then fj_m_tested_j28 (fl_m_tested_8 n) v0 0 x6.2 else fj_m_tested_j28 (fl_m_tested_8 n) v0 1 x6.2) else fj_m_tested_j28 (fl_m_tested_8 n) v0 1 x5.2)))
set_option maxHeartbeats 4000000 in
set_option maxRecDepth 20000 in
theorem dl_m_tested_8 : ∀ (n : Nat) (v0 : Nat) (v1 : Int32) (w : tb_Hp) (o : ((Nat × tb_Hp) ⊕ (Int32 × tb_Hp))), fl_m_tested_8 n v0 v1 w = some o → ∀ (r : Option Value × tb_Hp), (Sum.elim (fun (q : Nat × tb_Hp) => tb_Ev tb_P 8 199 (63, [(0, .ref q.1)], [], q.2) r) (fun (q : Int32 × tb_Hp) => r = (some (.int q.1), q.2)) o) → tb_Ev tb_P 8 199 (9, [(0, .ref v0), (1, .int v1)], [], w) r := by
  intro n
  induction n with
  | zero =>
    intro v0 v1 w o h
    cases h
  | succ n ih =>
    intro v0 v1 w o h r hx
    unfold fl_m_tested_8 at h
    refine tb_Es (k := 1) (st' := (10, [(0, .ref v0), (1, .int v1)], [.int v1], w)) rfl ?_
    refine tb_b_ieq rfl (fun hc => ?_) (fun hc => ?_)
    · rw [if_pos hc] at h
      refine tb_Es (k := 1) (st' := (63, [(0, .ref v0)], [], w)) rfl ?_
      obtain rfl := Option.some.inj h
      exact hx
    · rw [if_neg hc] at h
      refine tb_Es (k := 1) (st' := (12, [(0, .ref v0), (1, .int v1)], [.ref v0], w)) rfl ?_
      replace h := Option.bind_eq_some_iff.mp h
      obtain ⟨x3, ex3, h⟩ := h
      obtain ⟨hkx3, hcall⟩ := tb_on_some ex3
      refine tb_e_cv (v := some (.int x3.1)) rfl (Or.inl ⟨_, rfl⟩) rfl rfl (Nat.le_of_ble_eq_true rfl) rfl (Nat.le_of_ble_eq_true rfl) hkx3 ((dc_m_fact hcall).up (by decide)) ?_
      refine tb_b_ine rfl (fun hc => ?_) (fun hc => ?_)
      · rw [if_pos hc] at h
        refine tb_Es (k := 1) (st' := (15, [], [], x3.2)) rfl ?_
        exact dj_m_tested_j13 (fl_m_tested_8 n)  x3.2 _ h r hx (fun v0_ v1_ w_ h_ => ih v0_ v1_ w_ _ h_ r hx)
      · rw [if_neg hc] at h
        refine tb_Es (k := 1) (st' := (18, [(0, .ref v0), (1, .int v1)], [.ref v0], x3.2)) rfl ?_
        replace h := Option.bind_eq_some_iff.mp h
        obtain ⟨x4, ex4, h⟩ := h
        obtain ⟨hkx4, hcall⟩ := tb_on_some ex4
        refine tb_e_cv (v := none) rfl (Or.inl ⟨_, rfl⟩) rfl rfl (Nat.le_of_ble_eq_true rfl) rfl (Nat.le_of_ble_eq_true rfl) hkx4 ((dc_m_closes hcall).up (by decide)) ?_
        refine tb_Es (k := 2) (st' := (21, [(0, .ref v0), (1, .int v1)], [.long 6385252, .ref v0], x4)) rfl ?_
        replace h := Option.bind_eq_some_iff.mp h
        obtain ⟨x5, ex5, h⟩ := h
        obtain ⟨hkx5, hcall⟩ := tb_on_some ex5
        refine tb_e_cv (v := some (.int x5.1)) rfl (Or.inl ⟨_, rfl⟩) rfl rfl (Nat.le_of_ble_eq_true rfl) rfl (Nat.le_of_ble_eq_true rfl) hkx5 ((dc_m_isWord hcall).up (by decide)) ?_
        refine tb_b_ine rfl (fun hc => ?_) (fun hc => ?_)
        · rw [if_pos hc] at h
          refine tb_Es (k := 2) (st' := (25, [(0, .ref v0), (1, .int v1)], [.long 28530, .ref v0], x5.2)) rfl ?_
          replace h := Option.bind_eq_some_iff.mp h
          obtain ⟨x6, ex6, h⟩ := h
          obtain ⟨hkx6, hcall⟩ := tb_on_some ex6
          refine tb_e_cv (v := some (.int x6.1)) rfl (Or.inl ⟨_, rfl⟩) rfl rfl (Nat.le_of_ble_eq_true rfl) rfl (Nat.le_of_ble_eq_true rfl) hkx6 ((dc_m_isWord hcall).up (by decide)) ?_
          refine tb_b_ieq rfl (fun hc => ?_) (fun hc => ?_)
          · rw [if_pos hc] at h
            refine tb_Es (k := 2) (st' := (31, [(0, .ref v0)], [.int 0], x6.2)) rfl ?_
            exact dj_m_tested_j28 (fl_m_tested_8 n) v0 0 x6.2 _ h r hx (fun v0_ v1_ w_ h_ => ih v0_ v1_ w_ _ h_ r hx)
          · rw [if_neg hc] at h
            refine tb_Es (k := 3) (st' := (31, [(0, .ref v0)], [.int 1], x6.2)) rfl ?_
            exact dj_m_tested_j28 (fl_m_tested_8 n) v0 1 x6.2 _ h r hx (fun v0_ v1_ w_ h_ => ih v0_ v1_ w_ _ h_ r hx)
        · rw [if_neg hc] at h
          refine tb_Es (k := 3) (st' := (31, [(0, .ref v0)], [.int 1], x5.2)) rfl ?_
          exact dj_m_tested_j28 (fl_m_tested_8 n) v0 1 x5.2 _ h r hx (fun v0_ v1_ w_ h_ => ih v0_ v1_ w_ _ h_ r hx)
def fb_m_tested (a0 : Nat) (w : tb_Hp) : Option (Int32 × tb_Hp) := (tb_pI 22 16 a0 0 w).bind fun w1 => (tb_pI 22 13 a0 0 w1).bind fun w2 => (fl_m_tested_8 1048576 a0 1 w2).bind fun o16 => (match o16 with | .inl q17 => (tb_on 22 q17.1 q17.2 (fb_m_isInside q17.1 q17.2)).bind fun x18 => (if x18.1 = 0 then (tb_on 22 q17.1 x18.2 (fb_m_layDown q17.1 1 x18.2)).bind fun x19 => some (1, x19) else (tb_on 22 q17.1 x18.2 (fb_m_see q17.1 x18.2)).bind fun x20 => (tb_gI 22 8 q17.1 x20.2).bind fun x21 => (tb_on 22 q17.1 x20.2 (fb_m_fails q17.1 0 x21 x20.2)).bind fun x22 => tb_z x22.1 x22.2) | .inr q23 => some q23)
set_option maxHeartbeats 4000000 in
set_option maxRecDepth 20000 in
theorem dc_m_tested {a0 : Nat} {w : tb_Hp} {o : Int32 × tb_Hp} (h : fb_m_tested a0 w = some o) : tb_Ev tb_P 8 199 (0, tb_ent [.ref a0], [], w) (some (.int o.1), o.2) := by
  unfold fb_m_tested at h
  obtain ⟨r, hr⟩ : ∃ r : Option Value × tb_Hp, r = (some (.int o.1), o.2) := ⟨_, rfl⟩
  rw [← hr]
  show tb_Ev tb_P 8 199 (0, [(0, .ref a0)], [], w) r
  refine tb_Es (k := 2) (st' := (2, [(0, .ref a0)], [.int 0, .ref a0], w)) rfl ?_
  replace h := Option.bind_eq_some_iff.mp h
  obtain ⟨w1, ew1, h⟩ := h
  refine tb_e_pI rfl ew1 ?_
  refine tb_Es (k := 2) (st' := (5, [(0, .ref a0)], [.int 0, .ref a0], w1)) rfl ?_
  replace h := Option.bind_eq_some_iff.mp h
  obtain ⟨w2, ew2, h⟩ := h
  refine tb_e_pI rfl ew2 ?_
  refine tb_Es (k := 3) (st' := (9, [(0, .ref a0), (1, .int 1)], [], w2)) rfl ?_
  replace h := Option.bind_eq_some_iff.mp h
  obtain ⟨o16, eo16, h⟩ := h
  refine dl_m_tested_8 _ a0 1 w2 _ eo16 r ?_
  rcases o16 with q17 | q23
  · dsimp only at h
    try simp only [Sum.elim_inl, Sum.elim_inr]
    refine tb_Es (k := 1) (st' := (64, [(0, .ref q17.1)], [.ref q17.1], q17.2)) rfl ?_
    replace h := Option.bind_eq_some_iff.mp h
    obtain ⟨x18, ex18, h⟩ := h
    obtain ⟨hkx18, hcall⟩ := tb_on_some ex18
    refine tb_e_cv (v := some (.int x18.1)) rfl (Or.inl ⟨_, rfl⟩) rfl rfl (Nat.le_of_ble_eq_true rfl) rfl (Nat.le_of_ble_eq_true rfl) hkx18 ((dc_m_isInside hcall).up (by decide)) ?_
    refine tb_b_ieq rfl (fun hc => ?_) (fun hc => ?_)
    · rw [if_pos hc] at h
      refine tb_Es (k := 2) (st' := (77, [(0, .ref q17.1)], [.int 1, .ref q17.1], x18.2)) rfl ?_
      replace h := Option.bind_eq_some_iff.mp h
      obtain ⟨x19, ex19, h⟩ := h
      obtain ⟨hkx19, hcall⟩ := tb_on_some ex19
      refine tb_e_cv (v := none) rfl (Or.inl ⟨_, rfl⟩) rfl rfl (Nat.le_of_ble_eq_true rfl) rfl (Nat.le_of_ble_eq_true rfl) hkx19 ((dc_m_layDown hcall).up (by decide)) ?_
      refine tb_Es (k := 1) (st' := (79, [(0, .ref q17.1)], [.int 1], x19)) rfl ?_
      obtain rfl := Option.some.inj h
      subst hr
      exact tb_Er rfl rfl
    · rw [if_neg hc] at h
      refine tb_Es (k := 1) (st' := (67, [(0, .ref q17.1)], [.ref q17.1], x18.2)) rfl ?_
      replace h := Option.bind_eq_some_iff.mp h
      obtain ⟨x20, ex20, h⟩ := h
      obtain ⟨hkx20, hcall⟩ := tb_on_some ex20
      refine tb_e_cv (v := some (.int x20.1)) rfl (Or.inl ⟨_, rfl⟩) rfl rfl (Nat.le_of_ble_eq_true rfl) rfl (Nat.le_of_ble_eq_true rfl) hkx20 ((dc_m_see hcall).up (by decide)) ?_
      refine tb_Es (k := 4) (st' := (72, [(0, .ref q17.1)], [.ref q17.1, .int 0, .ref q17.1], x20.2)) rfl ?_
      replace h := Option.bind_eq_some_iff.mp h
      obtain ⟨x21, ex21, h⟩ := h
      refine tb_e_gI rfl ex21 ?_
      replace h := Option.bind_eq_some_iff.mp h
      obtain ⟨x22, ex22, h⟩ := h
      obtain ⟨hkx22, hcall⟩ := tb_on_some ex22
      refine tb_e_cv (v := some (.int x22.1)) rfl (Or.inl ⟨_, rfl⟩) rfl rfl (Nat.le_of_ble_eq_true rfl) rfl (Nat.le_of_ble_eq_true rfl) hkx22 ((dc_m_fails hcall).up (by decide)) ?_
      subst hr
      exact tb_r_z rfl h
  · dsimp only at h
    try simp only [Sum.elim_inl, Sum.elim_inr]
    obtain rfl := Option.some.inj h
    exact hr
/-! TannerBuntingModel.ahead(II)I -/
def fb_m_ahead (a0 : Nat) (a1 : Int32) (a2 : Int32) (w : tb_Hp) : Option (Int32 × tb_Hp) := (tb_on 22 a0 w (fb_m_isStreet a0 w)).bind fun x1 => (if x1.1 = 0 then some (-1, x1.2) else (fb_m_in (Int32.toInt64 a1) 0 100 x1.2).bind fun x2 => (if x2.1 = 0 then some (-1, x2.2) else (fb_m_in (Int32.toInt64 a2) 0 2 x2.2).bind fun x3 => (if x3.1 = 0 then some (-1, x3.2) else (tb_on 22 a0 x3.2 (fb_m_keeps a0 x3.2)).bind fun x4 => (tb_on 22 a0 x4 (fb_m_passesAll a0 a1 x4)).bind fun x5 => (if a2 = 0 then (tb_on 22 a0 x5 (fb_m_standingOnes a0 x5)).bind fun x6 => (tb_on 22 a0 x6.2 (fb_m_laysBack a0 x6.2)).bind fun x7 => some (x6.1, x7) else (if a2 = 1 then (tb_on 22 a0 x5 (fb_m_linesUp a0 x5)).bind fun x8 => (tb_on 22 a0 x8.2 (fb_m_laysBack a0 x8.2)).bind fun x9 => some (x8.1, x9) else (tb_on 22 a0 x5 (fb_m_pullAll a0 x5)).bind fun x10 => (tb_on 22 a0 x10.2 (fb_m_laysBack a0 x10.2)).bind fun x11 => some (x10.1, x11))))))
set_option maxHeartbeats 4000000 in
set_option maxRecDepth 20000 in
theorem dc_m_ahead {a0 : Nat} {a1 : Int32} {a2 : Int32} {w : tb_Hp} {o : Int32 × tb_Hp} (h : fb_m_ahead a0 a1 a2 w = some o) : tb_Ev tb_P 8 252 (0, tb_ent [.ref a0, .int a1, .int a2], [], w) (some (.int o.1), o.2) := by
  unfold fb_m_ahead at h
  obtain ⟨r, hr⟩ : ∃ r : Option Value × tb_Hp, r = (some (.int o.1), o.2) := ⟨_, rfl⟩
  rw [← hr]
  show tb_Ev tb_P 8 252 (0, [(0, .ref a0), (1, .int a1), (2, .int a2)], [], w) r
  refine tb_Es (k := 1) (st' := (1, [(0, .ref a0), (1, .int a1), (2, .int a2)], [.ref a0], w)) rfl ?_
  replace h := Option.bind_eq_some_iff.mp h
  obtain ⟨x1, ex1, h⟩ := h
  obtain ⟨hkx1, hcall⟩ := tb_on_some ex1
  refine tb_e_cv (v := some (.int x1.1)) rfl (Or.inl ⟨_, rfl⟩) rfl rfl (Nat.le_of_ble_eq_true rfl) rfl (Nat.le_of_ble_eq_true rfl) hkx1 ((dc_m_isStreet hcall).up (by decide)) ?_
  refine tb_b_ieq rfl (fun hc => ?_) (fun hc => ?_)
  · rw [if_pos hc] at h
    refine tb_Es (k := 1) (st' := (16, [(0, .ref a0), (1, .int a1), (2, .int a2)], [.int (-1)], x1.2)) rfl ?_
    obtain rfl := Option.some.inj h
    subst hr
    exact tb_Er rfl rfl
  · rw [if_neg hc] at h
    refine tb_Es (k := 4) (st' := (7, [(0, .ref a0), (1, .int a1), (2, .int a2)], [.long 100, .long 0, .long (Int32.toInt64 a1)], x1.2)) rfl ?_
    replace h := Option.bind_eq_some_iff.mp h
    obtain ⟨x2, ex2, h⟩ := h
    have hcall := ex2
    refine tb_e_cs (v := some (.int x2.1)) rfl rfl rfl (Nat.le_of_ble_eq_true rfl) rfl (Nat.le_of_ble_eq_true rfl) ((dc_m_in hcall).up (by decide)) ?_
    refine tb_b_ieq rfl (fun hc => ?_) (fun hc => ?_)
    · rw [if_pos hc] at h
      refine tb_Es (k := 1) (st' := (16, [(0, .ref a0), (1, .int a1), (2, .int a2)], [.int (-1)], x2.2)) rfl ?_
      obtain rfl := Option.some.inj h
      subst hr
      exact tb_Er rfl rfl
    · rw [if_neg hc] at h
      refine tb_Es (k := 4) (st' := (13, [(0, .ref a0), (1, .int a1), (2, .int a2)], [.long 2, .long 0, .long (Int32.toInt64 a2)], x2.2)) rfl ?_
      replace h := Option.bind_eq_some_iff.mp h
      obtain ⟨x3, ex3, h⟩ := h
      have hcall := ex3
      refine tb_e_cs (v := some (.int x3.1)) rfl rfl rfl (Nat.le_of_ble_eq_true rfl) rfl (Nat.le_of_ble_eq_true rfl) ((dc_m_in hcall).up (by decide)) ?_
      refine tb_b_ine rfl (fun hc => ?_) (fun hc => ?_)
      · rw [if_pos hc] at h
        refine tb_Es (k := 1) (st' := (16, [(0, .ref a0), (1, .int a1), (2, .int a2)], [.int (-1)], x3.2)) rfl ?_
        obtain rfl := Option.some.inj h
        subst hr
        exact tb_Er rfl rfl
      · rw [if_neg hc] at h
        refine tb_Es (k := 1) (st' := (18, [(0, .ref a0), (1, .int a1), (2, .int a2)], [.ref a0], x3.2)) rfl ?_
        replace h := Option.bind_eq_some_iff.mp h
        obtain ⟨x4, ex4, h⟩ := h
        obtain ⟨hkx4, hcall⟩ := tb_on_some ex4
        refine tb_e_cv (v := none) rfl (Or.inl ⟨_, rfl⟩) rfl rfl (Nat.le_of_ble_eq_true rfl) rfl (Nat.le_of_ble_eq_true rfl) hkx4 ((dc_m_keeps hcall).up (by decide)) ?_
        refine tb_Es (k := 2) (st' := (21, [(0, .ref a0), (1, .int a1), (2, .int a2)], [.int a1, .ref a0], x4)) rfl ?_
        replace h := Option.bind_eq_some_iff.mp h
        obtain ⟨x5, ex5, h⟩ := h
        obtain ⟨hkx5, hcall⟩ := tb_on_some ex5
        refine tb_e_cv (v := none) rfl (Or.inl ⟨_, rfl⟩) rfl rfl (Nat.le_of_ble_eq_true rfl) rfl (Nat.le_of_ble_eq_true rfl) hkx5 ((dc_m_passesAll hcall).up (by decide)) ?_
        refine tb_Es (k := 1) (st' := (23, [(0, .ref a0), (1, .int a1), (2, .int a2)], [.int a2], x5)) rfl ?_
        refine tb_b_ine rfl (fun hc => ?_) (fun hc => ?_)
        · rw [if_pos hc] at h
          refine tb_Es (k := 1) (st' := (25, [(0, .ref a0), (1, .int a1), (2, .int a2)], [.ref a0], x5)) rfl ?_
          replace h := Option.bind_eq_some_iff.mp h
          obtain ⟨x6, ex6, h⟩ := h
          obtain ⟨hkx6, hcall⟩ := tb_on_some ex6
          refine tb_e_cv (v := some (.int x6.1)) rfl (Or.inl ⟨_, rfl⟩) rfl rfl (Nat.le_of_ble_eq_true rfl) rfl (Nat.le_of_ble_eq_true rfl) hkx6 ((dc_m_standingOnes hcall).up (by decide)) ?_
          refine tb_Es (k := 3) (st' := (37, [(3, .int x6.1), (0, .ref a0), (1, .int a1), (2, .int a2)], [.ref a0], x6.2)) rfl ?_
          replace h := Option.bind_eq_some_iff.mp h
          obtain ⟨x7, ex7, h⟩ := h
          obtain ⟨hkx7, hcall⟩ := tb_on_some ex7
          refine tb_e_cv (v := none) rfl (Or.inl ⟨_, rfl⟩) rfl rfl (Nat.le_of_ble_eq_true rfl) rfl (Nat.le_of_ble_eq_true rfl) hkx7 ((dc_m_laysBack hcall).up (by decide)) ?_
          refine tb_Es (k := 1) (st' := (39, [(3, .int x6.1), (0, .ref a0), (1, .int a1), (2, .int a2)], [.int x6.1], x7)) rfl ?_
          obtain rfl := Option.some.inj h
          subst hr
          exact tb_Er rfl rfl
        · rw [if_neg hc] at h
          refine tb_Es (k := 2) (st' := (29, [(0, .ref a0), (1, .int a1), (2, .int a2)], [.int 1, .int a2], x5)) rfl ?_
          refine tb_b_cne rfl (fun hc => ?_) (fun hc => ?_)
          · rw [if_pos hc] at h
            refine tb_Es (k := 1) (st' := (31, [(0, .ref a0), (1, .int a1), (2, .int a2)], [.ref a0], x5)) rfl ?_
            replace h := Option.bind_eq_some_iff.mp h
            obtain ⟨x8, ex8, h⟩ := h
            obtain ⟨hkx8, hcall⟩ := tb_on_some ex8
            refine tb_e_cv (v := some (.int x8.1)) rfl (Or.inl ⟨_, rfl⟩) rfl rfl (Nat.le_of_ble_eq_true rfl) rfl (Nat.le_of_ble_eq_true rfl) hkx8 ((dc_m_linesUp hcall).up (by decide)) ?_
            refine tb_Es (k := 3) (st' := (37, [(3, .int x8.1), (0, .ref a0), (1, .int a1), (2, .int a2)], [.ref a0], x8.2)) rfl ?_
            replace h := Option.bind_eq_some_iff.mp h
            obtain ⟨x9, ex9, h⟩ := h
            obtain ⟨hkx9, hcall⟩ := tb_on_some ex9
            refine tb_e_cv (v := none) rfl (Or.inl ⟨_, rfl⟩) rfl rfl (Nat.le_of_ble_eq_true rfl) rfl (Nat.le_of_ble_eq_true rfl) hkx9 ((dc_m_laysBack hcall).up (by decide)) ?_
            refine tb_Es (k := 1) (st' := (39, [(3, .int x8.1), (0, .ref a0), (1, .int a1), (2, .int a2)], [.int x8.1], x9)) rfl ?_
            obtain rfl := Option.some.inj h
            subst hr
            exact tb_Er rfl rfl
          · rw [if_neg hc] at h
            refine tb_Es (k := 1) (st' := (34, [(0, .ref a0), (1, .int a1), (2, .int a2)], [.ref a0], x5)) rfl ?_
            replace h := Option.bind_eq_some_iff.mp h
            obtain ⟨x10, ex10, h⟩ := h
            obtain ⟨hkx10, hcall⟩ := tb_on_some ex10
            refine tb_e_cv (v := some (.int x10.1)) rfl (Or.inl ⟨_, rfl⟩) rfl rfl (Nat.le_of_ble_eq_true rfl) rfl (Nat.le_of_ble_eq_true rfl) hkx10 ((dc_m_pullAll hcall).up (by decide)) ?_
            refine tb_Es (k := 2) (st' := (37, [(3, .int x10.1), (0, .ref a0), (1, .int a1), (2, .int a2)], [.ref a0], x10.2)) rfl ?_
            replace h := Option.bind_eq_some_iff.mp h
            obtain ⟨x11, ex11, h⟩ := h
            obtain ⟨hkx11, hcall⟩ := tb_on_some ex11
            refine tb_e_cv (v := none) rfl (Or.inl ⟨_, rfl⟩) rfl rfl (Nat.le_of_ble_eq_true rfl) rfl (Nat.le_of_ble_eq_true rfl) hkx11 ((dc_m_laysBack hcall).up (by decide)) ?_
            refine tb_Es (k := 1) (st' := (39, [(3, .int x10.1), (0, .ref a0), (1, .int a1), (2, .int a2)], [.int x10.1], x11)) rfl ?_
            obtain rfl := Option.some.inj h
            subst hr
            exact tb_Er rfl rfl
/-! TannerBuntingModel.fewest(II)I -/
def fb_m_fewest (a0 : Nat) (a1 : Int32) (a2 : Int32) (w : tb_Hp) : Option (Int32 × tb_Hp) := (tb_on 22 a0 w (fb_m_isStanding a0 a1 w)).bind fun x1 => (if x1.1 = 0 then some (-1, x1.2) else (fb_m_in (Int32.toInt64 a2) 0 1 x1.2).bind fun x2 => (if x2.1 = 0 then some (-1, x2.2) else (tb_on 22 a0 x2.2 (fb_m_fewestSoThat a0 (1 <<< (a1 &&& 31)) x2.2)).bind fun x3 => (fb_m_toldOf x3.1 a2 x3.2).bind fun x4 => some (x4.1, x4.2)))
set_option maxHeartbeats 4000000 in
set_option maxRecDepth 20000 in
theorem dc_m_fewest {a0 : Nat} {a1 : Int32} {a2 : Int32} {w : tb_Hp} {o : Int32 × tb_Hp} (h : fb_m_fewest a0 a1 a2 w = some o) : tb_Ev tb_P 8 263 (0, tb_ent [.ref a0, .int a1, .int a2], [], w) (some (.int o.1), o.2) := by
  unfold fb_m_fewest at h
  obtain ⟨r, hr⟩ : ∃ r : Option Value × tb_Hp, r = (some (.int o.1), o.2) := ⟨_, rfl⟩
  rw [← hr]
  show tb_Ev tb_P 8 263 (0, [(0, .ref a0), (1, .int a1), (2, .int a2)], [], w) r
  refine tb_Es (k := 2) (st' := (2, [(0, .ref a0), (1, .int a1), (2, .int a2)], [.int a1, .ref a0], w)) rfl ?_
  replace h := Option.bind_eq_some_iff.mp h
  obtain ⟨x1, ex1, h⟩ := h
  obtain ⟨hkx1, hcall⟩ := tb_on_some ex1
  refine tb_e_cv (v := some (.int x1.1)) rfl (Or.inl ⟨_, rfl⟩) rfl rfl (Nat.le_of_ble_eq_true rfl) rfl (Nat.le_of_ble_eq_true rfl) hkx1 ((dc_m_isStanding hcall).up (by decide)) ?_
  refine tb_b_ieq rfl (fun hc => ?_) (fun hc => ?_)
  · rw [if_pos hc] at h
    refine tb_Es (k := 1) (st' := (19, [(0, .ref a0), (1, .int a1), (2, .int a2)], [.int (-1)], x1.2)) rfl ?_
    obtain rfl := Option.some.inj h
    subst hr
    exact tb_Er rfl rfl
  · rw [if_neg hc] at h
    refine tb_Es (k := 4) (st' := (8, [(0, .ref a0), (1, .int a1), (2, .int a2)], [.long 1, .long 0, .long (Int32.toInt64 a2)], x1.2)) rfl ?_
    replace h := Option.bind_eq_some_iff.mp h
    obtain ⟨x2, ex2, h⟩ := h
    have hcall := ex2
    refine tb_e_cs (v := some (.int x2.1)) rfl rfl rfl (Nat.le_of_ble_eq_true rfl) rfl (Nat.le_of_ble_eq_true rfl) ((dc_m_in hcall).up (by decide)) ?_
    refine tb_b_ieq rfl (fun hc => ?_) (fun hc => ?_)
    · rw [if_pos hc] at h
      refine tb_Es (k := 1) (st' := (19, [(0, .ref a0), (1, .int a1), (2, .int a2)], [.int (-1)], x2.2)) rfl ?_
      obtain rfl := Option.some.inj h
      subst hr
      exact tb_Er rfl rfl
    · rw [if_neg hc] at h
      refine tb_Es (k := 4) (st' := (14, [(0, .ref a0), (1, .int a1), (2, .int a2)], [.int (1 <<< (a1 &&& 31)), .ref a0], x2.2)) rfl ?_
      replace h := Option.bind_eq_some_iff.mp h
      obtain ⟨x3, ex3, h⟩ := h
      obtain ⟨hkx3, hcall⟩ := tb_on_some ex3
      refine tb_e_cv (v := some (.int x3.1)) rfl (Or.inl ⟨_, rfl⟩) rfl rfl (Nat.le_of_ble_eq_true rfl) rfl (Nat.le_of_ble_eq_true rfl) hkx3 ((dc_m_fewestSoThat hcall).up (by decide)) ?_
      refine tb_Es (k := 1) (st' := (16, [(0, .ref a0), (1, .int a1), (2, .int a2)], [.int a2, .int x3.1], x3.2)) rfl ?_
      replace h := Option.bind_eq_some_iff.mp h
      obtain ⟨x4, ex4, h⟩ := h
      have hcall := ex4
      refine tb_e_cs (v := some (.int x4.1)) rfl rfl rfl (Nat.le_of_ble_eq_true rfl) rfl (Nat.le_of_ble_eq_true rfl) ((dc_m_toldOf hcall).up (by decide)) ?_
      refine tb_Es (k := 1) (st' := (19, [(0, .ref a0), (1, .int a1), (2, .int a2)], [.int x4.1], x4.2)) rfl ?_
      obtain rfl := Option.some.inj h
      subst hr
      exact tb_Er rfl rfl
/-! TannerBuntingModel.down(I)I -/
def fb_m_down (a0 : Nat) (a1 : Int32) (w : tb_Hp) : Option (Int32 × tb_Hp) := (tb_on 22 a0 w (fb_m_isStreet a0 w)).bind fun x1 => (if x1.1 = 0 then some (-1, x1.2) else (fb_m_in (Int32.toInt64 a1) 0 1 x1.2).bind fun x2 => (if x2.1 = 0 then some (-1, x2.2) else (tb_on 22 a0 x2.2 (fb_m_standingOnes a0 x2.2)).bind fun x3 => (tb_on 22 a0 x3.2 (fb_m_fewestSoThat a0 x3.1 x3.2)).bind fun x4 => (fb_m_toldOf x4.1 a1 x4.2).bind fun x5 => some (x5.1, x5.2)))
set_option maxHeartbeats 4000000 in
set_option maxRecDepth 20000 in
theorem dc_m_down {a0 : Nat} {a1 : Int32} {w : tb_Hp} {o : Int32 × tb_Hp} (h : fb_m_down a0 a1 w = some o) : tb_Ev tb_P 8 266 (0, tb_ent [.ref a0, .int a1], [], w) (some (.int o.1), o.2) := by
  unfold fb_m_down at h
  obtain ⟨r, hr⟩ : ∃ r : Option Value × tb_Hp, r = (some (.int o.1), o.2) := ⟨_, rfl⟩
  rw [← hr]
  show tb_Ev tb_P 8 266 (0, [(0, .ref a0), (1, .int a1)], [], w) r
  refine tb_Es (k := 1) (st' := (1, [(0, .ref a0), (1, .int a1)], [.ref a0], w)) rfl ?_
  replace h := Option.bind_eq_some_iff.mp h
  obtain ⟨x1, ex1, h⟩ := h
  obtain ⟨hkx1, hcall⟩ := tb_on_some ex1
  refine tb_e_cv (v := some (.int x1.1)) rfl (Or.inl ⟨_, rfl⟩) rfl rfl (Nat.le_of_ble_eq_true rfl) rfl (Nat.le_of_ble_eq_true rfl) hkx1 ((dc_m_isStreet hcall).up (by decide)) ?_
  refine tb_b_ieq rfl (fun hc => ?_) (fun hc => ?_)
  · rw [if_pos hc] at h
    refine tb_Es (k := 1) (st' := (17, [(0, .ref a0), (1, .int a1)], [.int (-1)], x1.2)) rfl ?_
    obtain rfl := Option.some.inj h
    subst hr
    exact tb_Er rfl rfl
  · rw [if_neg hc] at h
    refine tb_Es (k := 4) (st' := (7, [(0, .ref a0), (1, .int a1)], [.long 1, .long 0, .long (Int32.toInt64 a1)], x1.2)) rfl ?_
    replace h := Option.bind_eq_some_iff.mp h
    obtain ⟨x2, ex2, h⟩ := h
    have hcall := ex2
    refine tb_e_cs (v := some (.int x2.1)) rfl rfl rfl (Nat.le_of_ble_eq_true rfl) rfl (Nat.le_of_ble_eq_true rfl) ((dc_m_in hcall).up (by decide)) ?_
    refine tb_b_ieq rfl (fun hc => ?_) (fun hc => ?_)
    · rw [if_pos hc] at h
      refine tb_Es (k := 1) (st' := (17, [(0, .ref a0), (1, .int a1)], [.int (-1)], x2.2)) rfl ?_
      obtain rfl := Option.some.inj h
      subst hr
      exact tb_Er rfl rfl
    · rw [if_neg hc] at h
      refine tb_Es (k := 2) (st' := (11, [(0, .ref a0), (1, .int a1)], [.ref a0, .ref a0], x2.2)) rfl ?_
      replace h := Option.bind_eq_some_iff.mp h
      obtain ⟨x3, ex3, h⟩ := h
      obtain ⟨hkx3, hcall⟩ := tb_on_some ex3
      refine tb_e_cv (v := some (.int x3.1)) rfl (Or.inl ⟨_, rfl⟩) rfl rfl (Nat.le_of_ble_eq_true rfl) rfl (Nat.le_of_ble_eq_true rfl) hkx3 ((dc_m_standingOnes hcall).up (by decide)) ?_
      replace h := Option.bind_eq_some_iff.mp h
      obtain ⟨x4, ex4, h⟩ := h
      obtain ⟨hkx4, hcall⟩ := tb_on_some ex4
      refine tb_e_cv (v := some (.int x4.1)) rfl (Or.inl ⟨_, rfl⟩) rfl rfl (Nat.le_of_ble_eq_true rfl) rfl (Nat.le_of_ble_eq_true rfl) hkx4 ((dc_m_fewestSoThat hcall).up (by decide)) ?_
      refine tb_Es (k := 1) (st' := (14, [(0, .ref a0), (1, .int a1)], [.int a1, .int x4.1], x4.2)) rfl ?_
      replace h := Option.bind_eq_some_iff.mp h
      obtain ⟨x5, ex5, h⟩ := h
      have hcall := ex5
      refine tb_e_cs (v := some (.int x5.1)) rfl rfl rfl (Nat.le_of_ble_eq_true rfl) rfl (Nat.le_of_ble_eq_true rfl) ((dc_m_toldOf hcall).up (by decide)) ?_
      refine tb_Es (k := 1) (st' := (17, [(0, .ref a0), (1, .int a1)], [.int x5.1], x5.2)) rfl ?_
      obtain rfl := Option.some.inj h
      subst hr
      exact tb_Er rfl rfl
/-! TannerBuntingModel.propped(II)I -/
def fl_m_propped_18 : Nat → Nat → Int32 → Int32 → Int32 → Int32 → tb_Hp → Option (Int32 × tb_Hp)
  | 0, _, _, _, _, _, _ => none
  | n + 1, v0, v1, v2, v3, v4, w => (if v4 ≤ 60 then (if v3 < 0 then (tb_gN 22 20 v0 w).bind fun p4 => (tb_lI [1, 9] p4 (22 + v1) w).bind fun x5 => (tb_tI p4 (22 + v1) (x5 + v4) w).bind fun w6 => (tb_on 22 v0 w6 (fb_m_passesAll v0 v2 w6)).bind fun x7 => (tb_on 22 v0 x7 (fb_m_isStanding v0 v1 x7)).bind fun x8 => (if x8.1 = 0 then (tb_on 22 v0 x8.2 (fb_m_laysBack v0 x8.2)).bind fun x9 => fl_m_propped_18 n v0 v1 v2 v3 (v4 + 1) x9 else (tb_on 22 v0 x8.2 (fb_m_laysBack v0 x8.2)).bind fun x10 => fl_m_propped_18 n v0 v1 v2 v4 (v4 + 1) x10) else some ((v3, w))) else some ((v3, w)))
set_option maxHeartbeats 4000000 in
set_option maxRecDepth 20000 in
theorem dl_m_propped_18 : ∀ (n : Nat) (v0 : Nat) (v1 : Int32) (v2 : Int32) (v3 : Int32) (v4 : Int32) (w : tb_Hp) (o : Int32 × tb_Hp), fl_m_propped_18 n v0 v1 v2 v3 v4 w = some o → ∀ (r : Option Value × tb_Hp), tb_Ev tb_P 8 272 (48, [(3, .int o.1)], [], o.2) r → tb_Ev tb_P 8 272 (19, [(0, .ref v0), (1, .int v1), (2, .int v2), (3, .int v3), (4, .int v4)], [], w) r := by
  intro n
  induction n with
  | zero =>
    intro v0 v1 v2 v3 v4 w o h
    cases h
  | succ n ih =>
    intro v0 v1 v2 v3 v4 w o h r hx
    unfold fl_m_propped_18 at h
    refine tb_Es (k := 2) (st' := (21, [(0, .ref v0), (1, .int v1), (2, .int v2), (3, .int v3), (4, .int v4)], [.int 60, .int v4], w)) rfl ?_
    refine tb_b_cgt rfl (fun hc => ?_) (fun hc => ?_)
    · rw [if_pos hc] at h
      refine tb_Es (k := 1) (st' := (23, [(0, .ref v0), (1, .int v1), (2, .int v2), (3, .int v3), (4, .int v4)], [.int v3], w)) rfl ?_
      refine tb_b_ige rfl (fun hc => ?_) (fun hc => ?_)
      · rw [if_pos hc] at h
        refine tb_Es (k := 1) (st' := (25, [(0, .ref v0), (1, .int v1), (2, .int v2), (3, .int v3), (4, .int v4)], [.ref v0], w)) rfl ?_
        replace h := Option.bind_eq_some_iff.mp h
        obtain ⟨p4, ep4, h⟩ := h
        refine tb_e_gN rfl ep4 ?_
        refine tb_Es (k := 4) (st' := (30, [(0, .ref v0), (1, .int v1), (2, .int v2), (3, .int v3), (4, .int v4)], [.int (22 + v1), .ref p4, .int (22 + v1), .ref p4], w)) rfl ?_
        replace h := Option.bind_eq_some_iff.mp h
        obtain ⟨x5, ex5, h⟩ := h
        refine tb_e_lI rfl (Or.inl ⟨rfl, rfl⟩) ex5 ?_
        refine tb_Es (k := 2) (st' := (33, [(0, .ref v0), (1, .int v1), (2, .int v2), (3, .int v3), (4, .int v4)], [.int (x5 + v4), .int (22 + v1), .ref p4], w)) rfl ?_
        replace h := Option.bind_eq_some_iff.mp h
        obtain ⟨w6, ew6, h⟩ := h
        refine tb_e_tI rfl ew6 ?_
        refine tb_Es (k := 2) (st' := (36, [(0, .ref v0), (1, .int v1), (2, .int v2), (3, .int v3), (4, .int v4)], [.int v2, .ref v0], w6)) rfl ?_
        replace h := Option.bind_eq_some_iff.mp h
        obtain ⟨x7, ex7, h⟩ := h
        obtain ⟨hkx7, hcall⟩ := tb_on_some ex7
        refine tb_e_cv (v := none) rfl (Or.inl ⟨_, rfl⟩) rfl rfl (Nat.le_of_ble_eq_true rfl) rfl (Nat.le_of_ble_eq_true rfl) hkx7 ((dc_m_passesAll hcall).up (by decide)) ?_
        refine tb_Es (k := 2) (st' := (39, [(0, .ref v0), (1, .int v1), (2, .int v2), (3, .int v3), (4, .int v4)], [.int v1, .ref v0], x7)) rfl ?_
        replace h := Option.bind_eq_some_iff.mp h
        obtain ⟨x8, ex8, h⟩ := h
        obtain ⟨hkx8, hcall⟩ := tb_on_some ex8
        refine tb_e_cv (v := some (.int x8.1)) rfl (Or.inl ⟨_, rfl⟩) rfl rfl (Nat.le_of_ble_eq_true rfl) rfl (Nat.le_of_ble_eq_true rfl) hkx8 ((dc_m_isStanding hcall).up (by decide)) ?_
        refine tb_b_ieq rfl (fun hc => ?_) (fun hc => ?_)
        · rw [if_pos hc] at h
          refine tb_Es (k := 1) (st' := (44, [(0, .ref v0), (1, .int v1), (2, .int v2), (3, .int v3), (4, .int v4)], [.ref v0], x8.2)) rfl ?_
          replace h := Option.bind_eq_some_iff.mp h
          obtain ⟨x9, ex9, h⟩ := h
          obtain ⟨hkx9, hcall⟩ := tb_on_some ex9
          refine tb_e_cv (v := none) rfl (Or.inl ⟨_, rfl⟩) rfl rfl (Nat.le_of_ble_eq_true rfl) rfl (Nat.le_of_ble_eq_true rfl) hkx9 ((dc_m_laysBack hcall).up (by decide)) ?_
          refine tb_Es (k := 3) (st' := (19, [(0, .ref v0), (1, .int v1), (2, .int v2), (3, .int v3), (4, .int (v4 + 1))], [], x9)) rfl ?_
          exact ih v0 v1 v2 v3 (v4 + 1) x9 _ h r hx
        · rw [if_neg hc] at h
          refine tb_Es (k := 3) (st' := (44, [(3, .int v4), (0, .ref v0), (1, .int v1), (2, .int v2), (4, .int v4)], [.ref v0], x8.2)) rfl ?_
          replace h := Option.bind_eq_some_iff.mp h
          obtain ⟨x10, ex10, h⟩ := h
          obtain ⟨hkx10, hcall⟩ := tb_on_some ex10
          refine tb_e_cv (v := none) rfl (Or.inl ⟨_, rfl⟩) rfl rfl (Nat.le_of_ble_eq_true rfl) rfl (Nat.le_of_ble_eq_true rfl) hkx10 ((dc_m_laysBack hcall).up (by decide)) ?_
          refine tb_Es (k := 3) (st' := (19, [(0, .ref v0), (1, .int v1), (2, .int v2), (3, .int v4), (4, .int (v4 + 1))], [], x10)) rfl ?_
          exact ih v0 v1 v2 v4 (v4 + 1) x10 _ h r hx
      · rw [if_neg hc] at h
        refine tb_Es (k := 1) (st' := (48, [(3, .int v3)], [], w)) rfl ?_
        obtain rfl := Option.some.inj h
        exact hx
    · rw [if_neg hc] at h
      refine tb_Es (k := 1) (st' := (48, [(3, .int v3)], [], w)) rfl ?_
      obtain rfl := Option.some.inj h
      exact hx
def fb_m_propped (a0 : Nat) (a1 : Int32) (a2 : Int32) (w : tb_Hp) : Option (Int32 × tb_Hp) := (tb_on 22 a0 w (fb_m_isStanding a0 a1 w)).bind fun x1 => (if x1.1 = 0 then some (-1, x1.2) else (fb_m_in (Int32.toInt64 a2) 1 40 x1.2).bind fun x2 => (if x2.1 = 0 then some (-1, x2.2) else (tb_on 22 a0 x2.2 (fb_m_keeps a0 x2.2)).bind fun x3 => (fl_m_propped_18 1048576 a0 a1 a2 (-2) 0 x3).bind fun o11 => some (o11.1, o11.2)))
set_option maxHeartbeats 4000000 in
set_option maxRecDepth 20000 in
theorem dc_m_propped {a0 : Nat} {a1 : Int32} {a2 : Int32} {w : tb_Hp} {o : Int32 × tb_Hp} (h : fb_m_propped a0 a1 a2 w = some o) : tb_Ev tb_P 8 272 (0, tb_ent [.ref a0, .int a1, .int a2], [], w) (some (.int o.1), o.2) := by
  unfold fb_m_propped at h
  obtain ⟨r, hr⟩ : ∃ r : Option Value × tb_Hp, r = (some (.int o.1), o.2) := ⟨_, rfl⟩
  rw [← hr]
  show tb_Ev tb_P 8 272 (0, [(0, .ref a0), (1, .int a1), (2, .int a2)], [], w) r
  refine tb_Es (k := 2) (st' := (2, [(0, .ref a0), (1, .int a1), (2, .int a2)], [.int a1, .ref a0], w)) rfl ?_
  replace h := Option.bind_eq_some_iff.mp h
  obtain ⟨x1, ex1, h⟩ := h
  obtain ⟨hkx1, hcall⟩ := tb_on_some ex1
  refine tb_e_cv (v := some (.int x1.1)) rfl (Or.inl ⟨_, rfl⟩) rfl rfl (Nat.le_of_ble_eq_true rfl) rfl (Nat.le_of_ble_eq_true rfl) hkx1 ((dc_m_isStanding hcall).up (by decide)) ?_
  refine tb_b_ieq rfl (fun hc => ?_) (fun hc => ?_)
  · rw [if_pos hc] at h
    refine tb_Es (k := 1) (st' := (11, [(0, .ref a0), (1, .int a1), (2, .int a2)], [.int (-1)], x1.2)) rfl ?_
    obtain rfl := Option.some.inj h
    subst hr
    exact tb_Er rfl rfl
  · rw [if_neg hc] at h
    refine tb_Es (k := 4) (st' := (8, [(0, .ref a0), (1, .int a1), (2, .int a2)], [.long 40, .long 1, .long (Int32.toInt64 a2)], x1.2)) rfl ?_
    replace h := Option.bind_eq_some_iff.mp h
    obtain ⟨x2, ex2, h⟩ := h
    have hcall := ex2
    refine tb_e_cs (v := some (.int x2.1)) rfl rfl rfl (Nat.le_of_ble_eq_true rfl) rfl (Nat.le_of_ble_eq_true rfl) ((dc_m_in hcall).up (by decide)) ?_
    refine tb_b_ine rfl (fun hc => ?_) (fun hc => ?_)
    · rw [if_pos hc] at h
      refine tb_Es (k := 1) (st' := (11, [(0, .ref a0), (1, .int a1), (2, .int a2)], [.int (-1)], x2.2)) rfl ?_
      obtain rfl := Option.some.inj h
      subst hr
      exact tb_Er rfl rfl
    · rw [if_neg hc] at h
      refine tb_Es (k := 3) (st' := (15, [(3, .int (-2)), (0, .ref a0), (1, .int a1), (2, .int a2)], [.ref a0], x2.2)) rfl ?_
      replace h := Option.bind_eq_some_iff.mp h
      obtain ⟨x3, ex3, h⟩ := h
      obtain ⟨hkx3, hcall⟩ := tb_on_some ex3
      refine tb_e_cv (v := none) rfl (Or.inl ⟨_, rfl⟩) rfl rfl (Nat.le_of_ble_eq_true rfl) rfl (Nat.le_of_ble_eq_true rfl) hkx3 ((dc_m_keeps hcall).up (by decide)) ?_
      refine tb_Es (k := 3) (st' := (19, [(0, .ref a0), (1, .int a1), (2, .int a2), (3, .int (-2)), (4, .int 0)], [], x3)) rfl ?_
      replace h := Option.bind_eq_some_iff.mp h
      obtain ⟨o11, eo11, h⟩ := h
      refine dl_m_propped_18 _ a0 a1 a2 (-2) 0 x3 _ eo11 r ?_
      refine tb_Es (k := 1) (st' := (49, [(3, .int o11.1)], [.int o11.1], o11.2)) rfl ?_
      obtain rfl := Option.some.inj h
      subst hr
      exact tb_Er rfl rfl
