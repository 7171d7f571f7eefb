/-! TannerBunting$Street.giveWay()I -/
def fj_s_giveWay_j34 (k : Nat → Int32 → Int32 → tb_Hp → Option (Int32 × tb_Hp)) (v0 : Nat) (v1 : Int32) (w : tb_Hp) : Option (Int32 × tb_Hp) := (tb_gI 17 5 v0 w).bind fun x3 => some ((v1 &&& (x3 ^^^ (-1)), w))
set_option maxHeartbeats 4000000 in
set_option maxRecDepth 20000 in
theorem dj_s_giveWay_j34 (k : Nat → Int32 → Int32 → tb_Hp → Option (Int32 × tb_Hp)) (v0 : Nat) (v1 : Int32) (w : tb_Hp) (o : Int32 × tb_Hp) (h : fj_s_giveWay_j34 k v0 v1 w = some o) (r : Option Value × tb_Hp) (hx : r = (some (.int o.1), o.2)) (hk : ∀ (v0 : Nat) (v1 : Int32) (v2 : Int32) (w : tb_Hp), k v0 v1 v2 w = some o → tb_Ev tb_P 3 86 (6, [(0, .ref v0), (1, .int v1), (2, .int v2)], [], w) r) : tb_Ev tb_P 3 86 (37, [(0, .ref v0), (1, .int v1)], [], w) r := by
  unfold fj_s_giveWay_j34 at h
  refine tb_Es (k := 2) (st' := (39, [(0, .ref v0), (1, .int v1)], [.ref v0, .int v1], w)) rfl ?_
  replace h := Option.bind_eq_some_iff.mp h
  obtain ⟨x3, ex3, h⟩ := h
  refine tb_e_gI rfl ex3 ?_
  refine tb_Es (k := 3) (st' := (43, [(0, .ref v0), (1, .int v1)], [.int (v1 &&& (x3 ^^^ (-1)))], w)) rfl ?_
  obtain rfl := Option.some.inj h
  replace hx : r = _ := hx
  subst hx
  exact tb_Er rfl rfl
def fj_s_giveWay_j13 (k : Nat → Int32 → Int32 → tb_Hp → Option (Int32 × tb_Hp)) (v0 : Nat) (v1 : Int32) (w : tb_Hp) : Option (Int32 × tb_Hp) := fj_s_giveWay_j34 k v0 v1 w
set_option maxHeartbeats 4000000 in
set_option maxRecDepth 20000 in
theorem dj_s_giveWay_j13 (k : Nat → Int32 → Int32 → tb_Hp → Option (Int32 × tb_Hp)) (v0 : Nat) (v1 : Int32) (w : tb_Hp) (o : Int32 × tb_Hp) (h : fj_s_giveWay_j13 k v0 v1 w = some o) (r : Option Value × tb_Hp) (hx : r = (some (.int o.1), o.2)) (hk : ∀ (v0 : Nat) (v1 : Int32) (v2 : Int32) (w : tb_Hp), k v0 v1 v2 w = some o → tb_Ev tb_P 3 86 (6, [(0, .ref v0), (1, .int v1), (2, .int v2)], [], w) r) : tb_Ev tb_P 3 86 (15, [(0, .ref v0), (1, .int v1)], [], w) r := by
  unfold fj_s_giveWay_j13 at h
  refine tb_Es (k := 2) (st' := (37, [(0, .ref v0), (1, .int v1)], [], w)) rfl ?_
  exact dj_s_giveWay_j34 k v0 v1 w _ h r hx hk
def fl_s_giveWay_5 : Nat → Nat → Int32 → Int32 → tb_Hp → Option (Int32 × tb_Hp)
  | 0, _, _, _, _ => none
  | n + 1, v0, v1, v2, w => (if v2 ≤ 10 then (tb_on 17 v0 w (fb_s_weak v0 w)).bind fun x2 => (if x2.1 = 0 then fj_s_giveWay_j13 (fl_s_giveWay_5 n) v0 v1 x2.2 else (tb_gI 17 5 v0 x2.2).bind fun x4 => (tb_pI 17 5 v0 (x4 &&& (x2.1 ^^^ (-1))) x2.2).bind fun w5 => (tb_gI 17 4 v0 w5).bind fun x6 => (tb_on 17 v0 w5 (fb_s_linesAtAny v0 x2.1 w5)).bind fun x7 => (tb_pI 17 4 v0 (x6 &&& (x7.1 ^^^ (-1))) x7.2).bind fun w8 => fl_s_giveWay_5 n v0 v1 (v2 + 1) w8) else fj_s_giveWay_j34 (fl_s_giveWay_5 n) v0 v1 w)
set_option maxHeartbeats 4000000 in
set_option maxRecDepth 20000 in
theorem dl_s_giveWay_5 : ∀ (n : Nat) (v0 : Nat) (v1 : Int32) (v2 : Int32) (w : tb_Hp) (o : Int32 × tb_Hp), fl_s_giveWay_5 n v0 v1 v2 w = some o → ∀ (r : Option Value × tb_Hp), r = (some (.int o.1), o.2) → tb_Ev tb_P 3 86 (6, [(0, .ref v0), (1, .int v1), (2, .int v2)], [], w) r := by
  intro n
  induction n with
  | zero =>
    intro v0 v1 v2 w o h
    cases h
  | succ n ih =>
    intro v0 v1 v2 w o h r hx
    unfold fl_s_giveWay_5 at h
    refine tb_Es (k := 2) (st' := (8, [(0, .ref v0), (1, .int v1), (2, .int v2)], [.int 10, .int v2], w)) rfl ?_
    refine tb_b_cgt rfl (fun hc => ?_) (fun hc => ?_)
    · rw [if_pos hc] at h
      refine tb_Es (k := 1) (st' := (10, [(0, .ref v0), (1, .int v1), (2, .int v2)], [.ref v0], w)) rfl ?_
      replace h := Option.bind_eq_some_iff.mp h
      obtain ⟨x2, ex2, h⟩ := h
      obtain ⟨hkx2, hcall⟩ := tb_on_some ex2
      refine tb_e_cv (v := some (.int x2.1)) rfl (Or.inl ⟨_, rfl⟩) rfl rfl (Nat.le_of_ble_eq_true rfl) rfl (Nat.le_of_ble_eq_true rfl) hkx2 ((dc_s_weak hcall).up (by decide)) ?_
      refine tb_Es (k := 2) (st' := (13, [(3, .int x2.1), (0, .ref v0), (1, .int v1), (2, .int v2)], [.int x2.1], x2.2)) rfl ?_
      refine tb_b_ine rfl (fun hc => ?_) (fun hc => ?_)
      · rw [if_pos hc] at h
        refine tb_Es (k := 1) (st' := (15, [(0, .ref v0), (1, .int v1)], [], x2.2)) rfl ?_
        exact dj_s_giveWay_j13 (fl_s_giveWay_5 n) v0 v1 x2.2 _ h r hx (fun v0_ v1_ v2_ w_ h_ => ih v0_ v1_ v2_ w_ _ h_ r hx)
      · rw [if_neg hc] at h
        refine tb_Es (k := 2) (st' := (18, [(3, .int x2.1), (0, .ref v0), (1, .int v1), (2, .int v2)], [.ref v0, .ref v0], x2.2)) rfl ?_
        replace h := Option.bind_eq_some_iff.mp h
        obtain ⟨x4, ex4, h⟩ := h
        refine tb_e_gI rfl ex4 ?_
        refine tb_Es (k := 4) (st' := (23, [(3, .int x2.1), (0, .ref v0), (1, .int v1), (2, .int v2)], [.int (x4 &&& (x2.1 ^^^ (-1))), .ref v0], x2.2)) rfl ?_
        replace h := Option.bind_eq_some_iff.mp h
        obtain ⟨w5, ew5, h⟩ := h
        refine tb_e_pI rfl ew5 ?_
        refine tb_Es (k := 2) (st' := (26, [(3, .int x2.1), (0, .ref v0), (1, .int v1), (2, .int v2)], [.ref v0, .ref v0], w5)) rfl ?_
        replace h := Option.bind_eq_some_iff.mp h
        obtain ⟨x6, ex6, h⟩ := h
        refine tb_e_gI rfl ex6 ?_
        refine tb_Es (k := 2) (st' := (29, [(3, .int x2.1), (0, .ref v0), (1, .int v1), (2, .int v2)], [.int x2.1, .ref v0, .int x6, .ref v0], w5)) rfl ?_
        replace h := Option.bind_eq_some_iff.mp h
        obtain ⟨x7, ex7, h⟩ := h
        obtain ⟨hkx7, hcall⟩ := tb_on_some ex7
        refine tb_e_cv (v := some (.int x7.1)) rfl (Or.inl ⟨_, rfl⟩) rfl rfl (Nat.le_of_ble_eq_true rfl) rfl (Nat.le_of_ble_eq_true rfl) hkx7 ((dc_s_linesAtAny hcall).up (by decide)) ?_
        refine tb_Es (k := 3) (st' := (33, [(3, .int x2.1), (0, .ref v0), (1, .int v1), (2, .int v2)], [.int (x6 &&& (x7.1 ^^^ (-1))), .ref v0], x7.2)) rfl ?_
        replace h := Option.bind_eq_some_iff.mp h
        obtain ⟨w8, ew8, h⟩ := h
        refine tb_e_pI rfl ew8 ?_
        refine tb_Es (k := 3) (st' := (6, [(0, .ref v0), (1, .int v1), (2, .int (v2 + 1))], [], w8)) rfl ?_
        exact ih v0 v1 (v2 + 1) w8 _ h r hx
    · rw [if_neg hc] at h
      refine tb_Es (k := 1) (st' := (37, [(0, .ref v0), (1, .int v1)], [], w)) rfl ?_
      exact dj_s_giveWay_j34 (fl_s_giveWay_5 n) v0 v1 w _ h r hx (fun v0_ v1_ v2_ w_ h_ => ih v0_ v1_ v2_ w_ _ h_ r hx)
def fb_s_giveWay (a0 : Nat) (w : tb_Hp) : Option (Int32 × tb_Hp) := (tb_gI 17 5 a0 w).bind fun x1 => (fl_s_giveWay_5 1048576 a0 x1 0 w).bind fun o9 => some o9
set_option maxHeartbeats 4000000 in
set_option maxRecDepth 20000 in
theorem dc_s_giveWay {a0 : Nat} {w : tb_Hp} {o : Int32 × tb_Hp} (h : fb_s_giveWay a0 w = some o) : tb_Ev tb_P 3 86 (0, tb_ent [.ref a0], [], w) (some (.int o.1), o.2) := by
  unfold fb_s_giveWay at h
  obtain ⟨r, hr⟩ : ∃ r : Option Value × tb_Hp, r = (some (.int o.1), o.2) := ⟨_, rfl⟩
  rw [← hr]
  show tb_Ev tb_P 3 86 (0, [(0, .ref a0)], [], w) r
  refine tb_Es (k := 1) (st' := (1, [(0, .ref a0)], [.ref a0], w)) rfl ?_
  replace h := Option.bind_eq_some_iff.mp h
  obtain ⟨x1, ex1, h⟩ := h
  refine tb_e_gI rfl ex1 ?_
  refine tb_Es (k := 4) (st' := (6, [(0, .ref a0), (1, .int x1), (2, .int 0)], [], w)) rfl ?_
  replace h := Option.bind_eq_some_iff.mp h
  obtain ⟨o9, eo9, h⟩ := h
  refine dl_s_giveWay_5 _ a0 x1 0 w _ eo9 r ?_
  obtain rfl := Option.some.inj h
  exact hr
/-! TannerBunting.hang(III)I -/
def fb_x_hang (a0 : Nat) (a1 : Int32) (a2 : Int32) (a3 : Int32) (w : tb_Hp) : Option (Int32 × tb_Hp) := (tb_gN 21 5 a0 w).bind fun p1 => (tb_gN 15 0 p1 w).bind fun p2 => (tb_on 17 p2 w (fb_s_leastNotUp p2 w)).bind fun x3 => (tb_on 17 p2 x3.2 (fb_s_canJoin p2 a1 a2 x3.2)).bind fun x4 => (if x4.1 = 0 then some (-1, x4.2) else (fb_x_within a3 1 40 x4.2).bind fun x5 => (if x5.1 = 0 then some (-1, x5.2) else (if x3.1 = (-1) then some (-1, x5.2) else (tb_gN 21 7 a0 x5.2).bind fun p6 => (tb_on 13 p6 x5.2 (fb_p_keep p6 p2 x5.2)).bind fun x7 => (tb_on 17 p2 x7 (fb_s_putUp p2 x3.1 a1 a2 a3 x7)).bind fun x8 => some (x3.1, x8))))
set_option maxHeartbeats 4000000 in
set_option maxRecDepth 20000 in
theorem dc_x_hang {a0 : Nat} {a1 : Int32} {a2 : Int32} {a3 : Int32} {w : tb_Hp} {o : Int32 × tb_Hp} (h : fb_x_hang a0 a1 a2 a3 w = some o) : tb_Ev tb_P 3 92 (0, tb_ent [.ref a0, .int a1, .int a2, .int a3], [], w) (some (.int o.1), o.2) := by
  unfold fb_x_hang at h
  obtain ⟨r, hr⟩ : ∃ r : Option Value × tb_Hp, r = (some (.int o.1), o.2) := ⟨_, rfl⟩
  rw [← hr]
  show tb_Ev tb_P 3 92 (0, [(0, .ref a0), (1, .int a1), (2, .int a2), (3, .int a3)], [], w) r
  refine tb_Es (k := 1) (st' := (1, [(0, .ref a0), (1, .int a1), (2, .int a2), (3, .int a3)], [.ref a0], w)) rfl ?_
  replace h := Option.bind_eq_some_iff.mp h
  obtain ⟨p1, ep1, h⟩ := h
  refine tb_e_gN rfl ep1 ?_
  replace h := Option.bind_eq_some_iff.mp h
  obtain ⟨p2, ep2, h⟩ := h
  refine tb_e_gN rfl ep2 ?_
  refine tb_Es (k := 2) (st' := (5, [(4, .ref p2), (0, .ref a0), (1, .int a1), (2, .int a2), (3, .int a3)], [.ref p2], w)) rfl ?_
  replace h := Option.bind_eq_some_iff.mp h
  obtain ⟨x3, ex3, h⟩ := h
  obtain ⟨hkx3, hcall⟩ := tb_on_some ex3
  refine tb_e_cv (v := some (.int x3.1)) rfl (Or.inl ⟨_, rfl⟩) rfl rfl (Nat.le_of_ble_eq_true rfl) rfl (Nat.le_of_ble_eq_true rfl) hkx3 ((dc_s_leastNotUp hcall).up (by decide)) ?_
  refine tb_Es (k := 4) (st' := (10, [(5, .int x3.1), (4, .ref p2), (0, .ref a0), (1, .int a1), (2, .int a2), (3, .int a3)], [.int a2, .int a1, .ref p2], x3.2)) rfl ?_
  replace h := Option.bind_eq_some_iff.mp h
  obtain ⟨x4, ex4, h⟩ := h
  obtain ⟨hkx4, hcall⟩ := tb_on_some ex4
  refine tb_e_cv (v := some (.int x4.1)) rfl (Or.inl ⟨_, rfl⟩) rfl rfl (Nat.le_of_ble_eq_true rfl) rfl (Nat.le_of_ble_eq_true rfl) hkx4 ((dc_s_canJoin hcall).up (by decide)) ?_
  refine tb_b_ieq rfl (fun hc => ?_) (fun hc => ?_)
  · rw [if_pos hc] at h
    refine tb_Es (k := 1) (st' := (21, [(5, .int x3.1), (4, .ref p2), (0, .ref a0), (1, .int a1), (2, .int a2), (3, .int a3)], [.int (-1)], x4.2)) rfl ?_
    obtain rfl := Option.some.inj h
    subst hr
    exact tb_Er rfl rfl
  · rw [if_neg hc] at h
    refine tb_Es (k := 3) (st' := (15, [(5, .int x3.1), (4, .ref p2), (0, .ref a0), (1, .int a1), (2, .int a2), (3, .int a3)], [.int 40, .int 1, .int a3], x4.2)) rfl ?_
    replace h := Option.bind_eq_some_iff.mp h
    obtain ⟨x5, ex5, h⟩ := h
    have hcall := ex5
    refine tb_e_cs (v := some (.int x5.1)) rfl rfl rfl (Nat.le_of_ble_eq_true rfl) rfl (Nat.le_of_ble_eq_true rfl) ((dc_x_within hcall).up (by decide)) ?_
    refine tb_b_ieq rfl (fun hc => ?_) (fun hc => ?_)
    · rw [if_pos hc] at h
      refine tb_Es (k := 1) (st' := (21, [(5, .int x3.1), (4, .ref p2), (0, .ref a0), (1, .int a1), (2, .int a2), (3, .int a3)], [.int (-1)], x5.2)) rfl ?_
      obtain rfl := Option.some.inj h
      subst hr
      exact tb_Er rfl rfl
    · rw [if_neg hc] at h
      refine tb_Es (k := 2) (st' := (19, [(5, .int x3.1), (4, .ref p2), (0, .ref a0), (1, .int a1), (2, .int a2), (3, .int a3)], [.int (-1), .int x3.1], x5.2)) rfl ?_
      refine tb_b_cne rfl (fun hc => ?_) (fun hc => ?_)
      · rw [if_pos hc] at h
        refine tb_Es (k := 1) (st' := (21, [(5, .int x3.1), (4, .ref p2), (0, .ref a0), (1, .int a1), (2, .int a2), (3, .int a3)], [.int (-1)], x5.2)) rfl ?_
        obtain rfl := Option.some.inj h
        subst hr
        exact tb_Er rfl rfl
      · rw [if_neg hc] at h
        refine tb_Es (k := 1) (st' := (23, [(5, .int x3.1), (4, .ref p2), (0, .ref a0), (1, .int a1), (2, .int a2), (3, .int a3)], [.ref a0], x5.2)) rfl ?_
        replace h := Option.bind_eq_some_iff.mp h
        obtain ⟨p6, ep6, h⟩ := h
        refine tb_e_gN rfl ep6 ?_
        refine tb_Es (k := 1) (st' := (25, [(5, .int x3.1), (4, .ref p2), (0, .ref a0), (1, .int a1), (2, .int a2), (3, .int a3)], [.ref p2, .ref p6], x5.2)) rfl ?_
        replace h := Option.bind_eq_some_iff.mp h
        obtain ⟨x7, ex7, h⟩ := h
        obtain ⟨hkx7, hcall⟩ := tb_on_some ex7
        refine tb_e_cv (v := none) rfl (Or.inl ⟨_, rfl⟩) rfl rfl (Nat.le_of_ble_eq_true rfl) rfl (Nat.le_of_ble_eq_true rfl) hkx7 ((dc_p_keep hcall).up (by decide)) ?_
        refine tb_Es (k := 5) (st' := (31, [(5, .int x3.1), (4, .ref p2), (0, .ref a0), (1, .int a1), (2, .int a2), (3, .int a3)], [.int a3, .int a2, .int a1, .int x3.1, .ref p2], x7)) rfl ?_
        replace h := Option.bind_eq_some_iff.mp h
        obtain ⟨x8, ex8, h⟩ := h
        obtain ⟨hkx8, hcall⟩ := tb_on_some ex8
        refine tb_e_cv (v := none) rfl (Or.inl ⟨_, rfl⟩) rfl rfl (Nat.le_of_ble_eq_true rfl) rfl (Nat.le_of_ble_eq_true rfl) hkx8 ((dc_s_putUp hcall).up (by decide)) ?_
        refine tb_Es (k := 1) (st' := (33, [(5, .int x3.1), (4, .ref p2), (0, .ref a0), (1, .int a1), (2, .int a2), (3, .int a3)], [.int x3.1], x8)) rfl ?_
        obtain rfl := Option.some.inj h
        subst hr
        exact tb_Er rfl rfl
/-! TannerBunting.spare(I)I -/
def fb_x_spare (a0 : Nat) (a1 : Int32) (w : tb_Hp) : Option (Int32 × tb_Hp) := (tb_gN 21 5 a0 w).bind fun p1 => (tb_gN 15 0 p1 w).bind fun p2 => (tb_on 17 p2 w (fb_s_stands p2 a1 w)).bind fun x3 => (if x3.1 = 0 then some (-1000, x3.2) else (tb_on 17 p2 x3.2 (fb_s_holdOf p2 a1 x3.2)).bind fun x4 => (tb_on 17 p2 x4.2 (fb_s_leanOf p2 a1 x4.2)).bind fun x5 => some (x4.1 - x5.1, x5.2))
set_option maxHeartbeats 4000000 in
set_option maxRecDepth 20000 in
theorem dc_x_spare {a0 : Nat} {a1 : Int32} {w : tb_Hp} {o : Int32 × tb_Hp} (h : fb_x_spare a0 a1 w = some o) : tb_Ev tb_P 3 106 (0, tb_ent [.ref a0, .int a1], [], w) (some (.int o.1), o.2) := by
  unfold fb_x_spare at h
  obtain ⟨r, hr⟩ : ∃ r : Option Value × tb_Hp, r = (some (.int o.1), o.2) := ⟨_, rfl⟩
  rw [← hr]
  show tb_Ev tb_P 3 106 (0, [(0, .ref a0), (1, .int a1)], [], w) r
  refine tb_Es (k := 1) (st' := (1, [(0, .ref a0), (1, .int a1)], [.ref a0], w)) rfl ?_
  replace h := Option.bind_eq_some_iff.mp h
  obtain ⟨p1, ep1, h⟩ := h
  refine tb_e_gN rfl ep1 ?_
  replace h := Option.bind_eq_some_iff.mp h
  obtain ⟨p2, ep2, h⟩ := h
  refine tb_e_gN rfl ep2 ?_
  refine tb_Es (k := 3) (st' := (6, [(2, .ref p2), (0, .ref a0), (1, .int a1)], [.int a1, .ref p2], w)) rfl ?_
  replace h := Option.bind_eq_some_iff.mp h
  obtain ⟨x3, ex3, h⟩ := h
  obtain ⟨hkx3, hcall⟩ := tb_on_some ex3
  refine tb_e_cv (v := some (.int x3.1)) rfl (Or.inl ⟨_, rfl⟩) rfl rfl (Nat.le_of_ble_eq_true rfl) rfl (Nat.le_of_ble_eq_true rfl) hkx3 ((dc_s_stands hcall).up (by decide)) ?_
  refine tb_b_ieq rfl (fun hc => ?_) (fun hc => ?_)
  · rw [if_pos hc] at h
    refine tb_Es (k := 1) (st' := (17, [(2, .ref p2), (0, .ref a0), (1, .int a1)], [.int (-1000)], x3.2)) rfl ?_
    obtain rfl := Option.some.inj h
    subst hr
    exact tb_Er rfl rfl
  · rw [if_neg hc] at h
    refine tb_Es (k := 2) (st' := (10, [(2, .ref p2), (0, .ref a0), (1, .int a1)], [.int a1, .ref p2], x3.2)) rfl ?_
    replace h := Option.bind_eq_some_iff.mp h
    obtain ⟨x4, ex4, h⟩ := h
    obtain ⟨hkx4, hcall⟩ := tb_on_some ex4
    refine tb_e_cv (v := some (.int x4.1)) rfl (Or.inl ⟨_, rfl⟩) rfl rfl (Nat.le_of_ble_eq_true rfl) rfl (Nat.le_of_ble_eq_true rfl) hkx4 ((dc_s_holdOf hcall).up (by decide)) ?_
    refine tb_Es (k := 2) (st' := (13, [(2, .ref p2), (0, .ref a0), (1, .int a1)], [.int a1, .ref p2, .int x4.1], x4.2)) rfl ?_
    replace h := Option.bind_eq_some_iff.mp h
    obtain ⟨x5, ex5, h⟩ := h
    obtain ⟨hkx5, hcall⟩ := tb_on_some ex5
    refine tb_e_cv (v := some (.int x5.1)) rfl (Or.inl ⟨_, rfl⟩) rfl rfl (Nat.le_of_ble_eq_true rfl) rfl (Nat.le_of_ble_eq_true rfl) hkx5 ((dc_s_leanOf hcall).up (by decide)) ?_
    refine tb_Es (k := 2) (st' := (17, [(2, .ref p2), (0, .ref a0), (1, .int a1)], [.int (x4.1 - x5.1)], x5.2)) rfl ?_
    obtain rfl := Option.some.inj h
    subst hr
    exact tb_Er rfl rfl
/-! TannerBunting$Hands.stepsBetween(LTannerBunting$Street;II)I -/
def fj_h_stepsBetween_j16 (k : Nat → Int32 → Int32 → Int32 → tb_Hp → Option (Int32 × tb_Hp)) (v5 : Int32) (w : tb_Hp) : Option (Int32 × tb_Hp) := some ((v5, w))
set_option maxHeartbeats 4000000 in
set_option maxRecDepth 20000 in
theorem dj_h_stepsBetween_j16 (k : Nat → Int32 → Int32 → Int32 → tb_Hp → Option (Int32 × tb_Hp)) (v5 : Int32) (w : tb_Hp) (o : Int32 × tb_Hp) (h : fj_h_stepsBetween_j16 k v5 w = some o) (r : Option Value × tb_Hp) (hx : r = (some (.int o.1), o.2)) (hk : ∀ (v1 : Nat) (v3 : Int32) (v4 : Int32) (v5 : Int32) (w : tb_Hp), k v1 v3 v4 v5 w = some o → tb_Ev tb_P 3 119 (7, [(1, .ref v1), (3, .int v3), (4, .int v4), (5, .int v5)], [], w) r) : tb_Ev tb_P 3 119 (18, [(5, .int v5)], [], w) r := by
  unfold fj_h_stepsBetween_j16 at h
  refine tb_Es (k := 1) (st' := (19, [(5, .int v5)], [.int v5], w)) rfl ?_
  obtain rfl := Option.some.inj h
  replace hx : r = _ := hx
  subst hx
  exact tb_Er rfl rfl
def fj_h_stepsBetween_j24 (k : Nat → Int32 → Int32 → Int32 → tb_Hp → Option (Int32 × tb_Hp)) (w : tb_Hp) : Option (Int32 × tb_Hp) := some ((-1, w))
set_option maxHeartbeats 4000000 in
set_option maxRecDepth 20000 in
theorem dj_h_stepsBetween_j24 (k : Nat → Int32 → Int32 → Int32 → tb_Hp → Option (Int32 × tb_Hp)) (w : tb_Hp) (o : Int32 × tb_Hp) (h : fj_h_stepsBetween_j24 k  w = some o) (r : Option Value × tb_Hp) (hx : r = (some (.int o.1), o.2)) (hk : ∀ (v1 : Nat) (v3 : Int32) (v4 : Int32) (v5 : Int32) (w : tb_Hp), k v1 v3 v4 v5 w = some o → tb_Ev tb_P 3 119 (7, [(1, .ref v1), (3, .int v3), (4, .int v4), (5, .int v5)], [], w) r) : tb_Ev tb_P 3 119 (27, [], [], w) r := by
  unfold fj_h_stepsBetween_j24 at h
  refine tb_Es (k := 1) (st' := (28, [], [.int (-1)], w)) rfl ?_
  obtain rfl := Option.some.inj h
  replace hx : r = _ := hx
  subst hx
  exact tb_Er rfl rfl
def fl_h_stepsBetween_6 : Nat → Nat → Int32 → Int32 → Int32 → tb_Hp → Option (Int32 × tb_Hp)
  | 0, _, _, _, _, _ => none
  | n + 1, v1, v3, v4, v5, w => (if v5 < 10 then (if ((v4 >>> (v3 &&& 31)) &&& 1) = 1 then fj_h_stepsBetween_j16 (fl_h_stepsBetween_6 n) v5 w else (fb_h_neighboursOf v1 v4 w).bind fun x1 => fl_h_stepsBetween_6 n v1 v3 x1.1 (v5 + 1) x1.2) else fj_h_stepsBetween_j24 (fl_h_stepsBetween_6 n)  w)
set_option maxHeartbeats 4000000 in
set_option maxRecDepth 20000 in
theorem dl_h_stepsBetween_6 : ∀ (n : Nat) (v1 : Nat) (v3 : Int32) (v4 : Int32) (v5 : Int32) (w : tb_Hp) (o : Int32 × tb_Hp), fl_h_stepsBetween_6 n v1 v3 v4 v5 w = some o → ∀ (r : Option Value × tb_Hp), r = (some (.int o.1), o.2) → tb_Ev tb_P 3 119 (7, [(1, .ref v1), (3, .int v3), (4, .int v4), (5, .int v5)], [], w) r := by
  intro n
  induction n with
  | zero =>
    intro v1 v3 v4 v5 w o h
    cases h
  | succ n ih =>
    intro v1 v3 v4 v5 w o h r hx
    unfold fl_h_stepsBetween_6 at h
    refine tb_Es (k := 2) (st' := (9, [(1, .ref v1), (3, .int v3), (4, .int v4), (5, .int v5)], [.int 10, .int v5], w)) rfl ?_
    refine tb_b_cge rfl (fun hc => ?_) (fun hc => ?_)
    · rw [if_pos hc] at h
      refine tb_Es (k := 6) (st' := (16, [(1, .ref v1), (3, .int v3), (4, .int v4), (5, .int v5)], [.int 1, .int ((v4 >>> (v3 &&& 31)) &&& 1)], w)) rfl ?_
      refine tb_b_cne rfl (fun hc => ?_) (fun hc => ?_)
      · rw [if_pos hc] at h
        refine tb_Es (k := 1) (st' := (18, [(5, .int v5)], [], w)) rfl ?_
        exact dj_h_stepsBetween_j16 (fl_h_stepsBetween_6 n) v5 w _ h r hx (fun v1_ v3_ v4_ v5_ w_ h_ => ih v1_ v3_ v4_ v5_ w_ _ h_ r hx)
      · rw [if_neg hc] at h
        refine tb_Es (k := 2) (st' := (22, [(1, .ref v1), (3, .int v3), (4, .int v4), (5, .int v5)], [.int v4, .ref v1], w)) rfl ?_
        replace h := Option.bind_eq_some_iff.mp h
        obtain ⟨x1, ex1, h⟩ := h
        have hcall := ex1
        refine tb_e_cs (v := some (.int x1.1)) rfl rfl rfl (Nat.le_of_ble_eq_true rfl) rfl (Nat.le_of_ble_eq_true rfl) ((dc_h_neighboursOf hcall).up (by decide)) ?_
        refine tb_Es (k := 4) (st' := (7, [(1, .ref v1), (3, .int v3), (4, .int x1.1), (5, .int (v5 + 1))], [], x1.2)) rfl ?_
        exact ih v1 v3 x1.1 (v5 + 1) x1.2 _ h r hx
    · rw [if_neg hc] at h
      refine tb_Es (k := 1) (st' := (27, [], [], w)) rfl ?_
      exact dj_h_stepsBetween_j24 (fl_h_stepsBetween_6 n)  w _ h r hx (fun v1_ v3_ v4_ v5_ w_ h_ => ih v1_ v3_ v4_ v5_ w_ _ h_ r hx)
def fb_h_stepsBetween (a0 : Nat) (a1 : Nat) (a2 : Int32) (a3 : Int32) (w : tb_Hp) : Option (Int32 × tb_Hp) := (fl_h_stepsBetween_6 1048576 a1 a3 (1 <<< (a2 &&& 31)) 0 w).bind fun o2 => some o2
set_option maxHeartbeats 4000000 in
set_option maxRecDepth 20000 in
theorem dc_h_stepsBetween {a0 : Nat} {a1 : Nat} {a2 : Int32} {a3 : Int32} {w : tb_Hp} {o : Int32 × tb_Hp} (h : fb_h_stepsBetween a0 a1 a2 a3 w = some o) : tb_Ev tb_P 3 119 (0, tb_ent [.ref a0, .ref a1, .int a2, .int a3], [], w) (some (.int o.1), o.2) := by
  unfold fb_h_stepsBetween at h
  obtain ⟨r, hr⟩ : ∃ r : Option Value × tb_Hp, r = (some (.int o.1), o.2) := ⟨_, rfl⟩
  rw [← hr]
  show tb_Ev tb_P 3 119 (0, [(0, .ref a0), (1, .ref a1), (2, .int a2), (3, .int a3)], [], w) r
  refine tb_Es (k := 7) (st' := (7, [(1, .ref a1), (3, .int a3), (4, .int (1 <<< (a2 &&& 31))), (5, .int 0)], [], w)) rfl ?_
  replace h := Option.bind_eq_some_iff.mp h
  obtain ⟨o2, eo2, h⟩ := h
  refine dl_h_stepsBetween_6 _ a1 a3 (1 <<< (a2 &&& 31)) 0 w _ eo2 r ?_
  obtain rfl := Option.some.inj h
  exact hr
/-! TannerBunting$Hands.blockOf(LTannerBunting$Street;I)I -/
def fl_h_blockOf_6 : Nat → Nat → Int32 → Int32 → tb_Hp → Option (Int32 × tb_Hp)
  | 0, _, _, _, _ => none
  | n + 1, v1, v3, v4, w => (if v4 < 10 then (fb_h_neighboursOf v1 v3 w).bind fun x1 => fl_h_blockOf_6 n v1 x1.1 (v4 + 1) x1.2 else some ((v3, w)))
set_option maxHeartbeats 4000000 in
set_option maxRecDepth 20000 in
theorem dl_h_blockOf_6 : ∀ (n : Nat) (v1 : Nat) (v3 : Int32) (v4 : Int32) (w : tb_Hp) (o : Int32 × tb_Hp), fl_h_blockOf_6 n v1 v3 v4 w = some o → ∀ (r : Option Value × tb_Hp), tb_Ev tb_P 3 123 (17, [(3, .int o.1)], [], o.2) r → tb_Ev tb_P 3 123 (7, [(1, .ref v1), (3, .int v3), (4, .int v4)], [], w) r := by
  intro n
  induction n with
  | zero =>
    intro v1 v3 v4 w o h
    cases h
  | succ n ih =>
    intro v1 v3 v4 w o h r hx
    unfold fl_h_blockOf_6 at h
    refine tb_Es (k := 2) (st' := (9, [(1, .ref v1), (3, .int v3), (4, .int v4)], [.int 10, .int v4], w)) rfl ?_
    refine tb_b_cge rfl (fun hc => ?_) (fun hc => ?_)
    · rw [if_pos hc] at h
      refine tb_Es (k := 2) (st' := (12, [(1, .ref v1), (3, .int v3), (4, .int v4)], [.int v3, .ref v1], w)) rfl ?_
      replace h := Option.bind_eq_some_iff.mp h
      obtain ⟨x1, ex1, h⟩ := h
      have hcall := ex1
      refine tb_e_cs (v := some (.int x1.1)) rfl rfl rfl (Nat.le_of_ble_eq_true rfl) rfl (Nat.le_of_ble_eq_true rfl) ((dc_h_neighboursOf hcall).up (by decide)) ?_
      refine tb_Es (k := 4) (st' := (7, [(1, .ref v1), (3, .int x1.1), (4, .int (v4 + 1))], [], x1.2)) rfl ?_
      exact ih v1 x1.1 (v4 + 1) x1.2 _ h r hx
    · rw [if_neg hc] at h
      refine tb_Es (k := 1) (st' := (17, [(3, .int v3)], [], w)) rfl ?_
      obtain rfl := Option.some.inj h
      exact hx
def fb_h_blockOf (a0 : Nat) (a1 : Nat) (a2 : Int32) (w : tb_Hp) : Option (Int32 × tb_Hp) := (fl_h_blockOf_6 1048576 a1 (1 <<< (a2 &&& 31)) 0 w).bind fun o2 => some (o2.1, o2.2)
set_option maxHeartbeats 4000000 in
set_option maxRecDepth 20000 in
theorem dc_h_blockOf {a0 : Nat} {a1 : Nat} {a2 : Int32} {w : tb_Hp} {o : Int32 × tb_Hp} (h : fb_h_blockOf a0 a1 a2 w = some o) : tb_Ev tb_P 3 123 (0, tb_ent [.ref a0, .ref a1, .int a2], [], w) (some (.int o.1), o.2) := by
  unfold fb_h_blockOf at h
  obtain ⟨r, hr⟩ : ∃ r : Option Value × tb_Hp, r = (some (.int o.1), o.2) := ⟨_, rfl⟩
  rw [← hr]
  show tb_Ev tb_P 3 123 (0, [(0, .ref a0), (1, .ref a1), (2, .int a2)], [], w) r
  refine tb_Es (k := 7) (st' := (7, [(1, .ref a1), (3, .int (1 <<< (a2 &&& 31))), (4, .int 0)], [], w)) rfl ?_
  replace h := Option.bind_eq_some_iff.mp h
  obtain ⟨o2, eo2, h⟩ := h
  refine dl_h_blockOf_6 _ a1 (1 <<< (a2 &&& 31)) 0 w _ eo2 r ?_
  refine tb_Es (k := 1) (st' := (18, [(3, .int o2.1)], [.int o2.1], o2.2)) rfl ?_
  obtain rfl := Option.some.inj h
  subst hr
  exact tb_Er rfl rfl
/-! TannerBunting$Hands.joinedTo(LTannerBunting$Street;I)I -/
def fb_h_joinedTo (a0 : Nat) (a1 : Int32) (w : tb_Hp) : Option (Int32 × tb_Hp) := (fb_h_neighboursOf a0 (1 <<< (a1 &&& 31)) w).bind fun x1 => (tb_gI 17 0 a0 x1.2).bind fun x2 => some (x1.1 >>> (x2 &&& 31), x1.2)
set_option maxHeartbeats 4000000 in
set_option maxRecDepth 20000 in
theorem dc_h_joinedTo {a0 : Nat} {a1 : Int32} {w : tb_Hp} {o : Int32 × tb_Hp} (h : fb_h_joinedTo a0 a1 w = some o) : tb_Ev tb_P 3 129 (0, tb_ent [.ref a0, .int a1], [], w) (some (.int o.1), o.2) := by
  unfold fb_h_joinedTo at h
  obtain ⟨r, hr⟩ : ∃ r : Option Value × tb_Hp, r = (some (.int o.1), o.2) := ⟨_, rfl⟩
  rw [← hr]
  show tb_Ev tb_P 3 129 (0, [(0, .ref a0), (1, .int a1)], [], w) r
  refine tb_Es (k := 4) (st' := (4, [(0, .ref a0), (1, .int a1)], [.int (1 <<< (a1 &&& 31)), .ref a0], w)) rfl ?_
  replace h := Option.bind_eq_some_iff.mp h
  obtain ⟨x1, ex1, h⟩ := h
  have hcall := ex1
  refine tb_e_cs (v := some (.int x1.1)) rfl rfl rfl (Nat.le_of_ble_eq_true rfl) rfl (Nat.le_of_ble_eq_true rfl) ((dc_h_neighboursOf hcall).up (by decide)) ?_
  refine tb_Es (k := 1) (st' := (6, [(0, .ref a0), (1, .int a1)], [.ref a0, .int x1.1], x1.2)) rfl ?_
  replace h := Option.bind_eq_some_iff.mp h
  obtain ⟨x2, ex2, h⟩ := h
  refine tb_e_gI rfl ex2 ?_
  refine tb_Es (k := 1) (st' := (8, [(0, .ref a0), (1, .int a1)], [.int (x1.1 >>> (x2 &&& 31))], x1.2)) rfl ?_
  obtain rfl := Option.some.inj h
  subst hr
  exact tb_Er rfl rfl
/-! TannerBunting.penceOf(LTannerBunting$Street;II)I -/
def fj_x_penceOf_j53 (k : Nat → Int32 → Int32 → Int32 → Int32 → Int32 → Int32 → Int32 → tb_Hp → Option (Int32 × Int32 × Int32 × Int32 × tb_Hp)) (v0 : Nat) (v1 : Int32) (v2 : Int32) (v3 : Int32) (v4 : Int32) (v5 : Int32) (v6 : Int32) (v7 : Int32) (v8 : Int32) (s0 : Int32) (w : tb_Hp) : Option (Int32 × Int32 × Int32 × Int32 × tb_Hp) := (if s0 = 0 then if v3 = 0 then none else if v3 = 0 then none else (if (v8 - v8 / v3 * v3) = (v4 - v4 / v3 * v3) then (if v7 < v2 then k v0 v1 v2 v3 v4 v5 (v6 + 1) (v7 + 1) w else k v0 v1 v2 v3 v4 v5 v6 (v7 + 1) w) else k v0 v1 v2 v3 v4 v5 v6 (v7 + 1) w) else k v0 v1 v2 v3 v4 v5 (v6 + 1) (v7 + 1) w)
set_option maxHeartbeats 4000000 in
set_option maxRecDepth 20000 in
theorem dj_x_penceOf_j53 (k : Nat → Int32 → Int32 → Int32 → Int32 → Int32 → Int32 → Int32 → tb_Hp → Option (Int32 × Int32 × Int32 × Int32 × tb_Hp)) (v0 : Nat) (v1 : Int32) (v2 : Int32) (v3 : Int32) (v4 : Int32) (v5 : Int32) (v6 : Int32) (v7 : Int32) (v8 : Int32) (s0 : Int32) (w : tb_Hp) (o : Int32 × Int32 × Int32 × Int32 × tb_Hp) (h : fj_x_penceOf_j53 k v0 v1 v2 v3 v4 v5 v6 v7 v8 s0 w = some o) (r : Option Value × tb_Hp) (hx : tb_Ev tb_P 3 150 (72, [(3, .int o.1), (4, .int o.2.1), (5, .int o.2.2.1), (6, .int o.2.2.2.1)], [], o.2.2.2.2) r) (hk : ∀ (v0 : Nat) (v1 : Int32) (v2 : Int32) (v3 : Int32) (v4 : Int32) (v5 : Int32) (v6 : Int32) (v7 : Int32) (w : tb_Hp), k v0 v1 v2 v3 v4 v5 v6 v7 w = some o → tb_Ev tb_P 3 150 (24, [(0, .ref v0), (1, .int v1), (2, .int v2), (3, .int v3), (4, .int v4), (5, .int v5), (6, .int v6), (7, .int v7)], [], w) r) : tb_Ev tb_P 3 150 (55, [(0, .ref v0), (1, .int v1), (2, .int v2), (3, .int v3), (4, .int v4), (5, .int v5), (6, .int v6), (7, .int v7), (8, .int v8)], [.int s0], w) r := by
  unfold fj_x_penceOf_j53 at h
  refine tb_Es (k := 2) (st' := (57, [(9, .int s0), (0, .ref v0), (1, .int v1), (2, .int v2), (3, .int v3), (4, .int v4), (5, .int v5), (6, .int v6), (7, .int v7), (8, .int v8)], [.int s0], w)) rfl ?_
  refine tb_b_ine rfl (fun hc => ?_) (fun hc => ?_)
  · rw [if_pos hc] at h
    refine tb_Es (k := 2) (st' := (60, [(9, .int s0), (0, .ref v0), (1, .int v1), (2, .int v2), (3, .int v3), (4, .int v4), (5, .int v5), (6, .int v6), (7, .int v7), (8, .int v8)], [.int v3, .int v8], w)) rfl ?_
    by_cases hz : v3 = 0
    · rw [if_pos hz] at h
      cases h
    rw [if_neg hz] at h
    refine tb_e_irem rfl hz ?_
    refine tb_Es (k := 2) (st' := (63, [(9, .int s0), (0, .ref v0), (1, .int v1), (2, .int v2), (3, .int v3), (4, .int v4), (5, .int v5), (6, .int v6), (7, .int v7), (8, .int v8)], [.int v3, .int v4, .int (v8 - v8 / v3 * v3)], w)) rfl ?_
    by_cases hz : v3 = 0
    · rw [if_pos hz] at h
      cases h
    rw [if_neg hz] at h
    refine tb_e_irem rfl hz ?_
    refine tb_b_cne rfl (fun hc => ?_) (fun hc => ?_)
    · rw [if_pos hc] at h
      refine tb_Es (k := 2) (st' := (67, [(9, .int s0), (0, .ref v0), (1, .int v1), (2, .int v2), (3, .int v3), (4, .int v4), (5, .int v5), (6, .int v6), (7, .int v7), (8, .int v8)], [.int v2, .int v7], w)) rfl ?_
      refine tb_b_cge rfl (fun hc => ?_) (fun hc => ?_)
      · rw [if_pos hc] at h
        refine tb_Es (k := 4) (st' := (24, [(0, .ref v0), (1, .int v1), (2, .int v2), (3, .int v3), (4, .int v4), (5, .int v5), (6, .int (v6 + 1)), (7, .int (v7 + 1))], [], w)) rfl ?_
        exact hk v0 v1 v2 v3 v4 v5 (v6 + 1) (v7 + 1) w h
      · rw [if_neg hc] at h
        refine tb_Es (k := 3) (st' := (24, [(0, .ref v0), (1, .int v1), (2, .int v2), (3, .int v3), (4, .int v4), (5, .int v5), (6, .int v6), (7, .int (v7 + 1))], [], w)) rfl ?_
        exact hk v0 v1 v2 v3 v4 v5 v6 (v7 + 1) w h
    · rw [if_neg hc] at h
      refine tb_Es (k := 3) (st' := (24, [(0, .ref v0), (1, .int v1), (2, .int v2), (3, .int v3), (4, .int v4), (5, .int v5), (6, .int v6), (7, .int (v7 + 1))], [], w)) rfl ?_
      exact hk v0 v1 v2 v3 v4 v5 v6 (v7 + 1) w h
  · rw [if_neg hc] at h
    refine tb_Es (k := 4) (st' := (24, [(0, .ref v0), (1, .int v1), (2, .int v2), (3, .int v3), (4, .int v4), (5, .int v5), (6, .int (v6 + 1)), (7, .int (v7 + 1))], [], w)) rfl ?_
    exact hk v0 v1 v2 v3 v4 v5 (v6 + 1) (v7 + 1) w h
def fl_x_penceOf_23 : Nat → Nat → Int32 → Int32 → Int32 → Int32 → Int32 → Int32 → Int32 → tb_Hp → Option (Int32 × Int32 × Int32 × Int32 × tb_Hp)
  | 0, _, _, _, _, _, _, _, _, _ => none
  | n + 1, v0, v1, v2, v3, v4, v5, v6, v7, w => (tb_on 17 v0 w (fb_s_houses v0 w)).bind fun x4 => (if v7 < x4.1 then (tb_on 17 v0 x4.2 (fb_s_stands v0 v7 x4.2)).bind fun x5 => (if x5.1 = 0 then fl_x_penceOf_23 n v0 v1 v2 v3 v4 v5 v6 (v7 + 1) x5.2 else (tb_on 17 v0 x5.2 (fb_s_leanOf v0 v7 x5.2)).bind fun x6 => if v3 = 0 then none else if v3 = 0 then none else if v3 = 0 then none else (if (v4 - v4 / v3 * v3) < ((v1 * x6.1) - (v1 * x6.1) / v3 * v3) then fj_x_penceOf_j53 (fl_x_penceOf_23 n) v0 v1 v2 v3 v4 (v5 - ((v1 * x6.1) / v3)) v6 v7 (v1 * x6.1) 1 x6.2 else fj_x_penceOf_j53 (fl_x_penceOf_23 n) v0 v1 v2 v3 v4 (v5 - ((v1 * x6.1) / v3)) v6 v7 (v1 * x6.1) 0 x6.2)) else some ((v3, v4, v5, v6, x4.2)))
set_option maxHeartbeats 4000000 in
set_option maxRecDepth 20000 in
theorem dl_x_penceOf_23 : ∀ (n : Nat) (v0 : Nat) (v1 : Int32) (v2 : Int32) (v3 : Int32) (v4 : Int32) (v5 : Int32) (v6 : Int32) (v7 : Int32) (w : tb_Hp) (o : Int32 × Int32 × Int32 × Int32 × tb_Hp), fl_x_penceOf_23 n v0 v1 v2 v3 v4 v5 v6 v7 w = some o → ∀ (r : Option Value × tb_Hp), tb_Ev tb_P 3 150 (72, [(3, .int o.1), (4, .int o.2.1), (5, .int o.2.2.1), (6, .int o.2.2.2.1)], [], o.2.2.2.2) r → tb_Ev tb_P 3 150 (24, [(0, .ref v0), (1, .int v1), (2, .int v2), (3, .int v3), (4, .int v4), (5, .int v5), (6, .int v6), (7, .int v7)], [], w) r := by
  intro n
  induction n with
  | zero =>
    intro v0 v1 v2 v3 v4 v5 v6 v7 w o h
    cases h
  | succ n ih =>
    intro v0 v1 v2 v3 v4 v5 v6 v7 w o h r hx
    unfold fl_x_penceOf_23 at h
    refine tb_Es (k := 2) (st' := (26, [(0, .ref v0), (1, .int v1), (2, .int v2), (3, .int v3), (4, .int v4), (5, .int v5), (6, .int v6), (7, .int v7)], [.ref v0, .int v7], w)) rfl ?_
    replace h := Option.bind_eq_some_iff.mp h
    obtain ⟨x4, ex4, h⟩ := h
    obtain ⟨hkx4, hcall⟩ := tb_on_some ex4
    refine tb_e_cv (v := some (.int x4.1)) rfl (Or.inl ⟨_, rfl⟩) rfl rfl (Nat.le_of_ble_eq_true rfl) rfl (Nat.le_of_ble_eq_true rfl) hkx4 ((dc_s_houses hcall).up (by decide)) ?_
    refine tb_b_cge rfl (fun hc => ?_) (fun hc => ?_)
    · rw [if_pos hc] at h
      refine tb_Es (k := 2) (st' := (30, [(0, .ref v0), (1, .int v1), (2, .int v2), (3, .int v3), (4, .int v4), (5, .int v5), (6, .int v6), (7, .int v7)], [.int v7, .ref v0], x4.2)) rfl ?_
      replace h := Option.bind_eq_some_iff.mp h
      obtain ⟨x5, ex5, h⟩ := h
      obtain ⟨hkx5, hcall⟩ := tb_on_some ex5
      refine tb_e_cv (v := some (.int x5.1)) rfl (Or.inl ⟨_, rfl⟩) rfl rfl (Nat.le_of_ble_eq_true rfl) rfl (Nat.le_of_ble_eq_true rfl) hkx5 ((dc_s_stands hcall).up (by decide)) ?_
      refine tb_b_ieq rfl (fun hc => ?_) (fun hc => ?_)
      · rw [if_pos hc] at h
        refine tb_Es (k := 3) (st' := (24, [(0, .ref v0), (1, .int v1), (2, .int v2), (3, .int v3), (4, .int v4), (5, .int v5), (6, .int v6), (7, .int (v7 + 1))], [], x5.2)) rfl ?_
        exact ih v0 v1 v2 v3 v4 v5 v6 (v7 + 1) x5.2 _ h r hx
      · rw [if_neg hc] at h
        refine tb_Es (k := 3) (st' := (35, [(0, .ref v0), (1, .int v1), (2, .int v2), (3, .int v3), (4, .int v4), (5, .int v5), (6, .int v6), (7, .int v7)], [.int v7, .ref v0, .int v1], x5.2)) rfl ?_
        replace h := Option.bind_eq_some_iff.mp h
        obtain ⟨x6, ex6, h⟩ := h
        obtain ⟨hkx6, hcall⟩ := tb_on_some ex6
        refine tb_e_cv (v := some (.int x6.1)) rfl (Or.inl ⟨_, rfl⟩) rfl rfl (Nat.le_of_ble_eq_true rfl) rfl (Nat.le_of_ble_eq_true rfl) hkx6 ((dc_s_leanOf hcall).up (by decide)) ?_
        refine tb_Es (k := 5) (st' := (41, [(8, .int (v1 * x6.1)), (0, .ref v0), (1, .int v1), (2, .int v2), (3, .int v3), (4, .int v4), (5, .int v5), (6, .int v6), (7, .int v7)], [.int v3, .int (v1 * x6.1), .int v5], x6.2)) rfl ?_
        by_cases hz : v3 = 0
        · rw [if_pos hz] at h
          cases h
        rw [if_neg hz] at h
        refine tb_e_idiv rfl hz ?_
        refine tb_Es (k := 4) (st' := (46, [(5, .int (v5 - ((v1 * x6.1) / v3))), (8, .int (v1 * x6.1)), (0, .ref v0), (1, .int v1), (2, .int v2), (3, .int v3), (4, .int v4), (6, .int v6), (7, .int v7)], [.int v3, .int (v1 * x6.1)], x6.2)) rfl ?_
        by_cases hz : v3 = 0
        · rw [if_pos hz] at h
          cases h
        rw [if_neg hz] at h
        refine tb_e_irem rfl hz ?_
        refine tb_Es (k := 2) (st' := (49, [(5, .int (v5 - ((v1 * x6.1) / v3))), (8, .int (v1 * x6.1)), (0, .ref v0), (1, .int v1), (2, .int v2), (3, .int v3), (4, .int v4), (6, .int v6), (7, .int v7)], [.int v3, .int v4, .int ((v1 * x6.1) - (v1 * x6.1) / v3 * v3)], x6.2)) rfl ?_
        by_cases hz : v3 = 0
        · rw [if_pos hz] at h
          cases h
        rw [if_neg hz] at h
        refine tb_e_irem rfl hz ?_
        refine tb_b_cle rfl (fun hc => ?_) (fun hc => ?_)
        · rw [if_pos hc] at h
          refine tb_Es (k := 3) (st' := (55, [(0, .ref v0), (1, .int v1), (2, .int v2), (3, .int v3), (4, .int v4), (5, .int (v5 - ((v1 * x6.1) / v3))), (6, .int v6), (7, .int v7), (8, .int (v1 * x6.1))], [.int 1], x6.2)) rfl ?_
          exact dj_x_penceOf_j53 (fl_x_penceOf_23 n) v0 v1 v2 v3 v4 (v5 - ((v1 * x6.1) / v3)) v6 v7 (v1 * x6.1) 1 x6.2 _ h r hx (fun v0_ v1_ v2_ v3_ v4_ v5_ v6_ v7_ w_ h_ => ih v0_ v1_ v2_ v3_ v4_ v5_ v6_ v7_ w_ _ h_ r hx)
        · rw [if_neg hc] at h
          refine tb_Es (k := 2) (st' := (55, [(0, .ref v0), (1, .int v1), (2, .int v2), (3, .int v3), (4, .int v4), (5, .int (v5 - ((v1 * x6.1) / v3))), (6, .int v6), (7, .int v7), (8, .int (v1 * x6.1))], [.int 0], x6.2)) rfl ?_
          exact dj_x_penceOf_j53 (fl_x_penceOf_23 n) v0 v1 v2 v3 v4 (v5 - ((v1 * x6.1) / v3)) v6 v7 (v1 * x6.1) 0 x6.2 _ h r hx (fun v0_ v1_ v2_ v3_ v4_ v5_ v6_ v7_ w_ h_ => ih v0_ v1_ v2_ v3_ v4_ v5_ v6_ v7_ w_ _ h_ r hx)
    · rw [if_neg hc] at h
      refine tb_Es (k := 1) (st' := (72, [(3, .int v3), (4, .int v4), (5, .int v5), (6, .int v6)], [], x4.2)) rfl ?_
      obtain rfl := Option.some.inj h
      exact hx
def fb_x_penceOf (a0 : Nat) (a1 : Int32) (a2 : Int32) (w : tb_Hp) : Option (Int32 × tb_Hp) := (tb_on 17 a0 w (fb_s_allLean a0 w)).bind fun x1 => (if 0 < x1.1 then (tb_on 17 a0 x1.2 (fb_s_stands a0 a2 x1.2)).bind fun x2 => (if x2.1 = 0 then some (0, x2.2) else (tb_on 17 a0 x2.2 (fb_s_leanOf a0 a2 x2.2)).bind fun x3 => (fl_x_penceOf_23 1048576 a0 a1 a2 x1.1 (a1 * x3.1) a1 0 0 x3.2).bind fun o7 => if o7.1 = 0 then none else (if o7.2.2.2.1 < o7.2.2.1 then some ((o7.2.1 / o7.1) + 1, o7.2.2.2.2) else some ((o7.2.1 / o7.1) + 0, o7.2.2.2.2))) else some (0, x1.2))
set_option maxHeartbeats 4000000 in
set_option maxRecDepth 20000 in
theorem dc_x_penceOf {a0 : Nat} {a1 : Int32} {a2 : Int32} {w : tb_Hp} {o : Int32 × tb_Hp} (h : fb_x_penceOf a0 a1 a2 w = some o) : tb_Ev tb_P 3 150 (0, tb_ent [.ref a0, .int a1, .int a2], [], w) (some (.int o.1), o.2) := by
  unfold fb_x_penceOf at h
  obtain ⟨r, hr⟩ : ∃ r : Option Value × tb_Hp, r = (some (.int o.1), o.2) := ⟨_, rfl⟩
  rw [← hr]
  show tb_Ev tb_P 3 150 (0, [(0, .ref a0), (1, .int a1), (2, .int a2)], [], w) r
  refine tb_Es (k := 1) (st' := (1, [(0, .ref a0), (1, .int a1), (2, .int a2)], [.ref a0], w)) rfl ?_
  replace h := Option.bind_eq_some_iff.mp h
  obtain ⟨x1, ex1, h⟩ := h
  obtain ⟨hkx1, hcall⟩ := tb_on_some ex1
  refine tb_e_cv (v := some (.int x1.1)) rfl (Or.inl ⟨_, rfl⟩) rfl rfl (Nat.le_of_ble_eq_true rfl) rfl (Nat.le_of_ble_eq_true rfl) hkx1 ((dc_s_allLean hcall).up (by decide)) ?_
  refine tb_Es (k := 2) (st' := (4, [(3, .int x1.1), (0, .ref a0), (1, .int a1), (2, .int a2)], [.int x1.1], x1.2)) rfl ?_
  refine tb_b_ile rfl (fun hc => ?_) (fun hc => ?_)
  · rw [if_pos hc] at h
    refine tb_Es (k := 2) (st' := (7, [(3, .int x1.1), (0, .ref a0), (1, .int a1), (2, .int a2)], [.int a2, .ref a0], x1.2)) rfl ?_
    replace h := Option.bind_eq_some_iff.mp h
    obtain ⟨x2, ex2, h⟩ := h
    obtain ⟨hkx2, hcall⟩ := tb_on_some ex2
    refine tb_e_cv (v := some (.int x2.1)) rfl (Or.inl ⟨_, rfl⟩) rfl rfl (Nat.le_of_ble_eq_true rfl) rfl (Nat.le_of_ble_eq_true rfl) hkx2 ((dc_s_stands hcall).up (by decide)) ?_
    refine tb_b_ine rfl (fun hc => ?_) (fun hc => ?_)
    · rw [if_pos hc] at h
      refine tb_Es (k := 1) (st' := (10, [(3, .int x1.1), (0, .ref a0), (1, .int a1), (2, .int a2)], [.int 0], x2.2)) rfl ?_
      obtain rfl := Option.some.inj h
      subst hr
      exact tb_Er rfl rfl
    · rw [if_neg hc] at h
      refine tb_Es (k := 3) (st' := (14, [(3, .int x1.1), (0, .ref a0), (1, .int a1), (2, .int a2)], [.int a2, .ref a0, .int a1], x2.2)) rfl ?_
      replace h := Option.bind_eq_some_iff.mp h
      obtain ⟨x3, ex3, h⟩ := h
      obtain ⟨hkx3, hcall⟩ := tb_on_some ex3
      refine tb_e_cv (v := some (.int x3.1)) rfl (Or.inl ⟨_, rfl⟩) rfl rfl (Nat.le_of_ble_eq_true rfl) rfl (Nat.le_of_ble_eq_true rfl) hkx3 ((dc_s_leanOf hcall).up (by decide)) ?_
      refine tb_Es (k := 9) (st' := (24, [(0, .ref a0), (1, .int a1), (2, .int a2), (3, .int x1.1), (4, .int (a1 * x3.1)), (5, .int a1), (6, .int 0), (7, .int 0)], [], x3.2)) rfl ?_
      replace h := Option.bind_eq_some_iff.mp h
      obtain ⟨o7, eo7, h⟩ := h
      refine dl_x_penceOf_23 _ a0 a1 a2 x1.1 (a1 * x3.1) a1 0 0 x3.2 _ eo7 r ?_
      refine tb_Es (k := 2) (st' := (74, [(3, .int o7.1), (4, .int o7.2.1), (5, .int o7.2.2.1), (6, .int o7.2.2.2.1)], [.int o7.1, .int o7.2.1], o7.2.2.2.2)) rfl ?_
      by_cases hz : o7.1 = 0
      · rw [if_pos hz] at h
        cases h
      rw [if_neg hz] at h
      refine tb_e_idiv rfl hz ?_
      refine tb_Es (k := 2) (st' := (77, [(3, .int o7.1), (4, .int o7.2.1), (5, .int o7.2.2.1), (6, .int o7.2.2.2.1)], [.int o7.2.2.1, .int o7.2.2.2.1, .int (o7.2.1 / o7.1)], o7.2.2.2.2)) rfl ?_
      refine tb_b_cge rfl (fun hc => ?_) (fun hc => ?_)
      · rw [if_pos hc] at h
        refine tb_Es (k := 3) (st' := (82, [(3, .int o7.1), (4, .int o7.2.1), (5, .int o7.2.2.1), (6, .int o7.2.2.2.1)], [.int ((o7.2.1 / o7.1) + 1)], o7.2.2.2.2)) rfl ?_
        obtain rfl := Option.some.inj h
        subst hr
        exact tb_Er rfl rfl
      · rw [if_neg hc] at h
        refine tb_Es (k := 2) (st' := (82, [(3, .int o7.1), (4, .int o7.2.1), (5, .int o7.2.2.1), (6, .int o7.2.2.2.1)], [.int ((o7.2.1 / o7.1) + 0)], o7.2.2.2.2)) rfl ?_
        obtain rfl := Option.some.inj h
        subst hr
        exact tb_Er rfl rfl
  · rw [if_neg hc] at h
    refine tb_Es (k := 1) (st' := (10, [(3, .int x1.1), (0, .ref a0), (1, .int a1), (2, .int a2)], [.int 0], x1.2)) rfl ?_
    obtain rfl := Option.some.inj h
    subst hr
    exact tb_Er rfl rfl
/-! TannerBunting.count(I)I -/
def fb_x_count (a0 : Nat) (a1 : Int32) (w : tb_Hp) : Option (Int32 × tb_Hp) := (tb_gN 21 5 a0 w).bind fun p1 => (tb_gN 15 0 p1 w).bind fun p2 => (if a1 = 0 then (tb_gI 17 0 p2 w).bind fun x3 => some (x3, w) else (if a1 = 1 then (tb_gI 17 1 p2 w).bind fun x4 => some (x4, w) else (if a1 = 2 then (tb_gI 17 3 p2 w).bind fun x5 => some (x5, w) else (if a1 = 3 then (tb_gI 21 4 a0 w).bind fun x6 => some (x6, w) else (if a1 = 4 then (tb_gN 21 5 a0 w).bind fun p7 => (tb_gI 15 3 p7 w).bind fun x8 => some (x8, w) else (if a1 = 5 then (tb_gI 17 2 p2 w).bind fun x9 => some (x9, w) else (if a1 = 6 then (tb_gI 17 5 p2 w).bind fun x10 => some (x10, w) else (if a1 = 7 then (tb_gI 17 4 p2 w).bind fun x11 => some (x11, w) else (if a1 = 8 then (tb_on 17 p2 w (fb_s_allPull p2 w)).bind fun x12 => some (x12.1, x12.2) else (if a1 = 9 then (tb_on 17 p2 w (fb_s_allLean p2 w)).bind fun x13 => some (x13.1, x13.2) else (if a1 = 10 then (tb_gN 21 5 a0 w).bind fun p14 => (tb_gN 15 2 p14 w).bind fun p15 => (tb_gI 12 0 p15 w).bind fun x16 => some (x16, w) else (if a1 = 11 then (tb_gN 21 7 a0 w).bind fun p17 => (tb_gI 13 0 p17 w).bind fun x18 => some (x18, w) else (if a1 = 12 then (tb_gN 21 5 a0 w).bind fun p19 => (tb_gI 15 4 p19 w).bind fun x20 => some (x20, w) else (if a1 = 13 then (tb_gN 21 0 a0 w).bind fun p21 => (tb_gI 19 0 p21 w).bind fun x22 => some (x22, w) else some (-1, w)))))))))))))))
set_option maxHeartbeats 4000000 in
set_option maxRecDepth 20000 in
theorem dc_x_count {a0 : Nat} {a1 : Int32} {w : tb_Hp} {o : Int32 × tb_Hp} (h : fb_x_count a0 a1 w = some o) : tb_Ev tb_P 3 165 (0, tb_ent [.ref a0, .int a1], [], w) (some (.int o.1), o.2) := by
  unfold fb_x_count at h
  obtain ⟨r, hr⟩ : ∃ r : Option Value × tb_Hp, r = (some (.int o.1), o.2) := ⟨_, rfl⟩
  rw [← hr]
  show tb_Ev tb_P 3 165 (0, [(0, .ref a0), (1, .int a1)], [], w) r
  refine tb_Es (k := 1) (st' := (1, [(0, .ref a0), (1, .int a1)], [.ref a0], w)) rfl ?_
  replace h := Option.bind_eq_some_iff.mp h
  obtain ⟨p1, ep1, h⟩ := h
  refine tb_e_gN rfl ep1 ?_
  replace h := Option.bind_eq_some_iff.mp h
  obtain ⟨p2, ep2, h⟩ := h
  refine tb_e_gN rfl ep2 ?_
  refine tb_Es (k := 2) (st' := (5, [(2, .ref p2), (0, .ref a0), (1, .int a1)], [.int a1], w)) rfl ?_
  refine tb_w_tab rfl (by decide) ?_
  refine tb_w_one (k := 0) (by decide) (fun hc => ?_) (fun hc => ?_)
  · rw [if_pos hc] at h
    refine tb_Es (k := 1) (st' := (7, [(2, .ref p2), (0, .ref a0), (1, .int a1)], [.ref p2], w)) rfl ?_
    replace h := Option.bind_eq_some_iff.mp h
    obtain ⟨x3, ex3, h⟩ := h
    refine tb_e_gI rfl ex3 ?_
    obtain rfl := Option.some.inj h
    subst hr
    exact tb_Er rfl rfl
  rw [if_neg hc] at h
  refine tb_w_one (k := 1) (by decide) (fun hc => ?_) (fun hc => ?_)
  · rw [if_pos hc] at h
    refine tb_Es (k := 1) (st' := (10, [(2, .ref p2), (0, .ref a0), (1, .int a1)], [.ref p2], w)) rfl ?_
    replace h := Option.bind_eq_some_iff.mp h
    obtain ⟨x4, ex4, h⟩ := h
    refine tb_e_gI rfl ex4 ?_
    obtain rfl := Option.some.inj h
    subst hr
    exact tb_Er rfl rfl
  rw [if_neg hc] at h
  refine tb_w_one (k := 2) (by decide) (fun hc => ?_) (fun hc => ?_)
  · rw [if_pos hc] at h
    refine tb_Es (k := 1) (st' := (13, [(2, .ref p2), (0, .ref a0), (1, .int a1)], [.ref p2], w)) rfl ?_
    replace h := Option.bind_eq_some_iff.mp h
    obtain ⟨x5, ex5, h⟩ := h
    refine tb_e_gI rfl ex5 ?_
    obtain rfl := Option.some.inj h
    subst hr
    exact tb_Er rfl rfl
  rw [if_neg hc] at h
  refine tb_w_one (k := 3) (by decide) (fun hc => ?_) (fun hc => ?_)
  · rw [if_pos hc] at h
    refine tb_Es (k := 1) (st' := (16, [(2, .ref p2), (0, .ref a0), (1, .int a1)], [.ref a0], w)) rfl ?_
    replace h := Option.bind_eq_some_iff.mp h
    obtain ⟨x6, ex6, h⟩ := h
    refine tb_e_gI rfl ex6 ?_
    obtain rfl := Option.some.inj h
    subst hr
    exact tb_Er rfl rfl
  rw [if_neg hc] at h
  refine tb_w_one (k := 4) (by decide) (fun hc => ?_) (fun hc => ?_)
  · rw [if_pos hc] at h
    refine tb_Es (k := 1) (st' := (19, [(2, .ref p2), (0, .ref a0), (1, .int a1)], [.ref a0], w)) rfl ?_
    replace h := Option.bind_eq_some_iff.mp h
    obtain ⟨p7, ep7, h⟩ := h
    refine tb_e_gN rfl ep7 ?_
    replace h := Option.bind_eq_some_iff.mp h
    obtain ⟨x8, ex8, h⟩ := h
    refine tb_e_gI rfl ex8 ?_
    obtain rfl := Option.some.inj h
    subst hr
    exact tb_Er rfl rfl
  rw [if_neg hc] at h
  refine tb_w_one (k := 5) (by decide) (fun hc => ?_) (fun hc => ?_)
  · rw [if_pos hc] at h
    refine tb_Es (k := 1) (st' := (23, [(2, .ref p2), (0, .ref a0), (1, .int a1)], [.ref p2], w)) rfl ?_
    replace h := Option.bind_eq_some_iff.mp h
    obtain ⟨x9, ex9, h⟩ := h
    refine tb_e_gI rfl ex9 ?_
    obtain rfl := Option.some.inj h
    subst hr
    exact tb_Er rfl rfl
  rw [if_neg hc] at h
  refine tb_w_one (k := 6) (by decide) (fun hc => ?_) (fun hc => ?_)
  · rw [if_pos hc] at h
    refine tb_Es (k := 1) (st' := (26, [(2, .ref p2), (0, .ref a0), (1, .int a1)], [.ref p2], w)) rfl ?_
    replace h := Option.bind_eq_some_iff.mp h
    obtain ⟨x10, ex10, h⟩ := h
    refine tb_e_gI rfl ex10 ?_
    obtain rfl := Option.some.inj h
    subst hr
    exact tb_Er rfl rfl
  rw [if_neg hc] at h
  refine tb_w_one (k := 7) (by decide) (fun hc => ?_) (fun hc => ?_)
  · rw [if_pos hc] at h
    refine tb_Es (k := 1) (st' := (29, [(2, .ref p2), (0, .ref a0), (1, .int a1)], [.ref p2], w)) rfl ?_
    replace h := Option.bind_eq_some_iff.mp h
    obtain ⟨x11, ex11, h⟩ := h
    refine tb_e_gI rfl ex11 ?_
    obtain rfl := Option.some.inj h
    subst hr
    exact tb_Er rfl rfl
  rw [if_neg hc] at h
  refine tb_w_one (k := 8) (by decide) (fun hc => ?_) (fun hc => ?_)
  · rw [if_pos hc] at h
    refine tb_Es (k := 1) (st' := (32, [(2, .ref p2), (0, .ref a0), (1, .int a1)], [.ref p2], w)) rfl ?_
    replace h := Option.bind_eq_some_iff.mp h
    obtain ⟨x12, ex12, h⟩ := h
    obtain ⟨hkx12, hcall⟩ := tb_on_some ex12
    refine tb_e_cv (v := some (.int x12.1)) rfl (Or.inl ⟨_, rfl⟩) rfl rfl (Nat.le_of_ble_eq_true rfl) rfl (Nat.le_of_ble_eq_true rfl) hkx12 ((dc_s_allPull hcall).up (by decide)) ?_
    obtain rfl := Option.some.inj h
    subst hr
    exact tb_Er rfl rfl
  rw [if_neg hc] at h
  refine tb_w_one (k := 9) (by decide) (fun hc => ?_) (fun hc => ?_)
  · rw [if_pos hc] at h
    refine tb_Es (k := 1) (st' := (35, [(2, .ref p2), (0, .ref a0), (1, .int a1)], [.ref p2], w)) rfl ?_
    replace h := Option.bind_eq_some_iff.mp h
    obtain ⟨x13, ex13, h⟩ := h
    obtain ⟨hkx13, hcall⟩ := tb_on_some ex13
    refine tb_e_cv (v := some (.int x13.1)) rfl (Or.inl ⟨_, rfl⟩) rfl rfl (Nat.le_of_ble_eq_true rfl) rfl (Nat.le_of_ble_eq_true rfl) hkx13 ((dc_s_allLean hcall).up (by decide)) ?_
    obtain rfl := Option.some.inj h
    subst hr
    exact tb_Er rfl rfl
  rw [if_neg hc] at h
  refine tb_w_one (k := 10) (by decide) (fun hc => ?_) (fun hc => ?_)
  · rw [if_pos hc] at h
    refine tb_Es (k := 1) (st' := (38, [(2, .ref p2), (0, .ref a0), (1, .int a1)], [.ref a0], w)) rfl ?_
    replace h := Option.bind_eq_some_iff.mp h
    obtain ⟨p14, ep14, h⟩ := h
    refine tb_e_gN rfl ep14 ?_
    replace h := Option.bind_eq_some_iff.mp h
    obtain ⟨p15, ep15, h⟩ := h
    refine tb_e_gN rfl ep15 ?_
    replace h := Option.bind_eq_some_iff.mp h
    obtain ⟨x16, ex16, h⟩ := h
    refine tb_e_gI rfl ex16 ?_
    obtain rfl := Option.some.inj h
    subst hr
    exact tb_Er rfl rfl
  rw [if_neg hc] at h
  refine tb_w_one (k := 11) (by decide) (fun hc => ?_) (fun hc => ?_)
  · rw [if_pos hc] at h
    refine tb_Es (k := 1) (st' := (43, [(2, .ref p2), (0, .ref a0), (1, .int a1)], [.ref a0], w)) rfl ?_
    replace h := Option.bind_eq_some_iff.mp h
    obtain ⟨p17, ep17, h⟩ := h
    refine tb_e_gN rfl ep17 ?_
    replace h := Option.bind_eq_some_iff.mp h
    obtain ⟨x18, ex18, h⟩ := h
    refine tb_e_gI rfl ex18 ?_
    obtain rfl := Option.some.inj h
    subst hr
    exact tb_Er rfl rfl
  rw [if_neg hc] at h
  refine tb_w_one (k := 12) (by decide) (fun hc => ?_) (fun hc => ?_)
  · rw [if_pos hc] at h
    refine tb_Es (k := 1) (st' := (47, [(2, .ref p2), (0, .ref a0), (1, .int a1)], [.ref a0], w)) rfl ?_
    replace h := Option.bind_eq_some_iff.mp h
    obtain ⟨p19, ep19, h⟩ := h
    refine tb_e_gN rfl ep19 ?_
    replace h := Option.bind_eq_some_iff.mp h
    obtain ⟨x20, ex20, h⟩ := h
    refine tb_e_gI rfl ex20 ?_
    obtain rfl := Option.some.inj h
    subst hr
    exact tb_Er rfl rfl
  rw [if_neg hc] at h
  refine tb_w_one (k := 13) (by decide) (fun hc => ?_) (fun hc => ?_)
  · rw [if_pos hc] at h
    refine tb_Es (k := 1) (st' := (51, [(2, .ref p2), (0, .ref a0), (1, .int a1)], [.ref a0], w)) rfl ?_
    replace h := Option.bind_eq_some_iff.mp h
    obtain ⟨p21, ep21, h⟩ := h
    refine tb_e_gN rfl ep21 ?_
    replace h := Option.bind_eq_some_iff.mp h
    obtain ⟨x22, ex22, h⟩ := h
    refine tb_e_gI rfl ex22 ?_
    obtain rfl := Option.some.inj h
    subst hr
    exact tb_Er rfl rfl
  rw [if_neg hc] at h
  refine tb_w_end ?_
  refine tb_Es (k := 1) (st' := (55, [(2, .ref p2), (0, .ref a0), (1, .int a1)], [.int (-1)], w)) rfl ?_
  obtain rfl := Option.some.inj h
  subst hr
  exact tb_Er rfl rfl
/-! TannerBuntingModel.isStreetHere(I)Z -/
def fb_m_isStreetHere (a0 : Nat) (a1 : Int32) (w : tb_Hp) : Option (Int32 × tb_Hp) := (tb_gN 22 7 a0 w).bind fun p1 => (tb_lI [1, 9] p1 0 w).bind fun x2 => (if 0 < x2 then (tb_on 22 a0 w (fb_m_fails a0 4 a1 w)).bind fun x3 => tb_z x3.1 x3.2 else (tb_on 22 a0 w (fb_m_passWord a0 w)).bind fun x4 => (tb_on 22 a0 x4 (fb_m_cellHere a0 1 1 5 x4)).bind fun x5 => (if x5.1 = 0 then some (0, x5.2) else (tb_on 22 a0 x5.2 (fb_m_cellHere a0 2 0 9 x5.2)).bind fun x6 => (if x6.1 = 0 then some (0, x6.2) else (tb_gN 22 7 a0 x6.2).bind fun p7 => (tb_tI p7 0 1 x6.2).bind fun w8 => some (1, w8))))
set_option maxHeartbeats 4000000 in
set_option maxRecDepth 20000 in
theorem dc_m_isStreetHere {a0 : Nat} {a1 : Int32} {w : tb_Hp} {o : Int32 × tb_Hp} (h : fb_m_isStreetHere a0 a1 w = some o) : tb_Ev tb_P 3 183 (0, tb_ent [.ref a0, .int a1], [], w) (some (.int o.1), o.2) := by
  unfold fb_m_isStreetHere at h
  obtain ⟨r, hr⟩ : ∃ r : Option Value × tb_Hp, r = (some (.int o.1), o.2) := ⟨_, rfl⟩
  rw [← hr]
  show tb_Ev tb_P 3 183 (0, [(0, .ref a0), (1, .int a1)], [], w) r
  refine tb_Es (k := 1) (st' := (1, [(0, .ref a0), (1, .int a1)], [.ref a0], w)) rfl ?_
  replace h := Option.bind_eq_some_iff.mp h
  obtain ⟨p1, ep1, h⟩ := h
  refine tb_e_gN rfl ep1 ?_
  refine tb_Es (k := 1) (st' := (3, [(0, .ref a0), (1, .int a1)], [.int 0, .ref p1], w)) rfl ?_
  replace h := Option.bind_eq_some_iff.mp h
  obtain ⟨x2, ex2, h⟩ := h
  refine tb_e_lI rfl (Or.inl ⟨rfl, rfl⟩) ex2 ?_
  refine tb_b_ile rfl (fun hc => ?_) (fun hc => ?_)
  · rw [if_pos hc] at h
    refine tb_Es (k := 3) (st' := (8, [(0, .ref a0), (1, .int a1)], [.int a1, .int 4, .ref a0], w)) rfl ?_
    replace h := Option.bind_eq_some_iff.mp h
    obtain ⟨x3, ex3, h⟩ := h
    obtain ⟨hkx3, hcall⟩ := tb_on_some ex3
    refine tb_e_cv (v := some (.int x3.1)) rfl (Or.inl ⟨_, rfl⟩) rfl rfl (Nat.le_of_ble_eq_true rfl) rfl (Nat.le_of_ble_eq_true rfl) hkx3 ((dc_m_fails hcall).up (by decide)) ?_
    subst hr
    exact tb_r_z rfl h
  · rw [if_neg hc] at h
    refine tb_Es (k := 1) (st' := (11, [(0, .ref a0), (1, .int a1)], [.ref a0], w)) rfl ?_
    replace h := Option.bind_eq_some_iff.mp h
    obtain ⟨x4, ex4, h⟩ := h
    obtain ⟨hkx4, hcall⟩ := tb_on_some ex4
    refine tb_e_cv (v := none) rfl (Or.inl ⟨_, rfl⟩) rfl rfl (Nat.le_of_ble_eq_true rfl) rfl (Nat.le_of_ble_eq_true rfl) hkx4 ((dc_m_passWord hcall).up (by decide)) ?_
    refine tb_Es (k := 4) (st' := (16, [(0, .ref a0), (1, .int a1)], [.int 5, .int 1, .int 1, .ref a0], x4)) rfl ?_
    replace h := Option.bind_eq_some_iff.mp h
    obtain ⟨x5, ex5, h⟩ := h
    obtain ⟨hkx5, hcall⟩ := tb_on_some ex5
    refine tb_e_cv (v := some (.int x5.1)) rfl (Or.inl ⟨_, rfl⟩) rfl rfl (Nat.le_of_ble_eq_true rfl) rfl (Nat.le_of_ble_eq_true rfl) hkx5 ((dc_m_cellHere hcall).up (by decide)) ?_
    refine tb_b_ieq rfl (fun hc => ?_) (fun hc => ?_)
    · rw [if_pos hc] at h
      refine tb_Es (k := 1) (st' := (25, [(0, .ref a0), (1, .int a1)], [.int 0], x5.2)) rfl ?_
      obtain rfl := Option.some.inj h
      subst hr
      exact tb_Er rfl rfl
    · rw [if_neg hc] at h
      refine tb_Es (k := 4) (st' := (22, [(0, .ref a0), (1, .int a1)], [.int 9, .int 0, .int 2, .ref a0], x5.2)) rfl ?_
      replace h := Option.bind_eq_some_iff.mp h
      obtain ⟨x6, ex6, h⟩ := h
      obtain ⟨hkx6, hcall⟩ := tb_on_some ex6
      refine tb_e_cv (v := some (.int x6.1)) rfl (Or.inl ⟨_, rfl⟩) rfl rfl (Nat.le_of_ble_eq_true rfl) rfl (Nat.le_of_ble_eq_true rfl) hkx6 ((dc_m_cellHere hcall).up (by decide)) ?_
      refine tb_b_ine rfl (fun hc => ?_) (fun hc => ?_)
      · rw [if_pos hc] at h
        refine tb_Es (k := 1) (st' := (25, [(0, .ref a0), (1, .int a1)], [.int 0], x6.2)) rfl ?_
        obtain rfl := Option.some.inj h
        subst hr
        exact tb_Er rfl rfl
      · rw [if_neg hc] at h
        refine tb_Es (k := 1) (st' := (27, [(0, .ref a0), (1, .int a1)], [.ref a0], x6.2)) rfl ?_
        replace h := Option.bind_eq_some_iff.mp h
        obtain ⟨p7, ep7, h⟩ := h
        refine tb_e_gN rfl ep7 ?_
        refine tb_Es (k := 2) (st' := (30, [(0, .ref a0), (1, .int a1)], [.int 1, .int 0, .ref p7], x6.2)) rfl ?_
        replace h := Option.bind_eq_some_iff.mp h
        obtain ⟨w8, ew8, h⟩ := h
        refine tb_e_tI rfl ew8 ?_
        refine tb_Es (k := 1) (st' := (32, [(0, .ref a0), (1, .int a1)], [.int 1], w8)) rfl ?_
        obtain rfl := Option.some.inj h
        subst hr
        exact tb_Er rfl rfl
/-! TannerBuntingModel.isHouseHere()Z -/
def fb_m_isHouseHere (a0 : Nat) (w : tb_Hp) : Option (Int32 × tb_Hp) := (tb_on 22 a0 w (fb_m_passWord a0 w)).bind fun x1 => (tb_gN 22 7 a0 x1).bind fun p2 => (tb_lI [1, 9] p2 1 x1).bind fun x3 => (tb_on 22 a0 x1 (fb_m_numberHere a0 0 ((2 * x3) - 1) x1)).bind fun x4 => (if x4.1 = 0 then some (0, x4.2) else (tb_gI 22 10 a0 x4.2).bind fun x5 => (tb_on 22 a0 x4.2 (fb_m_cellHere a0 (74 + x5) 0 60 x4.2)).bind fun x6 => (if x6.1 = 0 then some (0, x6.2) else (tb_on 22 a0 x6.2 (fb_m_cellHere a0 (84 + x5) 0 30 x6.2)).bind fun x7 => (if x7.1 = 0 then some (0, x7.2) else some (1, x7.2))))
set_option maxHeartbeats 4000000 in
set_option maxRecDepth 20000 in
theorem dc_m_isHouseHere {a0 : Nat} {w : tb_Hp} {o : Int32 × tb_Hp} (h : fb_m_isHouseHere a0 w = some o) : tb_Ev tb_P 3 189 (0, tb_ent [.ref a0], [], w) (some (.int o.1), o.2) := by
  unfold fb_m_isHouseHere at h
  obtain ⟨r, hr⟩ : ∃ r : Option Value × tb_Hp, r = (some (.int o.1), o.2) := ⟨_, rfl⟩
  rw [← hr]
  show tb_Ev tb_P 3 189 (0, [(0, .ref a0)], [], w) r
  refine tb_Es (k := 1) (st' := (1, [(0, .ref a0)], [.ref a0], w)) rfl ?_
  replace h := Option.bind_eq_some_iff.mp h
  obtain ⟨x1, ex1, h⟩ := h
  obtain ⟨hkx1, hcall⟩ := tb_on_some ex1
  refine tb_e_cv (v := none) rfl (Or.inl ⟨_, rfl⟩) rfl rfl (Nat.le_of_ble_eq_true rfl) rfl (Nat.le_of_ble_eq_true rfl) hkx1 ((dc_m_passWord hcall).up (by decide)) ?_
  refine tb_Es (k := 4) (st' := (6, [(0, .ref a0)], [.ref a0, .int 2, .int 0, .ref a0], x1)) rfl ?_
  replace h := Option.bind_eq_some_iff.mp h
  obtain ⟨p2, ep2, h⟩ := h
  refine tb_e_gN rfl ep2 ?_
  refine tb_Es (k := 1) (st' := (8, [(0, .ref a0)], [.int 1, .ref p2, .int 2, .int 0, .ref a0], x1)) rfl ?_
  replace h := Option.bind_eq_some_iff.mp h
  obtain ⟨x3, ex3, h⟩ := h
  refine tb_e_lI rfl (Or.inl ⟨rfl, rfl⟩) ex3 ?_
  refine tb_Es (k := 3) (st' := (12, [(0, .ref a0)], [.int ((2 * x3) - 1), .int 0, .ref a0], x1)) rfl ?_
  replace h := Option.bind_eq_some_iff.mp h
  obtain ⟨x4, ex4, h⟩ := h
  obtain ⟨hkx4, hcall⟩ := tb_on_some ex4
  refine tb_e_cv (v := some (.int x4.1)) rfl (Or.inl ⟨_, rfl⟩) rfl rfl (Nat.le_of_ble_eq_true rfl) rfl (Nat.le_of_ble_eq_true rfl) hkx4 ((dc_m_numberHere hcall).up (by decide)) ?_
  refine tb_b_ine rfl (fun hc => ?_) (fun hc => ?_)
  · rw [if_pos hc] at h
    refine tb_Es (k := 1) (st' := (15, [(0, .ref a0)], [.int 0], x4.2)) rfl ?_
    obtain rfl := Option.some.inj h
    subst hr
    exact tb_Er rfl rfl
  · rw [if_neg hc] at h
    refine tb_Es (k := 1) (st' := (17, [(0, .ref a0)], [.ref a0], x4.2)) rfl ?_
    replace h := Option.bind_eq_some_iff.mp h
    obtain ⟨x5, ex5, h⟩ := h
    refine tb_e_gI rfl ex5 ?_
    refine tb_Es (k := 7) (st' := (25, [(1, .int x5), (0, .ref a0)], [.int 60, .int 0, .int (74 + x5), .ref a0], x4.2)) rfl ?_
    replace h := Option.bind_eq_some_iff.mp h
    obtain ⟨x6, ex6, h⟩ := h
    obtain ⟨hkx6, hcall⟩ := tb_on_some ex6
    refine tb_e_cv (v := some (.int x6.1)) rfl (Or.inl ⟨_, rfl⟩) rfl rfl (Nat.le_of_ble_eq_true rfl) rfl (Nat.le_of_ble_eq_true rfl) hkx6 ((dc_m_cellHere hcall).up (by decide)) ?_
    refine tb_b_ieq rfl (fun hc => ?_) (fun hc => ?_)
    · rw [if_pos hc] at h
      refine tb_Es (k := 1) (st' := (38, [(1, .int x5), (0, .ref a0)], [.int 0], x6.2)) rfl ?_
      obtain rfl := Option.some.inj h
      subst hr
      exact tb_Er rfl rfl
    · rw [if_neg hc] at h
      refine tb_Es (k := 6) (st' := (33, [(1, .int x5), (0, .ref a0)], [.int 30, .int 0, .int (84 + x5), .ref a0], x6.2)) rfl ?_
      replace h := Option.bind_eq_some_iff.mp h
      obtain ⟨x7, ex7, h⟩ := h
      obtain ⟨hkx7, hcall⟩ := tb_on_some ex7
      refine tb_e_cv (v := some (.int x7.1)) rfl (Or.inl ⟨_, rfl⟩) rfl rfl (Nat.le_of_ble_eq_true rfl) rfl (Nat.le_of_ble_eq_true rfl) hkx7 ((dc_m_cellHere hcall).up (by decide)) ?_
      refine tb_b_ieq rfl (fun hc => ?_) (fun hc => ?_)
      · rw [if_pos hc] at h
        refine tb_Es (k := 1) (st' := (38, [(1, .int x5), (0, .ref a0)], [.int 0], x7.2)) rfl ?_
        obtain rfl := Option.some.inj h
        subst hr
        exact tb_Er rfl rfl
      · rw [if_neg hc] at h
        refine tb_Es (k := 2) (st' := (38, [(1, .int x5), (0, .ref a0)], [.int 1], x7.2)) rfl ?_
        obtain rfl := Option.some.inj h
        subst hr
        exact tb_Er rfl rfl
/-! TannerBuntingModel.isLineHere(I)Z -/
def fb_m_isLineHere (a0 : Nat) (a1 : Int32) (w : tb_Hp) : Option (Int32 × tb_Hp) := (tb_gN 22 7 a0 w).bind fun p1 => (tb_lI [1, 9] p1 3 w).bind fun x2 => (if x2 = 8 then (tb_on 22 a0 w (fb_m_fails a0 4 a1 w)).bind fun x3 => tb_z x3.1 x3.2 else (tb_on 22 a0 w (fb_m_passWord a0 w)).bind fun x4 => (tb_gN 22 7 a0 x4).bind fun p5 => (tb_lI [1, 9] p5 3 x4).bind fun x6 => (tb_gN 22 7 a0 x4).bind fun p7 => (tb_lI [1, 9] p7 1 x4).bind fun x8 => (tb_on 22 a0 x4 (fb_m_cellHere a0 (94 + (3 * x6)) 0 (x8 - 1) x4)).bind fun x9 => (if x9.1 = 0 then some (0, x9.2) else (tb_gN 22 7 a0 x9.2).bind fun p10 => (tb_lI [1, 9] p10 1 x9.2).bind fun x11 => (tb_gN 22 7 a0 x9.2).bind fun p12 => (tb_lI [1, 9] p12 1 x9.2).bind fun x13 => (tb_on 22 a0 x9.2 (fb_m_cellHere a0 ((94 + (3 * x6)) + 1) x11 ((2 * x13) - 1) x9.2)).bind fun x14 => (if x14.1 = 0 then some (0, x14.2) else (tb_on 22 a0 x14.2 (fb_m_cellHere a0 ((94 + (3 * x6)) + 2) 1 40 x14.2)).bind fun x15 => (if x15.1 = 0 then some (0, x15.2) else (tb_gN 22 7 a0 x15.2).bind fun p16 => (tb_lI [1, 9] p16 3 x15.2).bind fun x17 => (tb_tI p16 3 (x17 + 1) x15.2).bind fun w18 => some (1, w18)))))
set_option maxHeartbeats 4000000 in
set_option maxRecDepth 20000 in
theorem dc_m_isLineHere {a0 : Nat} {a1 : Int32} {w : tb_Hp} {o : Int32 × tb_Hp} (h : fb_m_isLineHere a0 a1 w = some o) : tb_Ev tb_P 3 190 (0, tb_ent [.ref a0, .int a1], [], w) (some (.int o.1), o.2) := by
  unfold fb_m_isLineHere at h
  obtain ⟨r, hr⟩ : ∃ r : Option Value × tb_Hp, r = (some (.int o.1), o.2) := ⟨_, rfl⟩
  rw [← hr]
  show tb_Ev tb_P 3 190 (0, [(0, .ref a0), (1, .int a1)], [], w) r
  refine tb_Es (k := 1) (st' := (1, [(0, .ref a0), (1, .int a1)], [.ref a0], w)) rfl ?_
  replace h := Option.bind_eq_some_iff.mp h
  obtain ⟨p1, ep1, h⟩ := h
  refine tb_e_gN rfl ep1 ?_
  refine tb_Es (k := 1) (st' := (3, [(0, .ref a0), (1, .int a1)], [.int 3, .ref p1], w)) rfl ?_
  replace h := Option.bind_eq_some_iff.mp h
  obtain ⟨x2, ex2, h⟩ := h
  refine tb_e_lI rfl (Or.inl ⟨rfl, rfl⟩) ex2 ?_
  refine tb_Es (k := 1) (st' := (5, [(0, .ref a0), (1, .int a1)], [.int 8, .int x2], w)) rfl ?_
  refine tb_b_cne rfl (fun hc => ?_) (fun hc => ?_)
  · rw [if_pos hc] at h
    refine tb_Es (k := 3) (st' := (9, [(0, .ref a0), (1, .int a1)], [.int a1, .int 4, .ref a0], w)) rfl ?_
    replace h := Option.bind_eq_some_iff.mp h
    obtain ⟨x3, ex3, h⟩ := h
    obtain ⟨hkx3, hcall⟩ := tb_on_some ex3
    refine tb_e_cv (v := some (.int x3.1)) rfl (Or.inl ⟨_, rfl⟩) rfl rfl (Nat.le_of_ble_eq_true rfl) rfl (Nat.le_of_ble_eq_true rfl) hkx3 ((dc_m_fails hcall).up (by decide)) ?_
    subst hr
    exact tb_r_z rfl h
  · rw [if_neg hc] at h
    refine tb_Es (k := 1) (st' := (12, [(0, .ref a0), (1, .int a1)], [.ref a0], w)) rfl ?_
    replace h := Option.bind_eq_some_iff.mp h
    obtain ⟨x4, ex4, h⟩ := h
    obtain ⟨hkx4, hcall⟩ := tb_on_some ex4
    refine tb_e_cv (v := none) rfl (Or.inl ⟨_, rfl⟩) rfl rfl (Nat.le_of_ble_eq_true rfl) rfl (Nat.le_of_ble_eq_true rfl) hkx4 ((dc_m_passWord hcall).up (by decide)) ?_
    refine tb_Es (k := 3) (st' := (16, [(0, .ref a0), (1, .int a1)], [.ref a0, .int 3, .int 94], x4)) rfl ?_
    replace h := Option.bind_eq_some_iff.mp h
    obtain ⟨p5, ep5, h⟩ := h
    refine tb_e_gN rfl ep5 ?_
    refine tb_Es (k := 1) (st' := (18, [(0, .ref a0), (1, .int a1)], [.int 3, .ref p5, .int 3, .int 94], x4)) rfl ?_
    replace h := Option.bind_eq_some_iff.mp h
    obtain ⟨x6, ex6, h⟩ := h
    refine tb_e_lI rfl (Or.inl ⟨rfl, rfl⟩) ex6 ?_
    refine tb_Es (k := 7) (st' := (26, [(2, .int (94 + (3 * x6))), (0, .ref a0), (1, .int a1)], [.ref a0, .int 0, .int (94 + (3 * x6)), .ref a0], x4)) rfl ?_
    replace h := Option.bind_eq_some_iff.mp h
    obtain ⟨p7, ep7, h⟩ := h
    refine tb_e_gN rfl ep7 ?_
    refine tb_Es (k := 1) (st' := (28, [(2, .int (94 + (3 * x6))), (0, .ref a0), (1, .int a1)], [.int 1, .ref p7, .int 0, .int (94 + (3 * x6)), .ref a0], x4)) rfl ?_
    replace h := Option.bind_eq_some_iff.mp h
    obtain ⟨x8, ex8, h⟩ := h
    refine tb_e_lI rfl (Or.inl ⟨rfl, rfl⟩) ex8 ?_
    refine tb_Es (k := 2) (st' := (31, [(2, .int (94 + (3 * x6))), (0, .ref a0), (1, .int a1)], [.int (x8 - 1), .int 0, .int (94 + (3 * x6)), .ref a0], x4)) rfl ?_
    replace h := Option.bind_eq_some_iff.mp h
    obtain ⟨x9, ex9, h⟩ := h
    obtain ⟨hkx9, hcall⟩ := tb_on_some ex9
    refine tb_e_cv (v := some (.int x9.1)) rfl (Or.inl ⟨_, rfl⟩) rfl rfl (Nat.le_of_ble_eq_true rfl) rfl (Nat.le_of_ble_eq_true rfl) hkx9 ((dc_m_cellHere hcall).up (by decide)) ?_
    refine tb_b_ieq rfl (fun hc => ?_) (fun hc => ?_)
    · rw [if_pos hc] at h
      refine tb_Es (k := 1) (st' := (60, [(2, .int (94 + (3 * x6))), (0, .ref a0), (1, .int a1)], [.int 0], x9.2)) rfl ?_
      obtain rfl := Option.some.inj h
      subst hr
      exact tb_Er rfl rfl
    · rw [if_neg hc] at h
      refine tb_Es (k := 5) (st' := (38, [(2, .int (94 + (3 * x6))), (0, .ref a0), (1, .int a1)], [.ref a0, .int ((94 + (3 * x6)) + 1), .ref a0], x9.2)) rfl ?_
      replace h := Option.bind_eq_some_iff.mp h
      obtain ⟨p10, ep10, h⟩ := h
      refine tb_e_gN rfl ep10 ?_
      refine tb_Es (k := 1) (st' := (40, [(2, .int (94 + (3 * x6))), (0, .ref a0), (1, .int a1)], [.int 1, .ref p10, .int ((94 + (3 * x6)) + 1), .ref a0], x9.2)) rfl ?_
      replace h := Option.bind_eq_some_iff.mp h
      obtain ⟨x11, ex11, h⟩ := h
      refine tb_e_lI rfl (Or.inl ⟨rfl, rfl⟩) ex11 ?_
      refine tb_Es (k := 2) (st' := (43, [(2, .int (94 + (3 * x6))), (0, .ref a0), (1, .int a1)], [.ref a0, .int 2, .int x11, .int ((94 + (3 * x6)) + 1), .ref a0], x9.2)) rfl ?_
      replace h := Option.bind_eq_some_iff.mp h
      obtain ⟨p12, ep12, h⟩ := h
      refine tb_e_gN rfl ep12 ?_
      refine tb_Es (k := 1) (st' := (45, [(2, .int (94 + (3 * x6))), (0, .ref a0), (1, .int a1)], [.int 1, .ref p12, .int 2, .int x11, .int ((94 + (3 * x6)) + 1), .ref a0], x9.2)) rfl ?_
      replace h := Option.bind_eq_some_iff.mp h
      obtain ⟨x13, ex13, h⟩ := h
      refine tb_e_lI rfl (Or.inl ⟨rfl, rfl⟩) ex13 ?_
      refine tb_Es (k := 3) (st' := (49, [(2, .int (94 + (3 * x6))), (0, .ref a0), (1, .int a1)], [.int ((2 * x13) - 1), .int x11, .int ((94 + (3 * x6)) + 1), .ref a0], x9.2)) rfl ?_
      replace h := Option.bind_eq_some_iff.mp h
      obtain ⟨x14, ex14, h⟩ := h
      obtain ⟨hkx14, hcall⟩ := tb_on_some ex14
      refine tb_e_cv (v := some (.int x14.1)) rfl (Or.inl ⟨_, rfl⟩) rfl rfl (Nat.le_of_ble_eq_true rfl) rfl (Nat.le_of_ble_eq_true rfl) hkx14 ((dc_m_cellHere hcall).up (by decide)) ?_
      refine tb_b_ieq rfl (fun hc => ?_) (fun hc => ?_)
      · rw [if_pos hc] at h
        refine tb_Es (k := 1) (st' := (60, [(2, .int (94 + (3 * x6))), (0, .ref a0), (1, .int a1)], [.int 0], x14.2)) rfl ?_
        obtain rfl := Option.some.inj h
        subst hr
        exact tb_Er rfl rfl
      · rw [if_neg hc] at h
        refine tb_Es (k := 6) (st' := (57, [(2, .int (94 + (3 * x6))), (0, .ref a0), (1, .int a1)], [.int 40, .int 1, .int ((94 + (3 * x6)) + 2), .ref a0], x14.2)) rfl ?_
        replace h := Option.bind_eq_some_iff.mp h
        obtain ⟨x15, ex15, h⟩ := h
        obtain ⟨hkx15, hcall⟩ := tb_on_some ex15
        refine tb_e_cv (v := some (.int x15.1)) rfl (Or.inl ⟨_, rfl⟩) rfl rfl (Nat.le_of_ble_eq_true rfl) rfl (Nat.le_of_ble_eq_true rfl) hkx15 ((dc_m_cellHere hcall).up (by decide)) ?_
        refine tb_b_ine rfl (fun hc => ?_) (fun hc => ?_)
        · rw [if_pos hc] at h
          refine tb_Es (k := 1) (st' := (60, [(2, .int (94 + (3 * x6))), (0, .ref a0), (1, .int a1)], [.int 0], x15.2)) rfl ?_
          obtain rfl := Option.some.inj h
          subst hr
          exact tb_Er rfl rfl
        · rw [if_neg hc] at h
          refine tb_Es (k := 1) (st' := (62, [(2, .int (94 + (3 * x6))), (0, .ref a0), (1, .int a1)], [.ref a0], x15.2)) rfl ?_
          replace h := Option.bind_eq_some_iff.mp h
          obtain ⟨p16, ep16, h⟩ := h
          refine tb_e_gN rfl ep16 ?_
          refine tb_Es (k := 2) (st' := (65, [(2, .int (94 + (3 * x6))), (0, .ref a0), (1, .int a1)], [.int 3, .ref p16, .int 3, .ref p16], x15.2)) rfl ?_
          replace h := Option.bind_eq_some_iff.mp h
          obtain ⟨x17, ex17, h⟩ := h
          refine tb_e_lI rfl (Or.inl ⟨rfl, rfl⟩) ex17 ?_
          refine tb_Es (k := 2) (st' := (68, [(2, .int (94 + (3 * x6))), (0, .ref a0), (1, .int a1)], [.int (x17 + 1), .int 3, .ref p16], x15.2)) rfl ?_
          replace h := Option.bind_eq_some_iff.mp h
          obtain ⟨w18, ew18, h⟩ := h
          refine tb_e_tI rfl ew18 ?_
          refine tb_Es (k := 1) (st' := (70, [(2, .int (94 + (3 * x6))), (0, .ref a0), (1, .int a1)], [.int 1], w18)) rfl ?_
          obtain rfl := Option.some.inj h
          subst hr
          exact tb_Er rfl rfl
