/-! ===== The two are made ===== -/
/-- the shapes of places 1 to 91 -/
def pu_FS : List (Nat × Nat) := pu_XS ++ [(22, 36), (0, 400), (1, 2400), (1, 7), (1, 288), (1, 6), (1, 118), (1, 400), (2, 64), (2, 12), (1, 149), (1, 1280), (1, 64), (1, 5), (1, 5), (1, 8), (3, 7), (1, 7), (1, 596), (1, 4), (1, 4), (3, 4)]
/-- places 1 to n are made; D what they refer to so far -/
def pu_K (N : Nat) (xs : Nat → Int32) (n : Nat) (D : List ((Nat × Nat) × Nat)) (w : tb_Hp) : Prop :=
  w.1 = (9, N) :: pu_FS.take n ∧ n ≤ 91 ∧ w.2.1 0 = xs ∧ (∀ p k, 1 ≤ p → p ≤ n → ¬ (p = 70 ∧ k = 21) → w.2.1 p k = if p = 18 ∧ k = 3 then -1 else 0) ∧ (∀ q ∈ D, q.1.1 ≤ n ∧ w.2.2.2 q.1.1 q.1.2 = some q.2) ∧ (∀ p k, (p = 17 ∨ p = 37 ∨ p = 39) → p ≤ n → w.2.2.2 p k = none)
section PUR1
variable {N : Nat} {xs : Nat → Int32} {n : Nat} {D : List ((Nat × Nat) × Nat)} {w : tb_Hp}
theorem pu_K.len (h : pu_K N xs n D w) : w.1.length = n + 1 := by
  have hn := h.2.1
  rw [h.1, List.length_cons, List.length_take, show pu_FS.length = 91 from rfl, Nat.min_eq_left hn]
theorem pu_K.sh (h : pu_K N xs n D w) {p : Nat} {q : Nat × Nat} (hp : p < n) (e : pu_FS[p]? = some q) : w.1[p + 1]? = some q := by
  rw [h.1, List.getElem?_cons_succ, List.getElem?_take_of_lt hp]; exact e
theorem pu_K.new (h : pu_K N xs n D w) {c m : Nat} (e : pu_FS[n]? = some (c, m)) (h17 : n ≠ 17) : pu_K N xs (n + 1) D (tb_new w c m) := by
  have hl := h.len
  obtain ⟨h1, h2, h3, h4, h5, h6⟩ := h
  have hn : n < 91 := pu_slt e
  refine ⟨?_, by omega, ?_, fun p k hp hp2 hx => ?_, fun q hq => ⟨by have := (h5 q hq).1; omega, ?_⟩, fun p k hp hp2 => ?_⟩
  · show w.1 ++ [(c, m)] = _
    rw [h1, List.take_succ, e]; rfl
  · show tb_up1 w.2.1 w.1.length (fun _ => 0) 0 = xs
    rw [pu_u1p _ _ _ (by omega)]; exact h3
  · show tb_up1 w.2.1 w.1.length (fun _ => 0) p k = _
    by_cases e2 : p = n + 1
    · rw [if_neg (by omega), e2, ← hl, pu_u1s]
    · rw [pu_u1p _ _ _ (by omega)]; exact h4 p k hp (by omega) hx
  · show tb_up1 w.2.2.2 w.1.length (fun _ => none) q.1.1 q.1.2 = _
    have := (h5 q hq).1
    rw [pu_u1p _ _ _ (by omega)]; exact (h5 q hq).2
  · show tb_up1 w.2.2.2 w.1.length (fun _ => none) p k = none
    by_cases e2 : p = n + 1
    · rw [e2, ← hl, pu_u1s]
    · rw [pu_u1p _ _ _ (by omega)]; exact h6 p k hp (by omega)
theorem pu_K.on (h : pu_K N xs n D w) {α : Type} {c m p : Nat} (hp : p < n) (e : pu_FS[p]? = some (c, m)) (t : Option α) : tb_on c (p + 1) w t = t := by
  unfold tb_on tb_kd
  simp [h.sh hp e]
theorem pu_K.gN (h : pu_K N xs n D w) {c m p k v : Nat} (hp : p < n) (e : pu_FS[p]? = some (c, m)) (hd : ((p + 1, k), v) ∈ D) : tb_gN c k (p + 1) w = some v := by
  unfold tb_gN tb_kd
  simp [h.sh hp e, (h.2.2.2.2.1 _ hd).2]
theorem pu_K.pR (h : pu_K N xs n D w) {c m p k v : Nat} (hp : p < n) (e : pu_FS[p]? = some (c, m)) (hf : D.all (fun q => decide (q.1 ≠ (p + 1, k))) = true) (h1 : p + 1 ≠ 17) (h2 : p + 1 ≠ 37) (h3 : p + 1 ≠ 39) : ∃ w', tb_pR c k (p + 1) v w = some w' ∧ pu_K N xs n (((p + 1, k), v) :: D) w' := by
  have hs := h.sh hp e
  obtain ⟨s, I, J, R⟩ := w
  refine ⟨_, pu_pR hs, h.1, h.2.1, h.2.2.1, h.2.2.2.1, fun q hq => ?_, fun z k' hz hz2 => ?_⟩
  · rcases List.mem_cons.mp hq with rfl | hq
    · exact ⟨hp, pu_u2s _ _ _ _⟩
    · have hne := of_decide_eq_true (List.all_eq_true.mp hf q hq)
      obtain ⟨a1, a2⟩ := h.2.2.2.2.1 q hq
      refine ⟨a1, ?_⟩
      show tb_up2 R (p + 1) k (some v) q.1.1 q.1.2 = _
      by_cases hq1 : q.1.1 = p + 1
      · rw [hq1, pu_u2k _ _ _ _ (fun h => hne (Prod.ext hq1 h)), ← hq1]; exact a2
      · rw [pu_u2p _ _ _ _ hq1]; exact a2
  · show tb_up2 R (p + 1) k (some v) z k' = none
    rw [pu_u2p _ _ _ _ (by omega)]; exact h.2.2.2.2.2 z k' hz hz2
theorem pu_K.pI (h : pu_K N xs n D w) {c m p k : Nat} {v : Int32} (hp : p < n) (e : pu_FS[p]? = some (c, m)) (hv : (p + 1 = 70 ∧ k = 21) ∨ (v = 0 ∧ p + 1 ≠ 18)) : ∃ w', tb_pI c k (p + 1) v w = some w' ∧ pu_K N xs n D w' ∧ w'.2.1 (p + 1) k = v := by
  have hs := h.sh hp e
  obtain ⟨s, I, J, R⟩ := w
  refine ⟨_, pu_pI hs, ⟨h.1, h.2.1, ?_, fun z k' h1 h2 h3 => ?_, h.2.2.2.2.1, h.2.2.2.2.2⟩, pu_u2s _ _ _ _⟩
  · show tb_up2 I (p + 1) k v 0 = xs
    rw [pu_u2p _ _ _ _ (by omega)]; exact h.2.2.1
  · show tb_up2 I (p + 1) k v z k' = _
    have h4 := h.2.2.2.1 z k' h1 h2 h3
    by_cases hz : z = p + 1
    · subst hz
      by_cases hk : k' = k
      · subst hk
        rw [pu_u2s]
        rcases hv with hv | ⟨hv, hv2⟩
        · exact absurd hv h3
        · rw [if_neg (fun h => hv2 h.1), hv]
      · rw [pu_u2k _ _ _ _ hk]; exact h4
    · rw [pu_u2p _ _ _ _ hz]; exact h4
theorem pu_K.st (h : pu_K N xs n D w) (hs : pu_FS.take n ++ pu_StS = pu_FS.take (n + 7)) (hn : n + 7 ≤ 91) (h17 : n + 7 < 17 ∨ 39 ≤ n) : ∃ w', tb_on 17 (n + 1) (tb_new w 17 12) (fb_s_init (n + 1) (tb_new w 17 12)) = some w' ∧ pu_K N xs (n + 7) ([((n + 1, 6), n + 2), ((n + 1, 7), n + 3), ((n + 1, 8), n + 4), ((n + 1, 9), n + 5), ((n + 1, 10), n + 6), ((n + 1, 11), n + 7)] ++ D) w' := by
  have hl := h.len
  obtain ⟨s, I, J, R⟩ := w
  obtain ⟨h1, h2, h3, h4, h5, h6⟩ := h
  have hl : s.length = n + 1 := hl
  obtain ⟨I', J', R', a1, a2, a3, a4⟩ := pu_newSt (s := s) (I := I) (J := J) (R := R)
  rw [hl] at a1 a2 a3 a4
  refine ⟨_, a1, ⟨?_, hn, ?_, fun p k hp hp2 hx => ?_, fun q hq => ?_, fun p k hp hp2 => ?_⟩⟩
  · show s ++ pu_StS = _
    rw [show s = (9, N) :: pu_FS.take n from h1, List.cons_append, hs]
  · show I' 0 = xs
    rw [(a3 0 (by omega)).1]; exact h3
  · show I' p k = _
    by_cases e : p ≤ n
    · rw [(a3 p (by omega)).1]; exact h4 p k hp e hx
    · rw [if_neg (by omega)]
      have := a4 (p - (n + 1)) (by omega)
      rw [show n + 1 + (p - (n + 1)) = p by omega] at this
      rw [this]
  · rcases List.mem_append.mp hq with hq | hq
    · obtain ⟨r1, r2, r3, r4, r5, r6⟩ := a2.2.2
      show q.1.1 ≤ n + 7 ∧ R' q.1.1 q.1.2 = some q.2
      simp only [List.mem_cons, List.mem_nil_iff, or_false] at hq
      rcases hq with rfl | rfl | rfl | rfl | rfl | rfl
      · exact ⟨by show n + 1 ≤ n + 7; omega, r1⟩
      · exact ⟨by show n + 1 ≤ n + 7; omega, r2⟩
      · exact ⟨by show n + 1 ≤ n + 7; omega, r3⟩
      · exact ⟨by show n + 1 ≤ n + 7; omega, r4⟩
      · exact ⟨by show n + 1 ≤ n + 7; omega, r5⟩
      · exact ⟨by show n + 1 ≤ n + 7; omega, r6⟩
    · obtain ⟨b1, b2⟩ := h5 q hq
      exact ⟨by omega, by show R' q.1.1 q.1.2 = _; rw [(a3 q.1.1 (by omega)).2.2]; exact b2⟩
  · show R' p k = none
    rw [(a3 p (by omega)).2.2]; exact h6 p k hp (by omega)
theorem pu_K.sc (h : pu_K N xs 17 D w) : ∃ w', tb_on 15 18 (tb_new w 15 5) (fb_sc_init 18 (tb_new w 15 5)) = some w' ∧ pu_K N xs 36 ([((18, 0), 19), ((18, 1), 26), ((18, 2), 33), ((19, 6), 20), ((19, 7), 21), ((19, 8), 22), ((19, 9), 23), ((19, 10), 24), ((19, 11), 25), ((26, 6), 27), ((26, 7), 28), ((26, 8), 29), ((26, 9), 30), ((26, 10), 31), ((26, 11), 32), ((33, 1), 34), ((33, 2), 35), ((33, 3), 36)] ++ D) w' := by
  have hl := h.len
  obtain ⟨s, I, J, R⟩ := w
  obtain ⟨h1, h2, h3, h4, h5, h6⟩ := h
  have hl : s.length = 18 := hl
  obtain ⟨I', J', R', a1, a2, a3, a4, a5⟩ := pu_newSc (s := s) (I := I) (J := J) (R := R)
  rw [hl] at a1 a2 a3 a4 a5
  refine ⟨_, a1, ⟨?_, by omega, ?_, fun p k hp hp2 hx => ?_, fun q hq => ?_, fun p k hp hp2 => ?_⟩⟩
  · show s ++ pu_ScS = _
    rw [show s = (9, N) :: pu_FS.take 17 from h1, List.cons_append]
    rfl
  · show I' 0 = xs
    rw [(a3 0 (by omega)).1]; exact h3
  · show I' p k = _
    by_cases e : p ≤ 17
    · rw [(a3 p (by omega)).1]; exact h4 p k hp e hx
    · by_cases e2 : p = 18 ∧ k = 3
      · rw [if_pos e2, e2.1, e2.2]; exact a4
      · rw [if_neg e2]
        have := a5 (p - 18) k (by omega) (fun h hk => e2 ⟨by omega, hk⟩)
        rw [show 18 + (p - 18) = p by omega] at this
        exact this
  · rcases List.mem_append.mp hq with hq | hq
    · obtain ⟨⟨_, s1, s2, s3⟩, ⟨⟨_, _, t1, t2, t3, t4, t5, t6⟩, ⟨_, _, u1, u2, u3, u4, u5, u6⟩⟩, _, ⟨n1, n2, n3⟩⟩ := a2
      show q.1.1 ≤ 36 ∧ R' q.1.1 q.1.2 = some q.2
      simp only [List.mem_cons, List.mem_nil_iff, or_false] at hq
      rcases hq with rfl | rfl | rfl | rfl | rfl | rfl | rfl | rfl | rfl | rfl | rfl | rfl | rfl | rfl | rfl | rfl | rfl | rfl
      · exact ⟨by decide, s1⟩
      · exact ⟨by decide, s2⟩
      · exact ⟨by decide, s3⟩
      · exact ⟨by decide, t1⟩
      · exact ⟨by decide, t2⟩
      · exact ⟨by decide, t3⟩
      · exact ⟨by decide, t4⟩
      · exact ⟨by decide, t5⟩
      · exact ⟨by decide, t6⟩
      · exact ⟨by decide, u1⟩
      · exact ⟨by decide, u2⟩
      · exact ⟨by decide, u3⟩
      · exact ⟨by decide, u4⟩
      · exact ⟨by decide, u5⟩
      · exact ⟨by decide, u6⟩
      · exact ⟨by decide, n1⟩
      · exact ⟨by decide, n2⟩
      · exact ⟨by decide, n3⟩
    · obtain ⟨b1, b2⟩ := h5 q hq
      exact ⟨by omega, by show R' q.1.1 q.1.2 = _; rw [(a3 q.1.1 (by omega)).2.2]; exact b2⟩
  · show R' p k = none
    rw [(a3 p (by omega)).2.2]; exact h6 p k hp (by omega)
end PUR1
section PUR2
variable {N : Nat} {xs : Nat → Int32}
theorem pu_K0 : pu_K N xs 0 [] (tb_w0 N xs) := ⟨rfl, by decide, rfl, fun p k h1 h2 _ => by omega, fun q hq => (List.not_mem_nil hq).elim, fun p k hp h2 => by omega⟩
theorem pu_made1 : ∃ w2 D, tb_on 21 1 (tb_new (tb_w0 N xs) 21 12) (fb_x_init 1 (tb_new (tb_w0 N xs) 21 12)) = some w2 ∧ pu_K N xs 69 D w2 ∧ (∀ q ∈ pu_XR, q ∈ D) ∧ (∀ q ∈ D, q.1.1 < 70) := by
  have K0 := pu_K0 (N := N) (xs := xs)
  generalize tb_w0 N xs = w0 at K0 ⊢
  have K1 := K0.new (c := 21) (m := 12) (by decide) (by decide)
  generalize tb_new w0 21 12 = w1 at K1 ⊢
  rw [K1.on (c := 21) (p := 0) (by decide) rfl]
  unfold fb_x_init
  simp only [K1.len]
  have K2 := K1.new (c := 19) (m := 10) (by decide) (by decide)
  generalize tb_new w1 19 10 = w2 at K2 ⊢
  rw [K2.on (c := 19) (p := 1) (by decide) rfl]
  unfold fb_t_init
  try simp only [K2.len]
  rw [show tb_na 1 400 w2 = some (tb_new w2 1 400) from pu_na (n := 400) (by omega) w2]
  have K3 := K2.new (c := 1) (m := 400) (by decide) (by decide)
  generalize tb_new w2 1 400 = w3 at K3 ⊢
  simp only [Option.bind_some, K2.len, K3.len]
  obtain ⟨w4, e4, K4⟩ := K3.pR (c := 19) (p := 1) (k := 4) (v := 3) (by decide) rfl (by decide) (by decide) (by decide) (by decide)
  rw [e4]
  simp only [Option.bind_some, K4.len]
  rw [show tb_na 1 401 w4 = some (tb_new w4 1 401) from pu_na (n := 401) (by omega) w4]
  have K5 := K4.new (c := 1) (m := 401) (by decide) (by decide)
  generalize tb_new w4 1 401 = w5 at K5 ⊢
  simp only [Option.bind_some, K4.len, K5.len]
  obtain ⟨w6, e6, K6⟩ := K5.pR (c := 19) (p := 1) (k := 5) (v := 4) (by decide) rfl (by decide) (by decide) (by decide) (by decide)
  rw [e6]
  simp only [Option.bind_some, K6.len]
  rw [show tb_na 1 401 w6 = some (tb_new w6 1 401) from pu_na (n := 401) (by omega) w6]
  have K7 := K6.new (c := 1) (m := 401) (by decide) (by decide)
  generalize tb_new w6 1 401 = w7 at K7 ⊢
  simp only [Option.bind_some, K6.len, K7.len]
  obtain ⟨w8, e8, K8⟩ := K7.pR (c := 19) (p := 1) (k := 6) (v := 5) (by decide) rfl (by decide) (by decide) (by decide) (by decide)
  rw [e8]
  simp only [Option.bind_some, K8.len]
  rw [show tb_na 1 401 w8 = some (tb_new w8 1 401) from pu_na (n := 401) (by omega) w8]
  have K9 := K8.new (c := 1) (m := 401) (by decide) (by decide)
  generalize tb_new w8 1 401 = w9 at K9 ⊢
  simp only [Option.bind_some, K8.len, K9.len]
  obtain ⟨w10, e10, K10⟩ := K9.pR (c := 19) (p := 1) (k := 7) (v := 6) (by decide) rfl (by decide) (by decide) (by decide) (by decide)
  rw [e10]
  simp only [Option.bind_some, K10.len]
  obtain ⟨w11, e11, K11⟩ := K10.pR (c := 21) (p := 0) (k := 0) (v := 2) (by decide) rfl (by decide) (by decide) (by decide) (by decide)
  rw [e11]
  simp only [Option.bind_some, K11.len]
  have K12 := K11.new (c := 18) (m := 2) (by decide) (by decide)
  generalize tb_new w11 18 2 = w12 at K12 ⊢
  rw [K12.gN (c := 21) (p := 0) (k := 0) (v := 2) (by decide) rfl (by decide)]
  simp only [Option.bind_some]
  rw [K12.on (c := 18) (p := 6) (by decide) rfl]
  unfold fb_sr_init
  obtain ⟨w13, e13, K13⟩ := K12.pR (c := 18) (p := 6) (k := 1) (v := 2) (by decide) rfl (by decide) (by decide) (by decide) (by decide)
  rw [e13]
  simp only [Option.bind_some, K13.len]
  obtain ⟨w14, e14, K14⟩ := K13.st (by decide) (by decide) (by decide)
  simp only [Nat.reduceAdd] at e14 K14
  rw [e14]
  simp only [Option.bind_some, K14.len]
  obtain ⟨w15, e15, K15⟩ := K14.pR (c := 18) (p := 6) (k := 0) (v := 8) (by decide) rfl (by decide) (by decide) (by decide) (by decide)
  rw [e15]
  simp only [Option.bind_some, K15.len]
  obtain ⟨w16, e16, K16⟩ := K15.pR (c := 21) (p := 0) (k := 1) (v := 7) (by decide) rfl (by decide) (by decide) (by decide) (by decide)
  rw [e16]
  simp only [Option.bind_some, K16.len]
  have K17 := K16.new (c := 14) (m := 4) (by decide) (by decide)
  generalize tb_new w16 14 4 = w17 at K17 ⊢
  rw [K17.gN (c := 21) (p := 0) (k := 0) (v := 2) (by decide) rfl (by decide)]
  simp only [Option.bind_some]
  rw [K17.on (c := 14) (p := 14) (by decide) rfl]
  unfold fb_rr_init
  obtain ⟨w18, e18, K18⟩ := K17.pR (c := 14) (p := 14) (k := 0) (v := 2) (by decide) rfl (by decide) (by decide) (by decide) (by decide)
  rw [e18]
  simp only [Option.bind_some, K18.len]
  rw [show tb_na 1 400 w18 = some (tb_new w18 1 400) from pu_na (n := 400) (by omega) w18]
  have K19 := K18.new (c := 1) (m := 400) (by decide) (by decide)
  generalize tb_new w18 1 400 = w19 at K19 ⊢
  simp only [Option.bind_some, K18.len, K19.len]
  obtain ⟨w20, e20, K20⟩ := K19.pR (c := 14) (p := 14) (k := 1) (v := 16) (by decide) rfl (by decide) (by decide) (by decide) (by decide)
  rw [e20]
  simp only [Option.bind_some, K20.len]
  obtain ⟨w21, e21, K21⟩ := K20.pR (c := 21) (p := 0) (k := 2) (v := 15) (by decide) rfl (by decide) (by decide) (by decide) (by decide)
  rw [e21]
  simp only [Option.bind_some, K21.len]
  rw [show tb_na 4 6 w21 = some (tb_new w21 4 6) from pu_na (n := 6) (by omega) w21]
  have K22 := K21.new (c := 4) (m := 6) (by decide) (by decide)
  generalize tb_new w21 4 6 = w22 at K22 ⊢
  simp only [Option.bind_some, K21.len, K22.len]
  obtain ⟨w23, e23, K23⟩ := K22.pR (c := 21) (p := 0) (k := 3) (v := 17) (by decide) rfl (by decide) (by decide) (by decide) (by decide)
  rw [e23]
  simp only [Option.bind_some, K23.len]
  obtain ⟨w24, e24, K24, _⟩ := K23.pI (c := 21) (p := 0) (k := 4) (v := 0) (by decide) rfl (Or.inr ⟨rfl, by decide⟩)
  rw [e24]
  simp only [Option.bind_some, K24.len]
  obtain ⟨w25, e25, K25⟩ := K24.sc
  rw [e25]
  simp only [Option.bind_some, K25.len]
  obtain ⟨w26, e26, K26⟩ := K25.pR (c := 21) (p := 0) (k := 5) (v := 18) (by decide) rfl (by decide) (by decide) (by decide) (by decide)
  rw [e26]
  simp only [Option.bind_some, K26.len]
  rw [show tb_na 5 4 w26 = some (tb_new w26 5 4) from pu_na (n := 4) (by omega) w26]
  have K27 := K26.new (c := 5) (m := 4) (by decide) (by decide)
  generalize tb_new w26 5 4 = w27 at K27 ⊢
  simp only [Option.bind_some, K26.len, K27.len]
  obtain ⟨w28, e28, K28⟩ := K27.pR (c := 21) (p := 0) (k := 6) (v := 37) (by decide) rfl (by decide) (by decide) (by decide) (by decide)
  rw [e28]
  simp only [Option.bind_some, K28.len]
  have K29 := K28.new (c := 13) (m := 3) (by decide) (by decide)
  generalize tb_new w28 13 3 = w29 at K29 ⊢
  rw [K29.on (c := 13) (p := 37) (by decide) rfl]
  unfold fb_p_init
  try simp only [K29.len]
  rw [show tb_na 6 20 w29 = some (tb_new w29 6 20) from pu_na (n := 20) (by omega) w29]
  have K30 := K29.new (c := 6) (m := 20) (by decide) (by decide)
  generalize tb_new w29 6 20 = w30 at K30 ⊢
  simp only [Option.bind_some, K29.len, K30.len]
  obtain ⟨w31, e31, K31⟩ := K30.pR (c := 13) (p := 37) (k := 2) (v := 39) (by decide) rfl (by decide) (by decide) (by decide) (by decide)
  rw [e31]
  simp only [Option.bind_some, K31.len]
  obtain ⟨w32, e32, K32⟩ := K31.pR (c := 21) (p := 0) (k := 7) (v := 38) (by decide) rfl (by decide) (by decide) (by decide) (by decide)
  rw [e32]
  simp only [Option.bind_some, K32.len]
  have K33 := K32.new (c := 11) (m := 2) (by decide) (by decide)
  generalize tb_new w32 11 2 = w33 at K33 ⊢
  rw [K33.on (c := 11) (p := 39) (by decide) rfl]
  unfold fb_jg_init
  try simp only [K33.len]
  rw [show tb_na 2 64 w33 = some (tb_new w33 2 64) from pu_na (n := 64) (by omega) w33]
  have K34 := K33.new (c := 2) (m := 64) (by decide) (by decide)
  generalize tb_new w33 2 64 = w34 at K34 ⊢
  simp only [Option.bind_some, K33.len, K34.len]
  obtain ⟨w35, e35, K35⟩ := K34.pR (c := 11) (p := 39) (k := 0) (v := 41) (by decide) rfl (by decide) (by decide) (by decide) (by decide)
  rw [e35]
  simp only [Option.bind_some, K35.len]
  obtain ⟨w36, e36, K36⟩ := K35.pR (c := 21) (p := 0) (k := 8) (v := 40) (by decide) rfl (by decide) (by decide) (by decide) (by decide)
  rw [e36]
  simp only [Option.bind_some, K36.len]
  have K37 := K36.new (c := 10) (m := 3) (by decide) (by decide)
  generalize tb_new w36 10 3 = w37 at K37 ⊢
  rw [K37.on (c := 10) (p := 41) (by decide) rfl]
  unfold fb_h_init
  try simp only [K37.len]
  obtain ⟨w38, e38, K38⟩ := K37.st (by decide) (by decide) (by decide)
  simp only [Nat.reduceAdd] at e38 K38
  rw [e38]
  simp only [Option.bind_some, K38.len]
  obtain ⟨w39, e39, K39⟩ := K38.pR (c := 10) (p := 41) (k := 0) (v := 43) (by decide) rfl (by decide) (by decide) (by decide) (by decide)
  rw [e39]
  simp only [Option.bind_some, K39.len]
  rw [show tb_na 1 192 w39 = some (tb_new w39 1 192) from pu_na (n := 192) (by omega) w39]
  have K40 := K39.new (c := 1) (m := 192) (by decide) (by decide)
  generalize tb_new w39 1 192 = w40 at K40 ⊢
  simp only [Option.bind_some, K39.len, K40.len]
  obtain ⟨w41, e41, K41⟩ := K40.pR (c := 10) (p := 41) (k := 1) (v := 50) (by decide) rfl (by decide) (by decide) (by decide) (by decide)
  rw [e41]
  simp only [Option.bind_some, K41.len]
  rw [show tb_na 1 5 w41 = some (tb_new w41 1 5) from pu_na (n := 5) (by omega) w41]
  have K42 := K41.new (c := 1) (m := 5) (by decide) (by decide)
  generalize tb_new w41 1 5 = w42 at K42 ⊢
  simp only [Option.bind_some, K41.len, K42.len]
  obtain ⟨w43, e43, K43⟩ := K42.pR (c := 10) (p := 41) (k := 2) (v := 51) (by decide) rfl (by decide) (by decide) (by decide) (by decide)
  rw [e43]
  simp only [Option.bind_some, K43.len]
  obtain ⟨w44, e44, K44⟩ := K43.pR (c := 21) (p := 0) (k := 9) (v := 42) (by decide) rfl (by decide) (by decide) (by decide) (by decide)
  rw [e44]
  simp only [Option.bind_some, K44.len]
  have K45 := K44.new (c := 20) (m := 8) (by decide) (by decide)
  generalize tb_new w44 20 8 = w45 at K45 ⊢
  rw [K45.gN (c := 21) (p := 0) (k := 8) (v := 40) (by decide) rfl (by decide)]
  simp only [Option.bind_some]
  rw [K45.on (c := 20) (p := 51) (by decide) rfl]
  unfold fb_yr_init
  obtain ⟨w46, e46, K46⟩ := K45.pR (c := 20) (p := 51) (k := 5) (v := 40) (by decide) rfl (by decide) (by decide) (by decide) (by decide)
  rw [e46]
  simp only [Option.bind_some, K46.len]
  obtain ⟨w47, e47, K47⟩ := K46.st (by decide) (by decide) (by decide)
  simp only [Nat.reduceAdd] at e47 K47
  rw [e47]
  simp only [Option.bind_some, K47.len]
  obtain ⟨w48, e48, K48⟩ := K47.pR (c := 20) (p := 51) (k := 0) (v := 53) (by decide) rfl (by decide) (by decide) (by decide) (by decide)
  rw [e48]
  simp only [Option.bind_some, K48.len]
  rw [show tb_na 1 8 w48 = some (tb_new w48 1 8) from pu_na (n := 8) (by omega) w48]
  have K49 := K48.new (c := 1) (m := 8) (by decide) (by decide)
  generalize tb_new w48 1 8 = w49 at K49 ⊢
  simp only [Option.bind_some, K48.len, K49.len]
  obtain ⟨w50, e50, K50⟩ := K49.pR (c := 20) (p := 51) (k := 6) (v := 60) (by decide) rfl (by decide) (by decide) (by decide) (by decide)
  rw [e50]
  simp only [Option.bind_some, K50.len]
  obtain ⟨w51, e51, K51⟩ := K50.pR (c := 21) (p := 0) (k := 10) (v := 52) (by decide) rfl (by decide) (by decide) (by decide) (by decide)
  rw [e51]
  simp only [Option.bind_some, K51.len]
  have K52 := K51.new (c := 16) (m := 5) (by decide) (by decide)
  generalize tb_new w51 16 5 = w52 at K52 ⊢
  rw [K52.gN (c := 21) (p := 0) (k := 8) (v := 40) (by decide) rfl (by decide)]
  simp only [Option.bind_some]
  rw [K52.on (c := 16) (p := 60) (by decide) rfl]
  unfold fb_so_init
  obtain ⟨w53, e53, K53⟩ := K52.pR (c := 16) (p := 60) (k := 2) (v := 40) (by decide) rfl (by decide) (by decide) (by decide) (by decide)
  rw [e53]
  simp only [Option.bind_some, K53.len]
  obtain ⟨w54, e54, K54⟩ := K53.st (by decide) (by decide) (by decide)
  simp only [Nat.reduceAdd] at e54 K54
  rw [e54]
  simp only [Option.bind_some, K54.len]
  obtain ⟨w55, e55, K55⟩ := K54.pR (c := 16) (p := 60) (k := 3) (v := 62) (by decide) rfl (by decide) (by decide) (by decide) (by decide)
  rw [e55]
  simp only [Option.bind_some, K55.len]
  rw [show tb_na 1 10 w55 = some (tb_new w55 1 10) from pu_na (n := 10) (by omega) w55]
  have K56 := K55.new (c := 1) (m := 10) (by decide) (by decide)
  generalize tb_new w55 1 10 = w56 at K56 ⊢
  simp only [Option.bind_some, K55.len, K56.len]
  obtain ⟨w57, e57, K57⟩ := K56.pR (c := 16) (p := 60) (k := 4) (v := 69) (by decide) rfl (by decide) (by decide) (by decide) (by decide)
  rw [e57]
  simp only [Option.bind_some, K57.len]
  obtain ⟨w58, e58, K58⟩ := K57.pR (c := 21) (p := 0) (k := 11) (v := 61) (by decide) rfl (by decide) (by decide) (by decide) (by decide)
  rw [e58]
  simp only [Option.bind_some, K58.len]
  exact ⟨w58, _, rfl, K58, by decide, by decide⟩
/-- a field of the reference that is a new row -/
theorem pu_K.row {n : Nat} {D : List ((Nat × Nat) × Nat)} {w : tb_Hp} {P : Option tb_Hp → Prop} (h : pu_K N xs n D w) {c m k : Nat} (F : tb_Hp → Option tb_Hp) (hn : 70 ≤ n) (e : pu_FS[n]? = some (c, m)) (hm : m ≤ 100000) (hf : ∀ q ∈ D, q.1 ≠ (70, k)) (hk : ∀ w', pu_K N xs (n + 1) (((70, k), n + 1) :: D) w' → w'.2.1 70 21 = w.2.1 70 21 → P (F w')) : P ((tb_na c (nI m) w).bind fun w1 => (tb_pR 22 k 70 w.1.length w1).bind F) := by
  have K1 := h.new e (by omega)
  obtain ⟨w', e1, K2⟩ := K1.pR (c := 22) (m := 36) (p := 69) (k := k) (v := n + 1) (by omega) rfl (List.all_eq_true.mpr (fun q hq => decide_eq_true (hf q hq))) (by decide) (by decide) (by decide)
  have e3 : w'.2.1 70 21 = w.2.1 70 21 := by
    have hs := K1.sh (p := 69) (q := (22, 36)) (by omega) rfl
    have hl := h.len
    unfold tb_pR tb_kd at e1
    rw [hs] at e1
    have e1 : some (tb_setR (tb_new w c m) 70 k (some (n + 1))) = some w' := e1
    cases e1
    show tb_up1 w.2.1 w.1.length (fun _ => 0) 70 21 = _
    rw [pu_u1p _ _ _ (by omega)]
  rw [pu_na hm, h.len]
  show P ((tb_pR 22 k 70 (n + 1) (tb_new w c m)).bind F)
  rw [e1]
  exact hk w' K2 e3
def pu_PM (N : Nat) (xs : Nat → Int32) (D : List ((Nat × Nat) × Nat)) (z : Option tb_Hp) : Prop := ∃ w4, z = some w4 ∧ pu_K N xs 91 ([((70, 35), 91), ((70, 34), 90), ((70, 33), 89), ((70, 32), 88), ((70, 30), 87), ((70, 29), 86), ((70, 28), 85), ((70, 27), 84), ((70, 26), 83), ((70, 25), 82), ((70, 23), 81), ((70, 20), 80), ((70, 19), 79), ((70, 17), 78), ((70, 15), 77), ((70, 7), 76), ((70, 6), 75), ((70, 5), 74), ((70, 4), 73), ((70, 3), 72), ((70, 0), 71)] ++ D) w4 ∧ w4.2.1 70 21 = -1
theorem pu_nk {D : List ((Nat × Nat) × Nat)} (hD : ∀ q ∈ D, q.1.1 < 70) {X : List ((Nat × Nat) × Nat)} {k : Nat} (hX : ∀ q ∈ X, q.1 ≠ (70, k)) : ∀ q ∈ X ++ D, q.1 ≠ (70, k) := by
  intro q hq
  rcases List.mem_append.mp hq with h | h
  · exact hX q h
  · intro e
    have := hD q h
    rw [e] at this
    exact absurd (show (70 : Nat) < 70 from this) (by decide)
theorem pu_made2 {D : List ((Nat × Nat) × Nat)} {w : tb_Hp} (h : pu_K N xs 69 D w) (hD : ∀ q ∈ D, q.1.1 < 70) : pu_PM N xs D (tb_on 22 70 (tb_new w 22 36) (fb_m_init 70 (tb_new w 22 36))) := by
  have K0 := h.new (c := 22) (m := 36) (by decide) (by decide)
  generalize tb_new w 22 36 = w0 at K0 ⊢
  rw [K0.on (c := 22) (p := 69) (by decide) rfl]
  unfold fb_m_init
  refine pu_K.row (P := pu_PM N xs D) (c := 0) (m := 400) (k := 0) (D := [] ++ D) K0 _ (by decide) (by decide) (by decide) (pu_nk hD (by decide)) (fun w1 K1 j1 => ?_)
  refine pu_K.row (P := pu_PM N xs D) (c := 1) (m := 2400) (k := 3) (D := [((70, 0), 71)] ++ D) K1 _ (by decide) (by decide) (by decide) (pu_nk hD (by decide)) (fun w2 K2 j2 => ?_)
  refine pu_K.row (P := pu_PM N xs D) (c := 1) (m := 7) (k := 4) (D := [((70, 3), 72), ((70, 0), 71)] ++ D) K2 _ (by decide) (by decide) (by decide) (pu_nk hD (by decide)) (fun w3 K3 j3 => ?_)
  refine pu_K.row (P := pu_PM N xs D) (c := 1) (m := 288) (k := 5) (D := [((70, 4), 73), ((70, 3), 72), ((70, 0), 71)] ++ D) K3 _ (by decide) (by decide) (by decide) (pu_nk hD (by decide)) (fun w4 K4 j4 => ?_)
  refine pu_K.row (P := pu_PM N xs D) (c := 1) (m := 6) (k := 6) (D := [((70, 5), 74), ((70, 4), 73), ((70, 3), 72), ((70, 0), 71)] ++ D) K4 _ (by decide) (by decide) (by decide) (pu_nk hD (by decide)) (fun w5 K5 j5 => ?_)
  refine pu_K.row (P := pu_PM N xs D) (c := 1) (m := 118) (k := 7) (D := [((70, 6), 75), ((70, 5), 74), ((70, 4), 73), ((70, 3), 72), ((70, 0), 71)] ++ D) K5 _ (by decide) (by decide) (by decide) (pu_nk hD (by decide)) (fun w6 K6 j6 => ?_)
  refine pu_K.row (P := pu_PM N xs D) (c := 1) (m := 400) (k := 15) (D := [((70, 7), 76), ((70, 6), 75), ((70, 5), 74), ((70, 4), 73), ((70, 3), 72), ((70, 0), 71)] ++ D) K6 _ (by decide) (by decide) (by decide) (pu_nk hD (by decide)) (fun w7 K7 j7 => ?_)
  refine pu_K.row (P := pu_PM N xs D) (c := 2) (m := 64) (k := 17) (D := [((70, 15), 77), ((70, 7), 76), ((70, 6), 75), ((70, 5), 74), ((70, 4), 73), ((70, 3), 72), ((70, 0), 71)] ++ D) K7 _ (by decide) (by decide) (by decide) (pu_nk hD (by decide)) (fun w8 K8 j8 => ?_)
  refine pu_K.row (P := pu_PM N xs D) (c := 2) (m := 12) (k := 19) (D := [((70, 17), 78), ((70, 15), 77), ((70, 7), 76), ((70, 6), 75), ((70, 5), 74), ((70, 4), 73), ((70, 3), 72), ((70, 0), 71)] ++ D) K8 _ (by decide) (by decide) (by decide) (pu_nk hD (by decide)) (fun w9 K9 j9 => ?_)
  refine pu_K.row (P := pu_PM N xs D) (c := 1) (m := 149) (k := 20) (D := [((70, 19), 79), ((70, 17), 78), ((70, 15), 77), ((70, 7), 76), ((70, 6), 75), ((70, 5), 74), ((70, 4), 73), ((70, 3), 72), ((70, 0), 71)] ++ D) K9 _ (by decide) (by decide) (by decide) (pu_nk hD (by decide)) (fun w10 K10 j10 => ?_)
  obtain ⟨w110, e110, K110, j110⟩ := K10.pI (c := 22) (p := 69) (k := 21) (v := (-1)) (by decide) rfl (Or.inl ⟨rfl, rfl⟩)
  have e111 : tb_pI 22 21 70 (-1) w10 = some w110 := e110
  clear e110
  rw [e111, Option.bind_some]
  refine pu_K.row (P := pu_PM N xs D) (c := 1) (m := 1280) (k := 23) (D := [((70, 20), 80), ((70, 19), 79), ((70, 17), 78), ((70, 15), 77), ((70, 7), 76), ((70, 6), 75), ((70, 5), 74), ((70, 4), 73), ((70, 3), 72), ((70, 0), 71)] ++ D) K110 _ (by decide) (by decide) (by decide) (pu_nk hD (by decide)) (fun w11 K11 j11 => ?_)
  refine pu_K.row (P := pu_PM N xs D) (c := 1) (m := 64) (k := 25) (D := [((70, 23), 81), ((70, 20), 80), ((70, 19), 79), ((70, 17), 78), ((70, 15), 77), ((70, 7), 76), ((70, 6), 75), ((70, 5), 74), ((70, 4), 73), ((70, 3), 72), ((70, 0), 71)] ++ D) K11 _ (by decide) (by decide) (by decide) (pu_nk hD (by decide)) (fun w12 K12 j12 => ?_)
  refine pu_K.row (P := pu_PM N xs D) (c := 1) (m := 5) (k := 26) (D := [((70, 25), 82), ((70, 23), 81), ((70, 20), 80), ((70, 19), 79), ((70, 17), 78), ((70, 15), 77), ((70, 7), 76), ((70, 6), 75), ((70, 5), 74), ((70, 4), 73), ((70, 3), 72), ((70, 0), 71)] ++ D) K12 _ (by decide) (by decide) (by decide) (pu_nk hD (by decide)) (fun w13 K13 j13 => ?_)
  refine pu_K.row (P := pu_PM N xs D) (c := 1) (m := 5) (k := 27) (D := [((70, 26), 83), ((70, 25), 82), ((70, 23), 81), ((70, 20), 80), ((70, 19), 79), ((70, 17), 78), ((70, 15), 77), ((70, 7), 76), ((70, 6), 75), ((70, 5), 74), ((70, 4), 73), ((70, 3), 72), ((70, 0), 71)] ++ D) K13 _ (by decide) (by decide) (by decide) (pu_nk hD (by decide)) (fun w14 K14 j14 => ?_)
  refine pu_K.row (P := pu_PM N xs D) (c := 1) (m := 8) (k := 28) (D := [((70, 27), 84), ((70, 26), 83), ((70, 25), 82), ((70, 23), 81), ((70, 20), 80), ((70, 19), 79), ((70, 17), 78), ((70, 15), 77), ((70, 7), 76), ((70, 6), 75), ((70, 5), 74), ((70, 4), 73), ((70, 3), 72), ((70, 0), 71)] ++ D) K14 _ (by decide) (by decide) (by decide) (pu_nk hD (by decide)) (fun w15 K15 j15 => ?_)
  refine pu_K.row (P := pu_PM N xs D) (c := 3) (m := 7) (k := 29) (D := [((70, 28), 85), ((70, 27), 84), ((70, 26), 83), ((70, 25), 82), ((70, 23), 81), ((70, 20), 80), ((70, 19), 79), ((70, 17), 78), ((70, 15), 77), ((70, 7), 76), ((70, 6), 75), ((70, 5), 74), ((70, 4), 73), ((70, 3), 72), ((70, 0), 71)] ++ D) K15 _ (by decide) (by decide) (by decide) (pu_nk hD (by decide)) (fun w16 K16 j16 => ?_)
  refine pu_K.row (P := pu_PM N xs D) (c := 1) (m := 7) (k := 30) (D := [((70, 29), 86), ((70, 28), 85), ((70, 27), 84), ((70, 26), 83), ((70, 25), 82), ((70, 23), 81), ((70, 20), 80), ((70, 19), 79), ((70, 17), 78), ((70, 15), 77), ((70, 7), 76), ((70, 6), 75), ((70, 5), 74), ((70, 4), 73), ((70, 3), 72), ((70, 0), 71)] ++ D) K16 _ (by decide) (by decide) (by decide) (pu_nk hD (by decide)) (fun w17 K17 j17 => ?_)
  refine pu_K.row (P := pu_PM N xs D) (c := 1) (m := 596) (k := 32) (D := [((70, 30), 87), ((70, 29), 86), ((70, 28), 85), ((70, 27), 84), ((70, 26), 83), ((70, 25), 82), ((70, 23), 81), ((70, 20), 80), ((70, 19), 79), ((70, 17), 78), ((70, 15), 77), ((70, 7), 76), ((70, 6), 75), ((70, 5), 74), ((70, 4), 73), ((70, 3), 72), ((70, 0), 71)] ++ D) K17 _ (by decide) (by decide) (by decide) (pu_nk hD (by decide)) (fun w18 K18 j18 => ?_)
  refine pu_K.row (P := pu_PM N xs D) (c := 1) (m := 4) (k := 33) (D := [((70, 32), 88), ((70, 30), 87), ((70, 29), 86), ((70, 28), 85), ((70, 27), 84), ((70, 26), 83), ((70, 25), 82), ((70, 23), 81), ((70, 20), 80), ((70, 19), 79), ((70, 17), 78), ((70, 15), 77), ((70, 7), 76), ((70, 6), 75), ((70, 5), 74), ((70, 4), 73), ((70, 3), 72), ((70, 0), 71)] ++ D) K18 _ (by decide) (by decide) (by decide) (pu_nk hD (by decide)) (fun w19 K19 j19 => ?_)
  refine pu_K.row (P := pu_PM N xs D) (c := 1) (m := 4) (k := 34) (D := [((70, 33), 89), ((70, 32), 88), ((70, 30), 87), ((70, 29), 86), ((70, 28), 85), ((70, 27), 84), ((70, 26), 83), ((70, 25), 82), ((70, 23), 81), ((70, 20), 80), ((70, 19), 79), ((70, 17), 78), ((70, 15), 77), ((70, 7), 76), ((70, 6), 75), ((70, 5), 74), ((70, 4), 73), ((70, 3), 72), ((70, 0), 71)] ++ D) K19 _ (by decide) (by decide) (by decide) (pu_nk hD (by decide)) (fun w20 K20 j20 => ?_)
  refine pu_K.row (P := pu_PM N xs D) (c := 3) (m := 4) (k := 35) (D := [((70, 34), 90), ((70, 33), 89), ((70, 32), 88), ((70, 30), 87), ((70, 29), 86), ((70, 28), 85), ((70, 27), 84), ((70, 26), 83), ((70, 25), 82), ((70, 23), 81), ((70, 20), 80), ((70, 19), 79), ((70, 17), 78), ((70, 15), 77), ((70, 7), 76), ((70, 6), 75), ((70, 5), 74), ((70, 4), 73), ((70, 3), 72), ((70, 0), 71)] ++ D) K20 _ (by decide) (by decide) (by decide) (pu_nk hD (by decide)) (fun w21 K21 j21 => ?_)
  exact ⟨w21, rfl, K21, by rw [j21, j20, j19, j18, j17, j16, j15, j14, j13, j12, j11]; exact j110⟩
end PUR2
