/-! ===== feed, end, force, seed, note as steps ===== -/
section PUH1
variable {s : List (Nat × Nat)} {I I2 : Nat → Nat → Int32} {R : Nat → Nat → Option Nat} {own : Nat → Nat} {A T : pu_A} {nn nn' : Nat} {L : List pu_A} {j tl tl' : Nat} {rs : List pu_Ru}
theorem pu_In.few (H : pu_In s I R own A T nn L j tl rs) (w : ∀ q, q ≠ 2 → q ≠ 3 → q ≠ 18 → (q < 33 ∨ 36 < q) → q ≠ 70 → q ≠ 71 → q ≠ 80 → I2 q = I q) (w70 : ∀ k, k ≠ 1 → k ≠ 21 → k ≠ 22 → I2 70 k = I 70 k) (w80 : ∀ k, k < 118 → I2 80 k = I 80 k) (tp : pu_TP I2 tl') (ng : pu_NT I2 A nn') (fo : I2 18 3 = I2 70 21 ∧ pu_ir rs.length (I2 18 3) = true) (fx : I2 18 4 = I2 70 22 ∧ ¬ I2 18 4 < 0) : pu_In s I2 R own A T nn' L j tl' rs := by
  obtain ⟨h1, ⟨g1, ⟨v1, v2⟩, ⟨q, tm⟩, _⟩, ⟨h3, h4, h5⟩, _, h7, _, h12⟩ := H
  have e : ∀ q, 88 ≤ q → I2 q = I q := fun q hq => w q (by omega) (by omega) (by omega) (by omega) (by omega) (by omega) (by omega)
  have c : ∀ q, q ≠ 2 → q ≠ 3 → q ≠ 18 → (q < 33 ∨ 36 < q) → q ≠ 70 → q ≠ 71 → q ≠ 80 → I2 q = I q := w
  refine ⟨h1, ⟨g1, ⟨pu_V_eq (fun i hi => w _ (by omega) (by omega) (by omega) (by omega) (by omega) (by omega) (by omega)) v1, pu_V_eq (fun i hi => w _ (by omega) (by omega) (by omega) (by omega) (by omega) (by omega) (by omega)) v2⟩, ⟨pu_Q_of (by rw [w80 0 (by omega)]; exact q.1.1) (by rw [w80 1 (by omega)]; exact q.1.2.1) (by rw [w80 2 (by omega)]; exact q.1.2.2.1) (pu_Qs_eq g1.1.1 (fun k _ hk => w80 k (by omega)) (pu_Q_s q)), pu_TM_eq g1.2.1.1 (fun k hk => w80 k (by omega)) tm⟩, ng⟩,
    ⟨pu_RG_eq (fun q hq => e q (by omega)) (w 38 (by omega) (by omega) (by omega) (by omega) (by omega) (by omega) (by omega)) h3, by rw [w70 24 (by omega) (by omega) (by omega)]; exact h4, by rw [w 81 (by omega) (by omega) (by omega) (by omega) (by omega) (by omega) (by omega)]; exact h5⟩, tp,
    pu_RU_eq (fun q hq => e q (by omega)) (by rw [w 1 (by omega) (by omega) (by omega) (by omega) (by omega) (by omega) (by omega)]) (w70 2 (by omega) (by omega) (by omega)) (w 72 (by omega) (by omega) (by omega) (by omega) (by omega) (by omega) (by omega)) (w 74 (by omega) (by omega) (by omega) (by omega) (by omega) (by omega) (by omega)) (w 75 (by omega) (by omega) (by omega) (by omega) (by omega) (by omega) (by omega)) h7, ⟨fo, fx⟩, fun k hk => pu_IM1_eq e (h12 k hk)⟩
theorem pu_In.tp (H : pu_In s I R own A T nn L j tl rs) : pu_TP I tl := H.2.2.2.1
theorem pu_In.fo (H : pu_In s I R own A T nn L j tl rs) : I 18 3 = I 70 21 ∧ pu_ir rs.length (I 18 3) = true := H.2.2.2.2.2.1.1
theorem pu_In.fx (H : pu_In s I R own A T nn L j tl rs) : I 18 4 = I 70 22 ∧ ¬ I 18 4 < 0 := H.2.2.2.2.2.1.2
end PUH1
section PUH2
variable {N : Nat} {xs : Nat → Int32}
theorem pu_k_force (a : Int32) : pu_Step N xs (fb_x_force 1 a) (fb_m_force 70 a) := by
  rintro ⟨s, I, J, R⟩ ⟨h0, hxs, own, A, T, nn, L, j, tl, rs, H⟩
  have H : pu_In s I R own A T nn L j tl rs := H
  have h0 : s[0]? = some (9, N) := h0
  have hxs : I 0 = xs := hxs
  obtain ⟨⟨r1, r2, r3⟩, _⟩ := H.2.2.2.2.1
  have ex := pu_x_force (I := I) (J := J) H.hX r1 r2 a
  cases hi : pu_ir rs.length a
  · rw [hi, if_neg (by decide)] at ex
    have em := pu_m_force (I := I) (J := J) H.hM r3 a
    rw [hi, if_neg (by decide)] at em
    exact ⟨-2, _, _, ex, em, ⟨h0, hxs, pu_m70 H.hM⟩, h0, hxs, own, A, T, nn, L, j, tl, rs, H⟩
  · rw [hi, if_pos rfl] at ex
    have em := pu_m_force (I := tb_up2 I 18 3 a) (J := J) H.hM (rc := rs.length) (by rw [pu_u2p _ _ _ _ (by decide)]; exact r3) a
    rw [hi, if_pos rfl, pu_u2p _ _ _ _ (by decide), ← H.fo.1] at em
    refine ⟨_, _, _, ex, em, ⟨h0, by show tb_up2 I 18 3 a 0 = xs; rw [pu_u2p _ _ _ _ (by decide)]; exact hxs, pu_m70 H.hM⟩, h0, ?_, own, A, T, nn, L, j, tl, rs, ?_⟩
    · show tb_up2 (tb_up2 I 18 3 a) 70 21 a 0 = xs
      rw [pu_u2p _ _ _ _ (by decide), pu_u2p _ _ _ _ (by decide)]; exact hxs
    · have e18 : ∀ k, tb_up2 (tb_up2 I 18 3 a) 70 21 a 18 k = if k = 3 then a else I 18 k := fun k => by rw [pu_u2p _ _ _ _ (by decide), pu_u2i]
      have e70 : ∀ k, tb_up2 (tb_up2 I 18 3 a) 70 21 a 70 k = if k = 21 then a else I 70 k := fun k => by rw [pu_u2i, pu_u2p _ _ _ _ (by decide)]
      have eo : ∀ q, q ≠ 18 → q ≠ 70 → tb_up2 (tb_up2 I 18 3 a) 70 21 a q = I q := fun q h1 h2 => by rw [pu_u2p _ _ _ _ h2, pu_u2p _ _ _ _ h1]
      show pu_In s (tb_up2 (tb_up2 I 18 3 a) 70 21 a) R own A T nn L j tl rs
      refine H.few (fun q _ _ h3 _ h5 _ _ => eo q h3 h5) (fun k _ h2 _ => by rw [e70, if_neg h2]) (fun k _ => by rw [eo 80 (by decide) (by decide)]) (pu_TP_eq (by rw [eo 2 (by decide) (by decide)]) (by rw [e70]; rfl) (eo 3 (by decide) (by decide)) (eo 71 (by decide) (by decide)) H.tp) ?_ ⟨by rw [e18, e70]; rfl, by rw [e18]; exact hi⟩ ⟨by rw [e18, e70]; exact H.fx.1, by rw [e18]; exact H.fx.2⟩
      exact pu_Ng_eq (I := I) (p := 33) (f := I 80) (fun i hi => eo _ (by omega) (by omega)) (fun i _ _ => by show tb_up2 (tb_up2 I 18 3 a) 70 21 a 80 i = _; rw [eo 80 (by decide) (by decide)]) rfl H.nt
theorem pu_k_seed (a : Int32) : pu_Step N xs (fb_x_seed 1 a) (fb_m_seed 70 a) := by
  rintro ⟨s, I, J, R⟩ ⟨h0, hxs, own, A, T, nn, L, j, tl, rs, H⟩
  have H : pu_In s I R own A T nn L j tl rs := H
  have h0 : s[0]? = some (9, N) := h0
  have hxs : I 0 = xs := hxs
  have ex := pu_x_seed (I := I) (J := J) H.hX a
  by_cases hi : a < 0
  · rw [if_pos hi] at ex
    have em := pu_m_seed (I := I) (J := J) H.hM a
    rw [if_pos hi] at em
    exact ⟨-1, _, _, ex, em, ⟨h0, hxs, pu_m70 H.hM⟩, h0, hxs, own, A, T, nn, L, j, tl, rs, H⟩
  · rw [if_neg hi] at ex
    have em := pu_m_seed (I := tb_up2 I 18 4 a) (J := J) H.hM a
    rw [if_neg hi, pu_u2p _ _ _ _ (by decide), ← H.fx.1] at em
    refine ⟨_, _, _, ex, em, ⟨h0, by show tb_up2 I 18 4 a 0 = xs; rw [pu_u2p _ _ _ _ (by decide)]; exact hxs, pu_m70 H.hM⟩, h0, ?_, own, A, T, nn, L, j, tl, rs, ?_⟩
    · show tb_up2 (tb_up2 I 18 4 a) 70 22 a 0 = xs
      rw [pu_u2p _ _ _ _ (by decide), pu_u2p _ _ _ _ (by decide)]; exact hxs
    · have e18 : ∀ k, tb_up2 (tb_up2 I 18 4 a) 70 22 a 18 k = if k = 4 then a else I 18 k := fun k => by rw [pu_u2p _ _ _ _ (by decide), pu_u2i]
      have e70 : ∀ k, tb_up2 (tb_up2 I 18 4 a) 70 22 a 70 k = if k = 22 then a else I 70 k := fun k => by rw [pu_u2i, pu_u2p _ _ _ _ (by decide)]
      have eo : ∀ q, q ≠ 18 → q ≠ 70 → tb_up2 (tb_up2 I 18 4 a) 70 22 a q = I q := fun q h1 h2 => by rw [pu_u2p _ _ _ _ h2, pu_u2p _ _ _ _ h1]
      show pu_In s (tb_up2 (tb_up2 I 18 4 a) 70 22 a) R own A T nn L j tl rs
      refine H.few (fun q _ _ h3 _ h5 _ _ => eo q h3 h5) (fun k _ _ h2 => by rw [e70, if_neg h2]) (fun k _ => by rw [eo 80 (by decide) (by decide)]) (pu_TP_eq (by rw [eo 2 (by decide) (by decide)]) (by rw [e70]; rfl) (eo 3 (by decide) (by decide)) (eo 71 (by decide) (by decide)) H.tp) ?_ ⟨by rw [e18, e70]; exact H.fo.1, by rw [e18]; exact H.fo.2⟩ ⟨by rw [e18, e70]; rfl, by rw [e18]; exact hi⟩
      exact pu_Ng_eq (I := I) (p := 33) (f := I 80) (fun i hi => eo _ (by omega) (by omega)) (fun i _ _ => by show tb_up2 (tb_up2 I 18 4 a) 70 22 a 80 i = _; rw [eo 80 (by decide) (by decide)]) rfl H.nt
theorem pu_k_end (a : Int32) : pu_Step N xs (fb_x_end 1 a) (fb_m_end 70 a) := by
  rintro ⟨s, I, J, R⟩ ⟨h0, hxs, own, A, T, nn, L, j, tl, rs, H⟩
  have H : pu_In s I R own A T nn L j tl rs := H
  have h0 : s[0]? = some (9, N) := h0
  have hxs : I 0 = xs := hxs
  obtain ⟨t1, t2, t3, t4⟩ := H.tp
  have ex := pu_x_end (I := I) (J := J) H.hX a
  by_cases hi : a < 0
  · rw [if_pos hi] at ex
    have em := pu_m_end (I := I) (J := J) H.hM a
    rw [if_pos hi] at em
    exact ⟨-1, _, _, ex, em, ⟨h0, hxs, pu_m70 H.hM⟩, h0, hxs, own, A, T, nn, L, j, tl, rs, H⟩
  · rw [if_neg hi, t1] at ex
    by_cases hi2 : nI tl < a
    · rw [if_pos hi2] at ex
      have em := pu_m_end (I := I) (J := J) H.hM a
      rw [if_neg hi, t2, if_pos hi2] at em
      exact ⟨-1, _, _, ex, em, ⟨h0, hxs, pu_m70 H.hM⟩, h0, hxs, own, A, T, nn, L, j, tl, rs, H⟩
    · obtain ⟨n, hn, rfl⟩ := nI_of hi
      rw [if_neg hi2] at ex
      rw [pu_ltI (by omega) (by omega)] at hi2
      have em := pu_m_end (I := tb_up2 I 2 0 (nI n)) (J := J) H.hM (nI n)
      rw [if_neg hi, pu_u2p _ _ _ _ (by decide), t2, if_neg (by rw [pu_ltI (by omega) (by omega)]; exact hi2)] at em
      refine ⟨_, _, _, ex, em, ⟨h0, by show tb_up2 I 2 0 (nI n) 0 = xs; rw [pu_u2p _ _ _ _ (by decide)]; exact hxs, pu_m70 H.hM⟩, h0, ?_, own, A, T, nn, L, j, n, rs, ?_⟩
      · show tb_up2 (tb_up2 I 2 0 (nI n)) 70 1 (nI n) 0 = xs
        rw [pu_u2p _ _ _ _ (by decide), pu_u2p _ _ _ _ (by decide)]; exact hxs
      · have e70 : ∀ k, tb_up2 (tb_up2 I 2 0 (nI n)) 70 1 (nI n) 70 k = if k = 1 then nI n else I 70 k := fun k => by rw [pu_u2i, pu_u2p _ _ _ _ (by decide)]
        have e2 : tb_up2 (tb_up2 I 2 0 (nI n)) 70 1 (nI n) 2 0 = nI n := by rw [pu_u2p _ _ _ _ (by decide), pu_u2s]
        have eo : ∀ q, q ≠ 2 → q ≠ 70 → tb_up2 (tb_up2 I 2 0 (nI n)) 70 1 (nI n) q = I q := fun q h1 h2 => by rw [pu_u2p _ _ _ _ h2, pu_u2p _ _ _ _ h1]
        show pu_In s (tb_up2 (tb_up2 I 2 0 (nI n)) 70 1 (nI n)) R own A T nn L j n rs
        refine H.few (fun q h1 _ _ _ h5 _ _ => eo q h1 h5) (fun k h1 _ _ => by rw [e70, if_neg h1]) (fun k _ => by rw [eo 80 (by decide) (by decide)]) ⟨e2, by rw [e70]; rfl, by omega, fun k hk => by rw [eo 3 (by decide) (by decide), eo 71 (by decide) (by decide)]; exact t4 k (by omega)⟩ ?_ ⟨by rw [eo 18 (by decide) (by decide), e70]; exact H.fo.1, by rw [eo 18 (by decide) (by decide)]; exact H.fo.2⟩ ⟨by rw [eo 18 (by decide) (by decide), e70]; exact H.fx.1, by rw [eo 18 (by decide) (by decide)]; exact H.fx.2⟩
        exact pu_Ng_eq (I := I) (p := 33) (f := I 80) (fun i hi => eo _ (by omega) (by omega)) (fun i _ _ => by show tb_up2 (tb_up2 I 2 0 (nI n)) 70 1 (nI n) 80 i = _; rw [eo 80 (by decide) (by decide)]) rfl H.nt
theorem pu_k_feed (a b c d f : Int32) : pu_Step N xs (fb_x_feed 1 a b c d f) (fb_m_feed 70 a b c d f) := by
  rintro ⟨s, I, J, R⟩ ⟨h0, hxs, own, A, T, nn, L, j, tl, rs, H⟩
  have H : pu_In s I R own A T nn L j tl rs := H
  have h0 : s[0]? = some (9, N) := h0
  have hxs : I 0 = xs := hxs
  obtain ⟨t1, t2, t3, t4⟩ := H.tp
  by_cases h : 400 < tl + 20
  · exact ⟨-1, _, _, pu_x_feed_0 H.hX t1 t3 h a b c d f, pu_m_feed_0 H.hM t2 t3 h a b c d f, ⟨h0, hxs, pu_m70 H.hM⟩, h0, hxs, own, A, T, nn, L, j, tl, rs, H⟩
  · obtain ⟨I1, I2, I3, I4, I5, a1, a2, a3, a4, a5, a6, a7, a8, a9⟩ := pu_x_feed (I := I) (J := J) H.hX t1 (by omega) a b c d f
    obtain ⟨K1, K2, K3, K4, K5, b1, b2, b3, b4, b5, b6, b7, b8, b9⟩ := pu_m_feed (I := I5) (J := J) H.hM (L := tl) (by rw [a9 70 (by decide) (by decide)]; exact t2) (by omega) a b c d f
    rw [a9 71 (by decide) (by decide)] at b3
    have z1 := pu_T4_ok a3 b3 t4
    have z2 := pu_T4_ok a4 b4 z1
    have z3 := pu_T4_ok a5 b5 z2
    have z4 := pu_T4_ok a6 b6 z3
    have z5 := pu_T4_ok a7 b7 z4
    have eo : ∀ q, q ≠ 2 → q ≠ 3 → q ≠ 70 → q ≠ 71 → K5 q = I q := fun q h1 h2 h3 h4 => by rw [b9 q h3 h4, a9 q h1 h2]
    have e70 : ∀ k, k ≠ 1 → K5 70 k = I 70 k := fun k hk => by rw [b8 k hk, a9 70 (by decide) (by decide)]
    refine ⟨nI (tl + 20), _, _, a1, b1, ⟨h0, (a9 0 (by decide) (by decide)).trans hxs, pu_m70 H.hM⟩, h0, (eo 0 (by decide) (by decide) (by decide) (by decide)).trans hxs, own, A, T, nn, L, j, tl + 20, rs, ?_⟩
    show pu_In s K5 R own A T nn L j (tl + 20) rs
    refine H.few (fun q h1 h2 _ _ h5 h6 _ => eo q h1 h2 h5 h6) (fun k h1 _ _ => e70 k h1) (fun k _ => by rw [eo 80 (by decide) (by decide) (by decide) (by decide)]) ⟨by rw [b9 2 (by decide) (by decide)]; exact a2, b2, by omega, fun k hk => by rw [b9 3 (by decide) (by decide)]; exact z5 k (by omega)⟩ ?_ ⟨by rw [eo 18 (by decide) (by decide) (by decide) (by decide), e70 21 (by decide)]; exact H.fo.1, by rw [eo 18 (by decide) (by decide) (by decide) (by decide)]; exact H.fo.2⟩ ⟨by rw [eo 18 (by decide) (by decide) (by decide) (by decide), e70 22 (by decide)]; exact H.fx.1, by rw [eo 18 (by decide) (by decide) (by decide) (by decide)]; exact H.fx.2⟩
    exact pu_Ng_eq (I := I) (p := 33) (f := I 80) (fun i hi => eo _ (by omega) (by omega) (by omega) (by omega)) (fun i _ _ => by show K5 80 i = _; rw [eo 80 (by decide) (by decide) (by decide) (by decide)]) rfl H.nt
theorem pu_k_note (a b c : Int32) : pu_Step N xs (fb_x_note 1 a b c) (fb_m_note 70 a b c) := by
  rintro ⟨s, I, J, R⟩ ⟨h0, hxs, own, A, T, nn, L, j, tl, rs, H⟩
  have H : pu_In s I R own A T nn L j tl rs := H
  have h0 : s[0]? = some (9, N) := h0
  have hxs : I 0 = xs := hxs
  obtain ⟨n1, n2, n3, n4⟩ := H.nt
  have ex := pu_x_note (J := J) H.hX H.v H.wf n3 n1 a b c
  by_cases ha : a = -1
  · rw [if_pos ha] at ex
    have em := pu_m_note (I := tb_up2 I 33 0 0) (J := J) H.hM (A := A) (by rw [pu_u2p _ _ _ _ (by decide)]; exact H.q) H.wf n3 (by rw [pu_u2p _ _ _ _ (by decide)]; exact n2) a b c
    rw [if_pos ha] at em
    refine ⟨0, _, _, ex, em, ⟨h0, by show tb_up2 I 33 0 0 0 = xs; rw [pu_u2p _ _ _ _ (by decide)]; exact hxs, pu_m70 H.hM⟩, h0, ?_, own, A, T, 0, L, j, tl, rs, ?_⟩
    · show tb_up2 (tb_up2 I 33 0 0) 80 148 0 0 = xs
      rw [pu_u2p _ _ _ _ (by decide), pu_u2p _ _ _ _ (by decide)]; exact hxs
    · show pu_In s (tb_up2 (tb_up2 I 33 0 0) 80 148 0) R own A T 0 L j tl rs
      have eo : ∀ q, q ≠ 33 → q ≠ 80 → tb_up2 (tb_up2 I 33 0 0) 80 148 0 q = I q := fun q h1 h2 => by rw [pu_u2p _ _ _ _ h2, pu_u2p _ _ _ _ h1]
      refine H.few (fun q _ _ _ h4 _ _ h7 => eo q (by omega) h7) (fun k _ _ _ => by rw [eo 70 (by decide) (by decide)]) (fun k hk => by rw [pu_u2k _ _ _ _ (by omega), pu_u2p _ _ _ _ (by decide)]) (pu_TP_eq (by rw [eo 2 (by decide) (by decide)]) (by rw [eo 70 (by decide) (by decide)]) (eo 3 (by decide) (by decide)) (eo 71 (by decide) (by decide)) H.tp) ⟨?_, ?_, Nat.zero_le _, fun i hi => absurd hi (Nat.not_lt_zero _)⟩ ⟨by rw [eo 18 (by decide) (by decide), eo 70 (by decide) (by decide)]; exact H.fo.1, by rw [eo 18 (by decide) (by decide)]; exact H.fo.2⟩ ⟨by rw [eo 18 (by decide) (by decide), eo 70 (by decide) (by decide)]; exact H.fx.1, by rw [eo 18 (by decide) (by decide)]; exact H.fx.2⟩
      · rw [pu_u2p _ _ _ _ (by decide), pu_u2s]; rfl
      · rw [pu_u2s]; rfl
  · rw [if_neg ha] at ex
    cases hno : pu_no A nn a b c
    · rw [hno, if_neg (by decide)] at ex
      have em := pu_m_note (J := J) H.hM H.q H.wf n3 n2 a b c
      rw [if_neg ha, hno, if_neg (by decide)] at em
      exact ⟨-2, _, _, ex, em, ⟨h0, hxs, pu_m70 H.hM⟩, h0, hxs, own, A, T, nn, L, j, tl, rs, H⟩
    · rw [hno, if_pos rfl] at ex
      have e1 : ∀ q, (q < 33 ∨ 36 < q) → tb_up2 (tb_up2 (tb_up2 (tb_up2 I 34 nn a) 35 nn b) 36 nn c) 33 0 (nI (nn + 1)) q = I q := fun q hq => by rw [pu_u2p _ _ _ _ (by omega), pu_u2p _ _ _ _ (by omega), pu_u2p _ _ _ _ (by omega), pu_u2p _ _ _ _ (by omega)]
      have em := pu_m_note (I := tb_up2 (tb_up2 (tb_up2 (tb_up2 I 34 nn a) 35 nn b) 36 nn c) 33 0 (nI (nn + 1))) (J := J) H.hM (A := A) (by rw [e1 80 (by omega)]; exact H.q) H.wf n3 (by rw [e1 80 (by omega)]; exact n2) a b c
      rw [if_neg ha, hno, if_pos rfl] at em
      have x33 : tb_up2 (tb_up2 (tb_up2 (tb_up2 I 34 nn a) 35 nn b) 36 nn c) 33 0 (nI (nn + 1)) 33 0 = nI (nn + 1) := pu_u2s _ _ _ _
      have x34 : ∀ k, tb_up2 (tb_up2 (tb_up2 (tb_up2 I 34 nn a) 35 nn b) 36 nn c) 33 0 (nI (nn + 1)) 34 k = if k = nn then a else I 34 k := fun k => by rw [pu_u2p _ _ _ _ (by decide), pu_u2p _ _ _ _ (by decide), pu_u2p _ _ _ _ (by decide), pu_u2i]
      have x35 : ∀ k, tb_up2 (tb_up2 (tb_up2 (tb_up2 I 34 nn a) 35 nn b) 36 nn c) 33 0 (nI (nn + 1)) 35 k = if k = nn then b else I 35 k := fun k => by rw [pu_u2p _ _ _ _ (by decide), pu_u2p _ _ _ _ (by decide), pu_u2i, pu_u2p _ _ _ _ (by decide)]
      have x36 : ∀ k, tb_up2 (tb_up2 (tb_up2 (tb_up2 I 34 nn a) 35 nn b) 36 nn c) 33 0 (nI (nn + 1)) 36 k = if k = nn then c else I 36 k := fun k => by rw [pu_u2p _ _ _ _ (by decide), pu_u2i, pu_u2p _ _ _ _ (by decide), pu_u2p _ _ _ _ (by decide)]
      generalize tb_up2 (tb_up2 (tb_up2 (tb_up2 I 34 nn a) 35 nn b) 36 nn c) 33 0 (nI (nn + 1)) = K at ex em e1 x33 x34 x35 x36
      have y80 : ∀ k, tb_up2 (tb_up2 (tb_up2 (tb_up2 K 80 (118 + 3 * nn) a) 80 (118 + 3 * nn + 1) b) 80 (118 + 3 * nn + 2) c) 80 148 (nI (nn + 1)) 80 k = if k = 148 then nI (nn + 1) else if k = 118 + 3 * nn + 2 then c else if k = 118 + 3 * nn + 1 then b else if k = 118 + 3 * nn then a else I 80 k := fun k => by rw [pu_u2i, pu_u2i, pu_u2i, pu_u2i, e1 80 (by omega)]
      have yo : ∀ q, q ≠ 80 → tb_up2 (tb_up2 (tb_up2 (tb_up2 K 80 (118 + 3 * nn) a) 80 (118 + 3 * nn + 1) b) 80 (118 + 3 * nn + 2) c) 80 148 (nI (nn + 1)) q = K q := fun q hq => by rw [pu_u2p _ _ _ _ hq, pu_u2p _ _ _ _ hq, pu_u2p _ _ _ _ hq, pu_u2p _ _ _ _ hq]
      generalize tb_up2 (tb_up2 (tb_up2 (tb_up2 K 80 (118 + 3 * nn) a) 80 (118 + 3 * nn + 1) b) 80 (118 + 3 * nn + 2) c) 80 148 (nI (nn + 1)) = K2 at em y80 yo
      have eo : ∀ q, (q < 33 ∨ 36 < q) → q ≠ 80 → K2 q = I q := fun q h1 h2 => by rw [yo q h2, e1 q h1]
      unfold pu_no at hno
      rw [Bool.and_eq_true, Bool.and_eq_true, Bool.and_eq_true, decide_eq_true_eq] at hno
      obtain ⟨⟨⟨w1, w2⟩, w3⟩, w4⟩ := hno
      obtain ⟨n, hn, rfl, _⟩ := pu_wi_n (h := 60) w1 (by decide) rfl (by decide)
      obtain ⟨h, hh, rfl⟩ := pu_ih_n w2
      obtain ⟨t, ht, rfl, _⟩ := pu_wi_n (h := 1) w3 (by decide) rfl (by decide)
      refine ⟨nI (nn + 1), _, _, ex, em, ⟨h0, (e1 0 (by omega)).trans hxs, pu_m70 H.hM⟩, h0, (eo 0 (by omega) (by decide)).trans hxs, own, A, T, nn + 1, L, j, tl, rs, ?_⟩
      show pu_In s K2 R own A T (nn + 1) L j tl rs
      refine H.few (fun q _ _ _ h4 _ _ h7 => eo q h4 h7) (fun k _ _ _ => by rw [eo 70 (by omega) (by decide)]) (fun k hk => by rw [y80, if_neg (by omega), if_neg (by omega), if_neg (by omega), if_neg (by omega)]) (pu_TP_eq (by rw [eo 2 (by omega) (by decide)]) (by rw [eo 70 (by omega) (by decide)]) (eo 3 (by omega) (by decide)) (eo 71 (by omega) (by decide)) H.tp) ⟨by rw [yo 33 (by decide)]; exact x33, by rw [y80, if_pos rfl], by omega, fun i hi => ?_⟩ ⟨by rw [eo 18 (by omega) (by decide), eo 70 (by omega) (by decide)]; exact H.fo.1, by rw [eo 18 (by omega) (by decide)]; exact H.fo.2⟩ ⟨by rw [eo 18 (by omega) (by decide), eo 70 (by omega) (by decide)]; exact H.fx.1, by rw [eo 18 (by omega) (by decide)]; exact H.fx.2⟩
      rw [yo 34 (by decide), yo 35 (by decide), yo 36 (by decide), x34, x35, x36, y80, y80, y80]
      by_cases hin : i = nn
      · subst hin
        refine ⟨n, h, t, hn, hh, ht, ⟨if_pos rfl, if_pos rfl, if_pos rfl⟩, ?_, ?_, ?_⟩
        · rw [if_neg (by omega), if_neg (by omega), if_neg (by omega), if_pos rfl]
        · rw [if_neg (by omega), if_neg (by omega), if_pos rfl]
        · rw [if_neg (by omega), if_pos rfl]
      · obtain ⟨n', h', t', a1, a2, a3, a4, a5, a6, a7⟩ := n4 i (by omega)
        rw [if_neg hin, if_neg hin, if_neg hin]
        refine ⟨n', h', t', a1, a2, a3, a4, ?_, ?_, ?_⟩
        · rw [if_neg (by omega), if_neg (by omega), if_neg (by omega), if_neg (by omega)]; exact a5
        · rw [if_neg (by omega), if_neg (by omega), if_neg (by omega), if_neg (by omega)]; exact a6
        · rw [if_neg (by omega), if_neg (by omega), if_neg (by omega), if_neg (by omega)]; exact a7
end PUH2
