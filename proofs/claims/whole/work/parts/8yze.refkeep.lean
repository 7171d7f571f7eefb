/-! ===== The reference reads a clause of a rule, whole ===== -/
section PVE1
variable {s : List (Nat × Nat)} {R : Nat → Nat → Option Nat} {b : Nat → Nat} {tl t : Nat}
/-- the new clause stands behind the others -/
theorem pz_MK.add {I0 I I' : Nat → Nat → Int32} {ru : pu_Ru} {cl : List (Nat × Nat) × Option (List (Nat × Nat))} {n n0 L' : Nat} {r : List (Nat × Nat × Nat)} (ht : t < 6) (rn : pz_RN (I0 72) (I0 74) t 0 0 ru) (f72 : ∀ k, k < 400 * t + pz_ln ru → I 72 k = I0 72 k) (f74 : ∀ k, k < 48 * t + 4 * ru.length → I 74 k = I0 74 k) (eI : I' = tb_up2 (tb_up2 I 74 (48 * t + 4 * ru.length + 3) (nI L')) 75 t (nI (ru.length + 1))) (rs : pu_RS I b tl r) (h11 : I 70 11 = nI t) (h73 : I 73 t = nI L') (hL : L' = pz_ln ru + pz_ln [cl]) (h12 : I 70 12 = nI n) (h60 : n ≤ 60) (hl : L' + r.length ≤ 401) (one : pz_RN (I' 72) (I' 74) t ru.length (pz_ln ru) [cl]) : pz_MK I' b tl t (ru ++ [cl], n, r, 0) := by
  have q70 : I' 70 = I 70 := by rw [eI, pu_u2p _ _ _ _ (by decide), pu_u2p _ _ _ _ (by decide)]
  have q71 : I' 71 = I 71 := by rw [eI, pu_u2p _ _ _ _ (by decide), pu_u2p _ _ _ _ (by decide)]
  have q72 : I' 72 = I 72 := by rw [eI, pu_u2p _ _ _ _ (by decide), pu_u2p _ _ _ _ (by decide)]
  have q73 : I' 73 = I 73 := by rw [eI, pu_u2p _ _ _ _ (by decide), pu_u2p _ _ _ _ (by decide)]
  refine ⟨fun _ => ⟨pz_RS_eq q71 (by rw [q70]) (by rw [q70]) (by rw [q70]) rs, by rw [q70]; exact h11, ?_, ?_, by rw [q70]; exact h12, h60, ?_, ?_⟩, fun x => absurd rfl x⟩
  · rw [q73, h73]
    show nI L' = nI (pz_ln (ru ++ [cl]))
    rw [pz_ln_app, hL]
  · rw [eI, pu_u2s]
    show _ = nI (ru ++ [cl]).length
    rw [List.length_append]; rfl
  · refine pz_RN_app ru 0 0 (pz_RN_eq ru 0 0 (fun k _ k2 => ?_) (fun k _ k2 => ?_) rn) (by rw [Nat.zero_add, Nat.zero_add]; exact one)
    · rw [q72, f72 k (by omega)]
    · rw [eI, pu_u2p _ _ _ _ (by decide), pu_u2k _ _ _ _ (by omega), f74 k (by omega)]
  · show pz_ln (ru ++ [cl]) + r.length ≤ 401
    rw [pz_ln_app, ← hL]; exact hl
theorem pz_m_keep {I : Nat → Nat → Int32} {J : Nat → Nat → Int64} (hM : pu_M s R) (ht : t < 6) {ru : pu_Ru} {n : Nat} {r : List (Nat × Nat × Nat)} (h : pz_MK I b tl t (ru, n, r, 0)) (hk : pu_hk r = 34) {p : Nat} (a : pz_At I b tl p) (er : r = pu_tt b tl p) (hi : ru.length < 12) :
    ∃ I', fb_m_isKeepHere 70 (s, I, J, R) = some (pu_b (decide ((pz_kc (ru, n, r, 0)).2.2.2 = 0)), (s, I', J, R)) ∧ pz_MK I' b tl t (pz_kc (ru, n, r, 0)) ∧ pz_Mv t I I' ∧ I' 70 14 = I 70 14 := by
  obtain ⟨_, _, _, h75, _, _, hrn, _⟩ := h.1 rfl
  have h75 : I 75 t = nI ru.length := h75
  have hrn : pz_RN (I 72) (I 74) t 0 0 ru := hrn
  obtain ⟨I1, a1, a2, a3⟩ := pz_pass (J := J) (e := 400) hM h.z a er (by omega)
  obtain ⟨_, g2, g3, _⟩ := a3.1 rfl
  have g3 : I1 73 t = nI (pz_ln ru) := g3
  have g75 : I1 75 t = nI ru.length := by rw [a2.1 75 (by decide)]; exact h75
  have eat : (48 : Int32) * nI t + 4 * nI ru.length = nI (48 * t + 4 * ru.length) := by rw [pu_M48, pu_M4, nI_add]
  have eat1 : nI (48 * t + 4 * ru.length) + 1 = nI (48 * t + 4 * ru.length + 1) := nI_add _ 1
  have eat2 : nI (48 * t + 4 * ru.length) + 2 = nI (48 * t + 4 * ru.length + 2) := nI_add _ 2
  obtain ⟨I2, hI2⟩ : ∃ I2, I2 = tb_up2 I1 74 (48 * t + 4 * ru.length) (nI (pz_ln ru)) := ⟨_, rfl⟩
  have v2 : pz_Mv t I I2 := by rw [hI2]; exact (pz_Mv.nf a2).tr (pz_Mv.u74 (by omega))
  have m2 : pz_MZ I2 b tl t (pz_ln ru) 400 ([], n, r.tail, 0) := a3.eq (by rw [hI2, pu_u2p _ _ _ _ (by decide)]) (by rw [hI2, pu_u2p _ _ _ _ (by decide)]) (by rw [hI2, pu_u2p _ _ _ _ (by decide)]) (fun k _ => by rw [hI2, pu_u2p _ _ _ _ (by decide)])
  obtain ⟨I3, b1, b2, b3⟩ := pz_m_sum (J := J) hM ht (Nat.le_refl 400) m2
  have v3 : pz_Mv t I I3 := v2.tr (pz_Mv.my (pz_My.mx b3))
  have hnil := pz_su_f (z := ([], n, r.tail, 0)) rfl
  have e14 : ∀ I', pz_Mx t (pz_ln ru) I2 I' → I' 70 14 = I 70 14 := fun I' hx => by rw [hx.2.1 14 (by decide) (by decide) (by decide) (by decide), hI2, pu_u2p _ _ _ _ (by decide), a2.2 14 (by decide)]
  have start : fb_m_isKeepHere 70 (s, I, J, R) = if ¬ (pz_su ([], n, r.tail, 0)).2.2.2 = 0 then some (0, (s, I3, J, R)) else (tb_lI [1, 9] 73 (I3 70 11) (s, I3, J, R)).bind fun x15 => (tb_tI 74 (nI (48 * t + 4 * ru.length + 1)) x15 (s, I3, J, R)).bind fun w16 => (tb_gN 22 5 70 w16).bind fun p17 => (tb_tI p17 (nI (48 * t + 4 * ru.length + 2)) (-1) w16).bind fun w18 => (tb_on 22 70 w18 (fb_m_takesWord 70 26982 w18)).bind fun x19 => (if x19.1 = 0 then fj_m_isKeepHere_j67 70 (nI (48 * t + 4 * ru.length)) x19.2 else (tb_gN 22 5 70 x19.2).bind fun p29 => (tb_gN 22 4 70 x19.2).bind fun p30 => (tb_gI 22 11 70 x19.2).bind fun x31 => (tb_lI [1, 9] p30 x31 x19.2).bind fun x32 => (tb_tI p29 (nI (48 * t + 4 * ru.length + 2)) x32 x19.2).bind fun w33 => (tb_on 22 70 w33 (fb_m_tested 70 w33)).bind fun x34 => (if x34.1 = 0 then some (0, x34.2) else fj_m_isKeepHere_j67 70 (nI (48 * t + 4 * ru.length)) x34.2)) := by
    unfold fb_m_isKeepHere
    simp only [pu_on (pu_m70 hM), a1, Option.bind_some, pu_gI (pu_m70 hM), g2, pu_gN (pu_m70 hM), pu_r6 hM, pu_r5 hM, pu_r4 hM, pu_lI (pu_m75 hM) (show t < 6 by omega) (show 6 ≤ 100000 by omega), g75, pu_lI (pu_m73 hM) (show t < 7 by omega) (show 7 ≤ 100000 by omega), g3, eat, eat1, eat2, pu_tI (pu_m74 hM) (show 48 * t + 4 * ru.length < 288 by omega) (show 288 ≤ 100000 by omega), ← hI2, b1, pu_b0, decide_eq_false_iff_not]
  rw [start]
  unfold pz_kc
  dsimp only
  generalize pz_su ([], n, r.tail, 0) = zs at *
  by_cases z0 : zs.2.2.2 = 0
  · rw [if_neg (fun x => x z0)]
    obtain ⟨cs, ns, rs, fs⟩ := zs
    have z0 : fs = 0 := z0
    subst z0
    dsimp only
    obtain ⟨k1, k11, k73, kcd, k12, k60, k7⟩ := b2.1 rfl
    have k73 : I3 73 t = nI (pz_ln ru + cs.length) := k73
    have kcd : pu_cd (I3 72) (400 * t + pz_ln ru) cs := kcd
    have k7 : pz_ln ru + cs.length + rs.length ≤ 400 := k7
    obtain ⟨I4, hI4⟩ : ∃ I4, I4 = tb_up2 (tb_up2 I3 74 (48 * t + 4 * ru.length + 1) (nI (pz_ln ru + cs.length))) 74 (48 * t + 4 * ru.length + 2) (-1) := ⟨_, rfl⟩
    have q4 : ∀ q, q ≠ 74 → I4 q = I3 q := fun q hq => by rw [hI4, pu_u2p _ _ _ _ hq, pu_u2p _ _ _ _ hq]
    have v4 : pz_Mv t I I4 := by rw [hI4]; exact (v3.tr (pz_Mv.u74 (by omega))).tr (pz_Mv.u74 (by omega))
    have m4 : pz_MZ I4 b tl t (pz_ln ru) 400 (cs, ns, rs, 0) := b2.eq (q4 71 (by decide)) (q4 72 (by decide)) (q4 73 (by decide)) (fun k _ => by rw [q4 70 (by decide)])
    obtain ⟨I5, p5, c1, c2, c3, c4, er5⟩ := pz_isw (J := J) hM m4 (k := 15) (by omega) pz_W15
    have v5 : pz_Mv t I I5 := v4.tr (pz_Mv.nf c2)
    have x14 : I5 70 14 = I 70 14 := by rw [c2.2 14 (by decide), q4 70 (by decide)]; exact e14 I3 b3
    have n74 : I5 74 = I4 74 := c2.1 74 (by decide)
    have n72 : I5 72 = I3 72 := by rw [c2.1 72 (by decide), q4 72 (by decide)]
    have f72 : ∀ k, k < 400 * t + pz_ln ru → I3 72 k = I 72 k := fun k hk => by rw [b3.2.2 k hk, hI2, pu_u2p _ _ _ _ (by decide), a2.1 72 (by decide)]
    have c74 : I3 74 = I2 74 := b3.1 74 (by decide) (by decide) (by decide)
    have f74 : ∀ k, k < 48 * t + 4 * ru.length → I5 74 k = I 74 k := fun k hk => by rw [n74, hI4, pu_u2k _ _ _ _ (by omega), pu_u2k _ _ _ _ (by omega), c74, hI2, pu_u2k _ _ _ _ (by omega), a2.1 74 (by decide)]
    have d0 : I5 74 (48 * t + 4 * ru.length) = nI (pz_ln ru) := by rw [n74, hI4, pu_u2k _ _ _ _ (by omega), pu_u2k _ _ _ _ (by omega), c74, hI2, pu_u2s]
    have d1 : I5 74 (48 * t + 4 * ru.length + 1) = nI (pz_ln ru + cs.length) := by rw [n74, hI4, pu_u2k _ _ _ _ (by omega), pu_u2s]
    have d2 : I5 74 (48 * t + 4 * ru.length + 2) = -1 := by rw [n74, hI4, pu_u2s]
    obtain ⟨l1, l11, l73, _, l12, _, _⟩ := c3.1 rfl
    have l73 : I5 73 t = nI (pz_ln ru + cs.length) := l73
    have l75 : I5 75 t = nI ru.length := by rw [c2.1 75 (by decide), q4 75 (by decide), b3.1 75 (by decide) (by decide) (by decide), hI2, pu_u2p _ _ _ _ (by decide)]; exact g75
    have st2 : (tb_lI [1, 9] 73 (I3 70 11) (s, I3, J, R)).bind (fun x15 => (tb_tI 74 (nI (48 * t + 4 * ru.length + 1)) x15 (s, I3, J, R)).bind fun w16 => (tb_gN 22 5 70 w16).bind fun p17 => (tb_tI p17 (nI (48 * t + 4 * ru.length + 2)) (-1) w16).bind fun w18 => (tb_on 22 70 w18 (fb_m_takesWord 70 26982 w18)).bind fun x19 => (if x19.1 = 0 then fj_m_isKeepHere_j67 70 (nI (48 * t + 4 * ru.length)) x19.2 else (tb_gN 22 5 70 x19.2).bind fun p29 => (tb_gN 22 4 70 x19.2).bind fun p30 => (tb_gI 22 11 70 x19.2).bind fun x31 => (tb_lI [1, 9] p30 x31 x19.2).bind fun x32 => (tb_tI p29 (nI (48 * t + 4 * ru.length + 2)) x32 x19.2).bind fun w33 => (tb_on 22 70 w33 (fb_m_tested 70 w33)).bind fun x34 => (if x34.1 = 0 then some (0, x34.2) else fj_m_isKeepHere_j67 70 (nI (48 * t + 4 * ru.length)) x34.2))) = if ¬ pu_hk rs = 35 then fj_m_isKeepHere_j67 70 (nI (48 * t + 4 * ru.length)) (s, I5, J, R) else (fb_m_passWord 70 (s, I5, J, R)).bind fun x2 => (tb_gN 22 5 70 x2).bind fun p29 => (tb_gN 22 4 70 x2).bind fun p30 => (tb_gI 22 11 70 x2).bind fun x31 => (tb_lI [1, 9] p30 x31 x2).bind fun x32 => (tb_tI p29 (nI (48 * t + 4 * ru.length + 2)) x32 x2).bind fun w33 => (tb_on 22 70 w33 (fb_m_tested 70 w33)).bind fun x34 => (if x34.1 = 0 then some (0, x34.2) else fj_m_isKeepHere_j67 70 (nI (48 * t + 4 * ru.length)) x34.2) := by
      unfold fb_m_takesWord
      simp only [k11, pu_lI (pu_m73 hM) (show t < 7 by omega) (show 7 ≤ 100000 by omega), k73, Option.bind_some, pu_tI (pu_m74 hM) (show 48 * t + 4 * ru.length + 1 < 288 by omega) (show 288 ≤ 100000 by omega), pu_gN (pu_m70 hM), pu_r5 hM, pu_tI (pu_m74 hM) (show 48 * t + 4 * ru.length + 2 < 288 by omega) (show 288 ≤ 100000 by omega), ← hI4, pu_on (pu_m70 hM), c1, pu_b0, decide_eq_false_iff_not]
      by_cases x : pu_hk rs = 35
      · rw [if_neg (fun y => y x), if_neg (fun y => y x)]
        cases fb_m_passWord 70 (s, I5, J, R) <;> rfl
      · rw [if_pos x, if_pos x]; rfl
    rw [st2]
    by_cases h35 : pu_hk rs = 35
    · rw [if_neg (fun y => y h35), if_pos h35]
      obtain ⟨I6, f1, f2, f3⟩ := pz_pass (J := J) (e := 399) hM c3 c4 er5 (by omega)
      obtain ⟨o1, o11, o73, ocd, o12, o60, o7⟩ := f3.1 rfl
      have o73 : I6 73 t = nI (pz_ln ru + cs.length) := o73
      have o7 : pz_ln ru + cs.length + rs.tail.length ≤ 399 := o7
      obtain ⟨I7, hI7⟩ : ∃ I7, I7 = tb_up2 I6 74 (48 * t + 4 * ru.length + 2) (nI (pz_ln ru + cs.length)) := ⟨_, rfl⟩
      have q7 : ∀ q, q ≠ 74 → I7 q = I6 q := fun q hq => by rw [hI7, pu_u2p _ _ _ _ hq]
      have v7 : pz_Mv t I I7 := by rw [hI7]; exact (v5.tr (pz_Mv.nf f2)).tr (pz_Mv.u74 (by omega))
      have m7' : pz_MZ I7 b tl t (pz_ln ru) 399 (cs, ns, rs.tail, 0) := f3.eq (q7 71 (by decide)) (q7 72 (by decide)) (q7 73 (by decide)) (fun k _ => by rw [q7 70 (by decide)])
      obtain ⟨w1, w11, w73, wcd, w12, w60, w7⟩ := m7'.1 rfl
      have m7 : pz_MZ I7 b tl t (pz_ln ru + cs.length) 400 ([], ns, rs.tail, 0) := ⟨fun _ => ⟨w1, w11, w73, trivial, w12, w60, by show pz_ln ru + cs.length + 0 + rs.tail.length ≤ 400; omega⟩, fun x => absurd rfl x⟩
      obtain ⟨I8, t1, t2, t3⟩ := pz_m_tested (J := J) hM ht (Nat.le_refl 400) m7
      have v8 : pz_Mv t I I8 := v7.tr (pz_Mv.my t3)
      have y14 : I8 70 14 = I 70 14 := by rw [t3.2.1 14 (by decide) (by decide) (by decide) (by decide) (by decide) (by decide), q7 70 (by decide), f2.2 14 (by decide)]; exact x14
      have tnil : (pz_te (pz_fa 16 0) ([], ns, rs.tail, 0)).2.2.2 ≠ 0 → (pz_te (pz_fa 16 0) ([], ns, rs.tail, 0)).2.2.1 = [] := by
        obtain ⟨_, _, q, _, _, eq⟩ := w1
        exact pz_te_f (q := q) eq (by omega)
      have st3 : ((fb_m_passWord 70 (s, I5, J, R)).bind fun x2 => (tb_gN 22 5 70 x2).bind fun p29 => (tb_gN 22 4 70 x2).bind fun p30 => (tb_gI 22 11 70 x2).bind fun x31 => (tb_lI [1, 9] p30 x31 x2).bind fun x32 => (tb_tI p29 (nI (48 * t + 4 * ru.length + 2)) x32 x2).bind fun w33 => (tb_on 22 70 w33 (fb_m_tested 70 w33)).bind fun x34 => (if x34.1 = 0 then some (0, x34.2) else fj_m_isKeepHere_j67 70 (nI (48 * t + 4 * ru.length)) x34.2)) = if ¬ (pz_te (pz_fa 16 0) ([], ns, rs.tail, 0)).2.2.2 = 0 then some (0, (s, I8, J, R)) else fj_m_isKeepHere_j67 70 (nI (48 * t + 4 * ru.length)) (s, I8, J, R) := by
        simp only [f1, Option.bind_some, pu_gN (pu_m70 hM), pu_r5 hM, pu_r4 hM, pu_gI (pu_m70 hM), o11, pu_lI (pu_m73 hM) (show t < 7 by omega) (show 7 ≤ 100000 by omega), o73, pu_tI (pu_m74 hM) (show 48 * t + 4 * ru.length + 2 < 288 by omega) (show 288 ≤ 100000 by omega), ← hI7, pu_on (pu_m70 hM), t1, pu_b0, decide_eq_false_iff_not]
      rw [st3]
      generalize pz_te (pz_fa 16 0) ([], ns, rs.tail, 0) = zt at *
      by_cases y0 : zt.2.2.2 = 0
      · obtain ⟨ct, nt, rt, ft⟩ := zt
        have y0 : ft = 0 := y0
        subst y0
        rw [if_neg (fun y => y rfl)]
        obtain ⟨r1, r11, r73, rcd, r12, r60, r7⟩ := t2.1 rfl
        have r73 : I8 73 t = nI (pz_ln ru + cs.length + ct.length) := r73
        have rcd : pu_cd (I8 72) (400 * t + (pz_ln ru + cs.length)) ct := rcd
        have r7 : pz_ln ru + cs.length + ct.length + rt.length ≤ 400 := r7
        have r75 : I8 75 t = nI ru.length := by rw [t3.1 75 (by decide) (by decide) (by decide) (by decide), q7 75 (by decide), f2.1 75 (by decide)]; exact l75
        have s74 : I8 74 = I7 74 := t3.1 74 (by decide) (by decide) (by decide) (by decide)
        have j67 := pz_m_j67 (J := J) hM ht hi r11 r73 r75 rfl
        have g72 : ∀ k, k < 400 * t + (pz_ln ru + cs.length) → I8 72 k = I3 72 k := fun k hk => by rw [t3.2.2 k hk, q7 72 (by decide), f2.1 72 (by decide), n72]
        have s74k : ∀ k, k ≠ 48 * t + 4 * ru.length + 2 → I8 74 k = I5 74 k := fun k hk => by rw [s74, hI7, pu_u2k _ _ _ _ hk, f2.1 74 (by decide)]
        refine ⟨_, j67, pz_MK.add (cl := (cs, some ct)) (n0 := 0) ht hrn (fun k hk => by rw [g72 k (by omega), f72 k hk]) (fun k hk => by rw [s74k k (by omega), f74 k hk]) rfl r1 r11 r73 (by show _ = pz_ln ru + (cs.length + ct.length + 0); omega) r12 r60 (by show _ + rt.length ≤ 401; omega) ?_, (v8.tr (pz_Mv.u74 (by omega))).tr pz_Mv.u75, ?_⟩
        · refine ⟨⟨?_, ?_, ?_, ?_, ?_, ?_⟩, trivial⟩
          · rw [pu_u2p _ _ _ _ (by decide), pu_u2k _ _ _ _ (by omega), s74k _ (by omega)]; exact d0
          · rw [pu_u2p _ _ _ _ (by decide), pu_u2k _ _ _ _ (by omega), s74k _ (by omega)]; exact d1
          · rw [pu_u2p _ _ _ _ (by decide), pu_u2k _ _ _ _ (by omega), s74, hI7, pu_u2s]
          · rw [pu_u2p _ _ _ _ (by decide), pu_u2s]
          · rw [pu_u2p _ _ _ _ (by decide), pu_u2p _ _ _ _ (by decide)]
            exact pu_cd_eq _ _ (fun k _ k2 => g72 k (by omega)) kcd
          · rw [pu_u2p _ _ _ _ (by decide), pu_u2p _ _ _ _ (by decide)]
            exact rcd
        · rw [pu_u2p _ _ _ _ (by decide), pu_u2p _ _ _ _ (by decide)]; exact y14
      · rw [if_pos y0, decide_eq_false y0]
        exact ⟨I8, rfl, ⟨fun x => absurd x y0, fun _ => ⟨t2.2 y0, tnil y0⟩⟩, v8, y14⟩
    · rw [if_pos h35, if_neg h35]
      have j67 := pz_m_j67 (J := J) hM ht hi l11 l73 l75 rfl
      refine ⟨_, j67, pz_MK.add (cl := (cs, none)) (n0 := 0) ht hrn (fun k hk => by rw [n72, f72 k hk]) f74 rfl l1 l11 l73 (by show _ = pz_ln ru + (cs.length + 0); omega) l12 k60 (by show _ + rs.length ≤ 401; omega) ?_, (v5.tr (pz_Mv.u74 (by omega))).tr pz_Mv.u75, ?_⟩
      · refine ⟨⟨?_, ?_, ?_, ?_⟩, trivial⟩
        · rw [pu_u2p _ _ _ _ (by decide), pu_u2k _ _ _ _ (by omega)]; exact d0
        · rw [pu_u2p _ _ _ _ (by decide), pu_u2k _ _ _ _ (by omega)]; exact d1
        · rw [pu_u2p _ _ _ _ (by decide), pu_u2k _ _ _ _ (by omega)]; exact d2
        · rw [pu_u2p _ _ _ _ (by decide), pu_u2p _ _ _ _ (by decide), n72]; exact kcd
      · rw [pu_u2p _ _ _ _ (by decide), pu_u2p _ _ _ _ (by decide)]; exact x14
  · have hr := hnil z0
    rw [if_pos z0, if_neg (by rw [hr]; decide), decide_eq_false z0]
    exact ⟨I3, rfl, ⟨fun x => absurd x z0, fun _ => ⟨b2.2 z0, hr⟩⟩, v3, e14 I3 b3⟩
end PVE1
