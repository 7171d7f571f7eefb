/-! ===== The reference reads a test, whole ===== -/
section PVC1
variable {s : List (Nat × Nat)} {R : Nat → Nat → Option Nat} {b : Nat → Nat} {tl t B e : Nat}
theorem pz_tested_s (hM : pu_M s R) (n : Nat) (I : Nat → Nat → Int32) (J : Nat → Nat → Int64) : fl_m_tested_8 (n + 1) 70 1 (s, I, J, R) = (fl_m_fact_2 1048576 70 1 (s, I, J, R)).bind (pz_qf n) := by
  rw [fl_m_tested_8.eq_2, if_neg (by decide), pu_on (pu_m70 hM)]
  unfold fb_m_fact
  rw [pz_bs]
  rfl
/-- a fact is opened -/
theorem pz_m_open (hM : pu_M s R) (he : e ≤ 400) {d : Nat} {st : List Nat} {n nT : Nat} {I : Nat → Nat → Int32} {J : Nat → Nat → Int64} {c : List (Nat × Nat)} {m : Nat} {r : List (Nat × Nat × Nat)} {o : pz_Z} {x : Nat} (hx : (x = 11 ∧ pu_hk r = 38) ∨ (x = 91 ∧ pu_hk r = 5))
    (ihA : ∀ (st : List Nat) (nF nT : Nat) (I : Nat → Nat → Int32) (J : Nat → Nat → Int64) (c : List (Nat × Nat)) (m : Nat) (r : List (Nat × Nat × Nat)) (o : pz_Z), pz_MW I b tl t B e st (c, m, r, 0) → pz_pm d false st (c, m, r, 0) = some o → r.length < nF → r.length < nT → pz_Rz s R b tl t B e I J (((fl_m_fact_2 nF 70 1 (s, I, J, R)).bind (pz_qf nT)).bind pz_fin) o)
    (h : pz_MW I b tl t B e st (c, m, r, 0)) (hp : (if 10 ≤ pz_cn st then some (pz_nm (pz_fz (c, m, r, 0) 2)) else pz_pm d false (x :: st) (c, m, r.tail, 0)) = some o) (h1 : r.length < n + 1) (h2 : r.length < nT) : pz_Rz s R b tl t B e I J (((fl_m_fact_2 (n + 1) 70 1 (s, I, J, R)).bind (pz_qf nT)).bind pz_fin) o := by
  obtain ⟨⟨e', le, mz⟩, h16, h13, h10, hk⟩ := h
  have rne := pz_ne mz
  have g7 : B + c.length + r.length ≤ e' := (mz.1 rfl).2.2.2.2.2.2
  obtain ⟨I1, p, a1, a2, a3, a4, er⟩ := pz_see (J := J) hM mz
  have w := pz_isw0 (J := J) hM a4 (k := 18) (by omega) pz_W18
  rw [← er] at w
  have b91 : (pz_by b tl p = 91) = (pu_hk r = 5) := er ▸ pz_by_sg a4 (fun c => (pz_sgc c).2.2.2.2.2.1) (by omega) (by omega) (show 91 < 256 by omega) rfl
  have f16 : I1 70 16 = nI st.length := by rw [a2.2 16 (by decide)]; exact h16
  have f13 : I1 70 13 = nI (pz_cn st) := by rw [a2.2 13 (by decide)]; exact h13
  have f77 : pz_skS (I1 77) st := by rw [a2.1 77 (by decide)]; exact hk
  have h9 : I1 70 9 = 0 := (a3.1 rfl).1.2.1
  have op := pz_m_opens (J := J) (x := x) (v := nI x) hM f13 h10 f16 (by omega) h9 a4.2.2.2 rfl
  have tle := pz_hk_len (r := r) (by omega)
  have y1 : pz_My t B I I1 := pz_My.nf a2
  have start : fl_m_fact_2 (n + 1) 70 1 (s, I, J, R) = (fb_m_opens 70 (nI x) (s, I1, J, R)).bind (fun x8 => if x8.1 = 0 then some (0, x8.2) else if x = 11 then (tb_on 22 70 x8.2 (fb_m_passWord 70 x8.2)).bind (fun x9 => fl_m_fact_2 n 70 1 x9) else (tb_gI 22 8 70 x8.2).bind fun x6 => (tb_pI 22 8 70 (x6 + 1) x8.2).bind fun w7 => fl_m_fact_2 n 70 1 w7) := by
    rw [fl_m_fact_2.eq_2, if_neg (by decide)]
    simp only [pu_on (pu_m70 hM), a1, Option.bind_some, w, pu_b0, decide_eq_false_iff_not, b91]
    rcases hx with ⟨x1, x2⟩ | ⟨x1, x2⟩
    · subst x1
      rw [if_neg (fun y => y x2)]
      rfl
    · subst x1
      rw [if_pos (show ¬ pu_hk r = 20 + 18 by omega), if_pos x2]
      rfl
  rw [start, op]
  by_cases hc : 10 ≤ pz_cn st
  · rw [if_pos hc] at hp
    have ho := (Option.some.inj hp).symm
    have ef : o.2.2.2 = 1 + 8 * p + 2 := by
      rw [ho, pz_nm_r]
      exact pz_ft r a4 er 2
    refine ⟨tb_up2 I1 70 9 (nI (1 + 8 * p + 2)), ?_, ⟨fun y => by omega, fun _ => by rw [ef]; exact pu_u2s _ _ _ _⟩, y1.tr (pz_My.u (by omega))⟩
    rw [if_neg (show ¬ pz_cn st < 10 by omega), ef, decide_eq_false (by omega)]
    rfl
  · rw [if_neg hc] at hp
    rw [if_pos (show pz_cn st < 10 by omega)]
    obtain ⟨I3, hI3⟩ : ∃ I3, I3 = tb_up2 (tb_up2 (tb_up2 I1 70 13 (nI (pz_cn st + 1))) 77 st.length (nI x)) 70 16 (nI (st.length + 1)) := ⟨_, rfl⟩
    have y3 : pz_My t B I I3 := by rw [hI3]; exact ((y1.tr (pz_My.u (by omega))).tr pz_My.u77).tr (pz_My.u (by omega))
    have e70 : ∀ k, k ≠ 13 → k ≠ 16 → I3 70 k = I1 70 k := fun k k1 k2 => by rw [hI3, pu_u2k _ _ _ _ k2, pu_u2p _ _ _ _ (by decide), pu_u2k _ _ _ _ k1]
    have eq : ∀ q, q ≠ 70 → q ≠ 77 → I3 q = I1 q := fun q q1 q2 => by rw [hI3, pu_u2p _ _ _ _ q1, pu_u2p _ _ _ _ q2, pu_u2p _ _ _ _ q1]
    obtain ⟨e', rfl⟩ : ∃ x, e' = x + 1 := ⟨e' - 1, by omega⟩
    have m3 : pz_MZ I3 b tl t B (e' + 1) (c, m, r, 0) := a3.eq (eq 71 (by decide) (by decide)) (eq 72 (by decide) (by decide)) (eq 73 (by decide) (by decide)) (fun k hk => e70 k (by omega) (by omega))
    have at3 : pz_At I3 b tl p := ⟨⟨by rw [e70 1 (by decide) (by decide)]; exact a4.1.1, a4.1.2.1, fun k hk => by rw [eq 71 (by decide) (by decide)]; exact a4.1.2.2 k hk⟩, a4.2.1, a4.2.2.1, by rw [e70 8 (by decide) (by decide)]; exact a4.2.2.2⟩
    obtain ⟨I4, c1, c2, c3⟩ : ∃ I4, (if x = 11 then (tb_on 22 70 (s, I3, J, R) (fb_m_passWord 70 (s, I3, J, R))).bind (fun x9 => fl_m_fact_2 n 70 1 x9) else (tb_gI 22 8 70 (s, I3, J, R)).bind fun x6 => (tb_pI 22 8 70 (x6 + 1) (s, I3, J, R)).bind fun w7 => fl_m_fact_2 n 70 1 w7) = fl_m_fact_2 n 70 1 (s, I4, J, R) ∧ pu_Nf I3 I4 ∧ pz_MZ I4 b tl t B e' (c, m, r.tail, 0) := by
      rcases hx with ⟨x1, x2⟩ | ⟨x1, x2⟩
      · obtain ⟨I4, d1, d2, d3⟩ := pz_pass (J := J) hM m3 at3 er (by omega)
        refine ⟨I4, ?_, d2, d3⟩
        rw [if_pos x1, pu_on (pu_m70 hM), d1, Option.bind_some]
      · obtain ⟨d1, _, _⟩ := pz_adv1 m3 at3 er x2 (by omega) (by omega)
        refine ⟨_, ?_, pu_Nf.u, d1⟩
        rw [if_neg (by omega)]
        simp only [pu_gI (pu_m70 hM), at3.2.2.2, Option.bind_some, pu_R1, pu_pI (pu_m70 hM)]
    have mw : pz_MW I4 b tl t B e (x :: st) (c, m, r.tail, 0) := pz_MW.push (I := I1) (c := c) (m := m) (r := r) (e' := e') (by omega) f13 (by omega) f77 (hI3 ▸ c2) c3 (by omega)
    refine pz_Rz.tr (y3.tr (pz_My.nf c2)) ?_
    have go := ihA (x :: st) n nT I4 J c m r.tail o mw hp (by omega) (by omega)
    rw [Option.bind_some]
    dsimp only
    rw [if_neg (show ¬ ((1 : Int32) = 0) by decide), ← hI3, c1]
    exact go
/-- and, or -/
theorem pz_m_join (hM : pu_M s R) (ht : t < 6) (he : e ≤ 400) {d : Nat} {st : List Nat} {nT : Nat} {I : Nat → Nat → Int32} {J : Nat → Nat → Int64} {c : List (Nat × Nat)} {m : Nat} {r : List (Nat × Nat × Nat)} {o : pz_Z} {x k p : Nat} (hx : (x = 12 ∧ k = 2 ∧ pu_hk r = 37) ∨ (x = 13 ∧ k = 1 ∧ pu_hk r = 36))
    (ihA : ∀ (st : List Nat) (nF nT : Nat) (I : Nat → Nat → Int32) (J : Nat → Nat → Int64) (c : List (Nat × Nat)) (m : Nat) (r : List (Nat × Nat × Nat)) (o : pz_Z), pz_MW I b tl t B e st (c, m, r, 0) → pz_pm d false st (c, m, r, 0) = some o → r.length < nF → r.length < nT → pz_Rz s R b tl t B e I J (((fl_m_fact_2 nF 70 1 (s, I, J, R)).bind (pz_qf nT)).bind pz_fin) o)
    (h : pz_MW I b tl t B e st (c, m, r, 0)) (a4 : pz_At I b tl p) (er : r = pu_tt b tl p) (hp : pz_pm d false (x :: (pz_ld k st (c, m, r.tail, 0)).1) (pz_ld k st (c, m, r.tail, 0)).2 = some o) (h2 : r.length < nT) : pz_Rz s R b tl t B e I J ((fj_m_tested_j38 (fl_m_tested_8 nT) 70 1 (nI x) (s, I, J, R)).bind pz_fin) o := by
  obtain ⟨⟨e', le, mz⟩, h16, h13, h10, hk⟩ := h
  have rne := pz_ne mz
  have g7 : B + c.length + r.length ≤ e' := (mz.1 rfl).2.2.2.2.2.2
  have tle := pz_hk_len (r := r) (by omega)
  obtain ⟨e', rfl⟩ : ∃ x, e' = x + 1 := ⟨e' - 1, by omega⟩
  obtain ⟨e, rfl⟩ : ∃ x, e = x + 1 := ⟨e - 1, by omega⟩
  obtain ⟨I2, d1, d2, d3⟩ := pz_pass (J := J) hM mz a4 er (by omega)
  have mw2 : pz_MW I2 b tl t B e st (c, m, r.tail, 0) := ⟨⟨e', by omega, d3⟩, by rw [d2.2 16 (by decide)]; exact h16, by rw [d2.2 13 (by decide)]; exact h13, h10, by rw [d2.1 77 (by decide)]; exact hk⟩
  obtain ⟨I3, f1, f2, f3, _⟩ := pz_m_lay (J := J) (k := k) hM ht (by omega) (by omega) (by omega) mw2
  have hr := pz_ld_r k st (c, m, r.tail, 0)
  generalize pz_ld k st (c, m, r.tail, 0) = q at *
  obtain ⟨st', c', m', r', f'⟩ := q
  have hr : (m', r', f') = (m, r.tail, 0) := hr
  cases hr
  obtain ⟨⟨e3, le3, mz3⟩, k16, k13, k10, kk⟩ := f2
  have le3 : e3 + st'.length ≤ e := le3
  have k16 : I3 70 16 = nI st'.length := k16
  obtain ⟨nT, rfl⟩ : ∃ x, nT = x + 1 := ⟨nT - 1, by omega⟩
  obtain ⟨I4, hI4⟩ : ∃ I4, I4 = tb_up2 (tb_up2 I3 77 st'.length (nI x)) 70 16 (nI (st'.length + 1)) := ⟨_, rfl⟩
  have u16 : tb_up2 I3 77 st'.length (nI x) 70 16 = nI st'.length := by rw [pu_u2p _ _ _ _ (by decide)]; exact k16
  have es : pz_sth x = k := by rcases hx with ⟨x1, x2, _⟩ | ⟨x1, x2, _⟩ <;> rw [x1, x2] <;> rfl
  have st38 : fj_m_tested_j38 (fl_m_tested_8 (nT + 1)) 70 1 (nI x) (s, I, J, R) = fl_m_tested_8 (nT + 1) 70 1 (s, I4, J, R) := by
    unfold fj_m_tested_j38
    simp only [pu_on (pu_m70 hM), d1, Option.bind_some, pz_strength (show x < 100 by omega), es, f1, pu_gN (pu_m70 hM), pu_r15 hM, pu_gI (pu_m70 hM), k16, pu_tI (pu_m77 hM) (show st'.length < 400 by omega) (show 400 ≤ 100000 by omega), u16, pu_R1, pu_pI (pu_m70 hM)]
    rw [hI4]
  rw [st38, pz_tested_s hM]
  have mw4 : pz_MW I4 b tl t B (e + 1) (x :: st') (c', m, r.tail, 0) := by
    refine ⟨⟨e3, by rw [List.length_cons]; omega, mz3.eq ?_ ?_ ?_ (fun j hj => ?_)⟩, ?_, ?_, ?_, ?_, by omega, ?_⟩
    · rw [hI4, pu_u2p _ _ _ _ (by decide), pu_u2p _ _ _ _ (by decide)]
    · rw [hI4, pu_u2p _ _ _ _ (by decide), pu_u2p _ _ _ _ (by decide)]
    · rw [hI4, pu_u2p _ _ _ _ (by decide), pu_u2p _ _ _ _ (by decide)]
    · rw [hI4, pu_u2k _ _ _ _ (by omega), pu_u2p _ _ _ _ (by decide)]
    · rw [hI4, pu_u2s]; rfl
    · rw [hI4, pu_u2k _ _ _ _ (by decide), pu_u2p _ _ _ _ (by decide), k13]
      show nI (pz_cn st') = nI (pz_cn st' + (if x = 11 ∨ x = 91 then 1 else 0))
      rw [if_neg (by omega)]; rfl
    · show pz_cn st' + (if x = 11 ∨ x = 91 then 1 else 0) ≤ 10
      rw [if_neg (by omega)]; exact k10
    · rw [hI4, pu_u2p _ _ _ _ (by decide), pu_u2s]
    · rw [hI4, pu_u2p _ _ _ _ (by decide)]
      exact pz_skS_eq st' (fun k hk => pu_u2k _ _ _ _ (by omega)) kk
  have y4 : pz_My t B I I4 := by rw [hI4]; exact (((pz_My.nf d2).tr f3).tr pz_My.u77).tr (pz_My.u (by omega))
  exact pz_Rz.tr y4 (ihA (x :: st') 1048576 nT I4 J c' m r.tail o mw4 hp (by omega) (by omega))
theorem pz_m_tm (hM : pu_M s R) (ht : t < 6) (he : e ≤ 400) : ∀ d,
    (∀ (st : List Nat) (nF nT : Nat) (I : Nat → Nat → Int32) (J : Nat → Nat → Int64) (c : List (Nat × Nat)) (m : Nat) (r : List (Nat × Nat × Nat)) (o : pz_Z), pz_MW I b tl t B e st (c, m, r, 0) → pz_pm d false st (c, m, r, 0) = some o → r.length < nF → r.length < nT → pz_Rz s R b tl t B e I J (((fl_m_fact_2 nF 70 1 (s, I, J, R)).bind (pz_qf nT)).bind pz_fin) o) ∧
    (∀ (st : List Nat) (nC nT : Nat) (I : Nat → Nat → Int32) (J : Nat → Nat → Int64) (c : List (Nat × Nat)) (m : Nat) (r : List (Nat × Nat × Nat)) (o : pz_Z), pz_MW I b tl t B e st (c, m, r, 0) → pz_pm d true st (c, m, r, 0) = some o → r.length < nC → r.length < nT → pz_Rz s R b tl t B e I J (((fl_m_closes_3 nC 70 (s, I, J, R)).bind (pz_qc nT)).bind pz_fin) o) := by
  intro d
  induction d with
  | zero => exact ⟨fun _ _ _ _ _ _ _ _ _ _ h => (by cases h), fun _ _ _ _ _ _ _ _ _ _ h => (by cases h)⟩
  | succ d ih =>
    obtain ⟨ihA, ihB⟩ := ih
    refine ⟨fun st nF nT I J c m r o h hp h1 h2 => ?_, fun st nC nT I J c m r o h hp h1 h2 => ?_⟩
    · obtain ⟨n, rfl⟩ : ∃ x, nF = x + 1 := ⟨nF - 1, by omega⟩
      rw [pz_pm_0] at hp
      by_cases h38 : pu_hk r = 38
      · rw [if_pos h38] at hp
        exact pz_m_open hM he (Or.inl ⟨rfl, h38⟩) ihA h hp h1 h2
      · rw [if_neg h38] at hp
        by_cases h5 : pu_hk r = 5
        · rw [if_pos h5] at hp
          exact pz_m_open hM he (Or.inr ⟨rfl, h5⟩) ihA h hp h1 h2
        · rw [if_neg h5] at hp
          obtain ⟨⟨e', le, mz⟩, h16, h13, h10, hk⟩ := h
          have rne := pz_ne mz
          obtain ⟨I1, p, a1, a2, a3, a4, er⟩ := pz_see (J := J) hM mz
          have w := pz_isw0 (J := J) hM a4 (k := 18) (by omega) pz_W18
          rw [← er] at w
          have b91 : (pz_by b tl p = 91) = (pu_hk r = 5) := er ▸ pz_by_sg a4 (fun c => (pz_sgc c).2.2.2.2.2.1) (by omega) (by omega) (show 91 < 256 by omega) rfl
          obtain ⟨I2, c1, c2, c3⟩ := pz_m_compare (J := J) hM ht (by omega) a3
          have y2 : pz_My t B I I2 := (pz_My.nf a2).tr (pz_My.mx c3)
          obtain ⟨n, rfl⟩ : ∃ x, n = x + 1 := ⟨n - 1, by omega⟩
          have start : fl_m_fact_2 (n + 1 + 1) 70 1 (s, I, J, R) = some (pu_b (decide ((pz_cm (c, m, r, 0)).2.2.2 = 0)), (s, I2, J, R)) := by
            rw [fl_m_fact_2.eq_2, if_neg (by decide)]
            simp only [pu_on (pu_m70 hM), a1, Option.bind_some, w, pu_b0, decide_eq_false_iff_not, b91, show ¬ pu_hk r = 20 + 18 by omega, not_false_eq_true, h5, ↓reduceIte]
            rw [fl_m_fact_2.eq_2, if_pos rfl]
            unfold fj_m_fact_j42
            simp only [pu_on (pu_m70 hM), c1, Option.bind_some, pu_tz]
          rw [start, Option.bind_some]
          have cl := pz_cm_len (c, m, r, 0)
          generalize pz_cm (c, m, r, 0) = y at *
          by_cases y0 : y.2.2.2 = 0
          · obtain ⟨c', m', r', f'⟩ := y
            have y0 : f' = 0 := y0
            subst y0
            have cl : r'.length ≤ r.length := cl
            have mw2 : pz_MW I2 b tl t B e st (c', m', r', 0) := ⟨⟨e', le, c2⟩, by rw [c3.2.1 16 (by decide) (by decide) (by decide) (by decide), a2.2 16 (by decide)]; exact h16, by rw [c3.2.1 13 (by decide) (by decide) (by decide) (by decide), a2.2 13 (by decide)]; exact h13, h10, by rw [c3.1 77 (by decide) (by decide) (by decide), a2.1 77 (by decide)]; exact hk⟩
            obtain ⟨I3, f1, f2, f3, _⟩ := pz_m_lay (J := J) (k := 3) hM ht he (by omega) (by omega) mw2
            rw [show nI 3 = 3 from rfl] at f1
            have hr := pz_ld_r 3 st (c', m', r', 0)
            generalize pz_ld 3 st (c', m', r', 0) = q at *
            obtain ⟨st', c4, m4, r4, f4⟩ := q
            have hr : (m4, r4, f4) = (m', r', 0) := hr
            cases hr
            have go := ihB st' 1048576 nT I3 J c4 m' r' o f2 hp (by have g7 : B + c'.length + r'.length ≤ e' := (c2.1 rfl).2.2.2.2.2.2; omega) (by omega)
            refine pz_Rz.tr (y2.tr f3) ?_
            have eq : pz_qf nT (pu_b (decide (((c', m', r', 0) : pz_Z).2.2.2 = 0)), (s, I2, J, R)) = (fl_m_closes_3 1048576 70 (s, I3, J, R)).bind (pz_qc nT) := by
              unfold pz_qf fb_m_closes
              dsimp only
              rw [if_neg (by rw [decide_eq_true rfl]; decide), pu_on (pu_m70 hM), pu_on (pu_m70 hM), f1, Option.bind_some, pz_bs]
            rw [eq]
            exact go
          · have e2 := pz_ld_f 3 st y0
            rw [e2] at hp
            have ho := pz_Ev.fo y0 ⟨d, hp⟩
            refine ⟨I2, ?_, ?_, y2⟩
            · rw [ho, pz_nm_r, decide_eq_false y0]
              rfl
            · rw [ho]
              exact (c2.up (by omega)).nm
    · obtain ⟨n, rfl⟩ : ∃ x, nC = x + 1 := ⟨nC - 1, by omega⟩
      rw [pz_pm_1] at hp
      obtain ⟨⟨e', le, mz⟩, h16, h13, h10, hk⟩ := h
      have rne := pz_ne mz
      have g7 : B + c.length + r.length ≤ e' := (mz.1 rfl).2.2.2.2.2.2
      obtain ⟨I1, p, a1, a2, a3, a4, er⟩ := pz_see (J := J) hM mz
      have b93 : (pz_by b tl p = 93) = (pu_hk r = 6) := er ▸ pz_by_sg a4 (fun c => (pz_sgc c).2.2.2.2.2.2.1) (by omega) (by omega) (show 93 < 256 by omega) rfl
      have f16 : I1 70 16 = nI st.length := by rw [a2.2 16 (by decide)]; exact h16
      have f13 : I1 70 13 = nI (pz_cn st) := by rw [a2.2 13 (by decide)]; exact h13
      have f77 : pz_skS (I1 77) st := by rw [a2.1 77 (by decide)]; exact hk
      have ins := pz_m_inside (J := J) hM (show st.length ≤ 400 by omega) f16 f77
      have mw1 : pz_MW I1 b tl t B e st (c, m, r, 0) := ⟨⟨e', le, a3⟩, f16, f13, h10, f77⟩
      have y1 : pz_My t B I I1 := pz_My.nf a2
      refine pz_Rz.tr y1 ?_
      by_cases h6 : pu_hk r = 6 ∧ pz_ins st = true
      · rw [if_pos h6] at hp
        obtain ⟨h6, hin⟩ := h6
        have tle := pz_hk_len (r := r) (by omega)
        obtain ⟨I2, f1, f2, f3, f4⟩ := pz_m_lay (J := J) (k := 1) hM ht he (by omega) (by omega) mw1
        rw [show nI 1 = 1 from rfl] at f1
        obtain ⟨st2, est⟩ := pz_ld_ins st (c, m, r, 0) f77 hin
        have hr := pz_ld_r 1 st (c, m, r, 0)
        have at2 := a4.eq f3 f4
        generalize pz_ld 1 st (c, m, r, 0) = q at *
        obtain ⟨st', c1, m1, r1, f1'⟩ := q
        have hr : (m1, r1, f1') = (m, r, 0) := hr
        cases hr
        have est : st' = 91 :: st2 := est
        subst est
        obtain ⟨⟨e2, le2, mz2⟩, k16, k13, k10, _, _, kk⟩ := f2
        have le2 : e2 + (st2.length + 1) ≤ e := le2
        have k16 : I2 70 16 = nI (st2.length + 1) := k16
        have k13 : I2 70 13 = nI (pz_cn st2 + 1) := k13
        have k10 : pz_cn st2 + 1 ≤ 10 := k10
        have u13 : tb_up2 I2 70 16 (nI st2.length) 70 13 = nI (pz_cn st2 + 1) := by rw [pu_u2k _ _ _ _ (by decide)]; exact k13
        obtain ⟨I4, hI4⟩ : ∃ I4, I4 = tb_up2 (tb_up2 I2 70 16 (nI st2.length)) 70 13 (nI (pz_cn st2)) := ⟨_, rfl⟩
        have y4 : pz_My t B I2 I4 := by rw [hI4]; exact (pz_My.u (by omega)).tr (pz_My.u (by omega))
        have e70 : ∀ k, k ≠ 13 → k ≠ 16 → I4 70 k = I2 70 k := fun k k1 k2 => by rw [hI4, pu_u2k _ _ _ _ k1, pu_u2k _ _ _ _ k2]
        have eq : ∀ q, q ≠ 70 → I4 q = I2 q := fun q q1 => by rw [hI4, pu_u2p _ _ _ _ q1, pu_u2p _ _ _ _ q1]
        have at4 := at2.eq y4 (e70 8 (by decide) (by decide))
        have g8 : B + c1.length + r.length ≤ e2 := (mz2.1 rfl).2.2.2.2.2.2
        obtain ⟨e2, rfl⟩ : ∃ x, e2 = x + 1 := ⟨e2 - 1, by omega⟩
        have mz4 : pz_MZ I4 b tl t B (e2 + 1) (c1, m, r, 0) := mz2.eq (eq 71 (by decide)) (eq 72 (by decide)) (eq 73 (by decide)) (fun k hk => e70 k (by omega) (by omega))
        obtain ⟨mz5, _, _⟩ := pz_adv1 mz4 at4 er h6 (by omega) (by omega)
        have mw5 : pz_MW (tb_up2 I4 70 8 (nI (p + 1))) b tl t B e st2 (c1, m, r.tail, 0) := by
          refine ⟨⟨e2, by omega, mz5⟩, ?_, ?_, by omega, ?_⟩
          · rw [pu_u2k _ _ _ _ (by decide), hI4, pu_u2k _ _ _ _ (by decide), pu_u2s]
          · rw [pu_u2k _ _ _ _ (by decide), hI4, pu_u2s]
          · rw [pu_u2p _ _ _ _ (by decide), eq 77 (by decide)]; exact kk
        obtain ⟨I6, l1, l2, l3, _⟩ := pz_m_lay (J := J) (k := 3) hM ht he (by omega) (by omega) mw5
        rw [show nI 3 = 3 from rfl] at l1
        have start : fl_m_closes_3 (n + 1) 70 (s, I, J, R) = fl_m_closes_3 n 70 (s, I6, J, R) := by
          rw [fl_m_closes_3.eq_2]
          have v8 : I4 70 8 = nI p := at4.2.2.2
          simp only [pu_on (pu_m70 hM), a1, Option.bind_some, b93, h6, ↓reduceIte, ins, hin, pu_bt, show ¬ ((1 : Int32) = 0) by decide, f1, pu_gI (pu_m70 hM), k16, nI_pred, pu_pI (pu_m70 hM), u13, ← hI4, v8, pu_R1, l1]
        rw [start]
        have hp : pz_pm d true (pz_ld 3 st2 (c1, m, r.tail, 0)).1 (pz_ld 3 st2 (c1, m, r.tail, 0)).2 = some o := hp
        have hr2 := pz_ld_r 3 st2 (c1, m, r.tail, 0)
        generalize pz_ld 3 st2 (c1, m, r.tail, 0) = q at *
        obtain ⟨st3, c3, m3, r3, f3'⟩ := q
        have hr2 : (m3, r3, f3') = (m, r.tail, 0) := hr2
        cases hr2
        exact pz_Rz.tr (((f3.tr y4).tr (pz_My.u (by omega))).tr l3) (ihB st3 n nT I6 J c3 m r.tail o l2 hp (by omega) (by omega))
      · rw [if_neg h6] at hp
        have start : fl_m_closes_3 (n + 1) 70 (s, I, J, R) = some (s, I1, J, R) := by
          rw [fl_m_closes_3.eq_2]
          simp only [pu_on (pu_m70 hM), a1, Option.bind_some, b93, ins, pu_b0]
          by_cases x6 : pu_hk r = 6
          · have : pz_ins st = false := by cases hi : pz_ins st; rfl; exact absurd ⟨x6, hi⟩ h6
            rw [if_pos x6, if_pos this]
          · rw [if_neg x6]
        rw [start, Option.bind_some]
        have wa := pz_isw0 (J := J) hM a4 (k := 17) (by omega) pz_W17
        have wo := pz_isw0 (J := J) hM a4 (k := 16) (by omega) pz_W16
        rw [← er] at wa wo
        by_cases h37 : pu_hk r = 37
        · rw [if_pos h37] at hp
          have eq : pz_qc nT (s, I1, J, R) = fj_m_tested_j38 (fl_m_tested_8 nT) 70 1 (nI 12) (s, I1, J, R) := by
            unfold pz_qc fj_m_tested_j28
            simp only [pu_on (pu_m70 hM), wa, Option.bind_some, pu_b0, decide_eq_false_iff_not, h37, not_true, ↓reduceIte, show ¬ ((1 : Int32) = 0) by decide]
            rfl
          rw [eq]
          exact pz_m_join hM ht he (Or.inl ⟨rfl, rfl, h37⟩) ihA mw1 a4 er hp h2
        · rw [if_neg h37] at hp
          by_cases h36 : pu_hk r = 36
          · rw [if_pos h36] at hp
            have eq : pz_qc nT (s, I1, J, R) = fj_m_tested_j38 (fl_m_tested_8 nT) 70 1 (nI 13) (s, I1, J, R) := by
              unfold pz_qc fj_m_tested_j28
              simp only [pu_on (pu_m70 hM), wa, wo, Option.bind_some, pu_b0, decide_eq_false_iff_not, show ¬ pu_hk r = 20 + 17 by omega, show pu_hk r = 20 + 16 by omega, not_true, not_false_eq_true, ↓reduceIte, show ¬ ((1 : Int32) = 0) by decide]
              rfl
            rw [eq]
            exact pz_m_join hM ht he (Or.inr ⟨rfl, rfl, h36⟩) ihA mw1 a4 er hp h2
          · rw [if_neg h36] at hp
            obtain ⟨nT, rfl⟩ : ∃ x, nT = x + 1 := ⟨nT - 1, by omega⟩
            have eq : pz_qc (nT + 1) (s, I1, J, R) = some (.inl (70, (s, I1, J, R))) := by
              unfold pz_qc fj_m_tested_j28
              simp only [pu_on (pu_m70 hM), wa, wo, Option.bind_some, pu_b0, decide_eq_false_iff_not, show ¬ pu_hk r = 20 + 17 by omega, show ¬ pu_hk r = 20 + 16 by omega, not_false_eq_true, ↓reduceIte]
              rw [fl_m_tested_8.eq_2, if_pos rfl]
            rw [eq, Option.bind_some]
            unfold pz_fin
            dsimp only
            simp only [pu_on (pu_m70 hM), ins, Option.bind_some, pu_b0]
            by_cases hin : pz_ins st = true
            · rw [if_pos hin] at hp
              have ho := (Option.some.inj hp).symm
              have h9 : I1 70 9 = 0 := (a3.1 rfl).1.2.1
              have hf := pu_m_fails (J := J) hM h9 0 p
              rw [show nI 0 = 0 from rfl] at hf
              have s0 := pz_see0 (J := J) hM a4
              have ef : o.2.2.2 = 1 + 8 * p + 0 := by
                rw [ho, pz_nm_r]
                exact pz_ft r a4 er 0
              refine ⟨tb_up2 I1 70 9 (nI (1 + 8 * p + 0)), ?_, ⟨fun y => by omega, fun _ => by rw [ef]; exact pu_u2s _ _ _ _⟩, pz_My.u (by omega)⟩
              rw [if_neg (by rw [hin]; decide), ef, decide_eq_false (by omega)]
              simp only [s0, Option.bind_some, pu_gI (pu_m70 hM), a4.2.2.2, hf, pu_on (pu_m70 hM)]
              rfl
            · have hin' : pz_ins st = false := by cases hi : pz_ins st; rfl; exact absurd hi hin
              rw [if_neg hin] at hp
              have ho := (Option.some.inj hp).symm
              obtain ⟨I2, f1, f2, f3, _⟩ := pz_m_lay (J := J) (k := 1) hM ht he (by omega) (by omega) mw1
              rw [show nI 1 = 1 from rfl] at f1
              have hr := pz_ld_r 1 st (c, m, r, 0)
              obtain ⟨⟨e3, le3, mz3⟩, _⟩ := f2
              have z0 : (pz_ld 1 st (c, m, r, 0)).2.2.2.2 = 0 := by rw [hr]
              refine ⟨I2, ?_, ?_, f3⟩
              · rw [if_pos hin', f1, Option.bind_some, ho, pz_nm_r, z0]
                rfl
              · rw [ho]
                exact (mz3.up (by omega)).nm
end PVC1
section PVC2
variable {s : List (Nat × Nat)} {R : Nat → Nat → Option Nat} {b : Nat → Nat} {tl t B e : Nat}
theorem pz_m_tested {I : Nat → Nat → Int32} {J : Nat → Nat → Int64} (hM : pu_M s R) (ht : t < 6) (he : e ≤ 400) {c : List (Nat × Nat)} {n : Nat} {r : List (Nat × Nat × Nat)} (h : pz_MZ I b tl t B e (c, n, r, 0)) :
    ∃ I', fb_m_tested 70 (s, I, J, R) = some (pu_b (decide ((pz_te (pz_fa 16 0) (c, n, r, 0)).2.2.2 = 0)), (s, I', J, R)) ∧ pz_MZ I' b tl t B e (pz_te (pz_fa 16 0) (c, n, r, 0)) ∧ pz_My t B I I' := by
  obtain ⟨⟨hb, h9, q, hq, e8, er⟩, g2, g3, g4, g5, g6, g7⟩ := h.1 rfl
  have er : r = pu_tt b tl q := er
  have g7 : B + c.length + r.length ≤ e := g7
  have G : pz_G (pu_tt b tl q) (c, n, r, 0) (c, n, r, 0) [] 400 := pz_G.rf (Or.inl ⟨rfl, by show r ≠ []; rw [er]; exact pu_tt_ne b tl q⟩) ⟨0, er.symm⟩ (by show r.length ≤ 400; omega)
  obtain ⟨d, hd⟩ := pz_Ev.te (pu_tt_en b tl q) (Nat.le_refl 400) G
  obtain ⟨I2, hI2⟩ : ∃ I2, I2 = tb_up2 (tb_up2 I 70 16 0) 70 13 0 := ⟨_, rfl⟩
  have y2 : pz_My t B I I2 := by rw [hI2]; exact (pz_My.u (by omega)).tr (pz_My.u (by omega))
  have mz2 : pz_MZ I2 b tl t B e (c, n, r, 0) := h.eq (by rw [hI2, pu_u2p _ _ _ _ (by decide), pu_u2p _ _ _ _ (by decide)]) (by rw [hI2, pu_u2p _ _ _ _ (by decide), pu_u2p _ _ _ _ (by decide)]) (by rw [hI2, pu_u2p _ _ _ _ (by decide), pu_u2p _ _ _ _ (by decide)]) (fun k hk => by rw [hI2, pu_u2k _ _ _ _ (by omega), pu_u2k _ _ _ _ (by omega)])
  have mw : pz_MW I2 b tl t B e [] (c, n, r, 0) := ⟨⟨e, Nat.le_refl _, mz2⟩, by rw [hI2, pu_u2k _ _ _ _ (by decide), pu_u2s]; rfl, by rw [hI2, pu_u2s]; rfl, by show 0 ≤ 10; omega, trivial⟩
  obtain ⟨n1, hn1⟩ : ∃ x, (1048576 : Nat) = x + 1 := ⟨1048575, rfl⟩
  obtain ⟨I', a1, a2, a3⟩ := (pz_m_tm hM ht he d).1 [] 1048576 n1 I2 J c n r _ mw hd (by omega) (by omega)
  rw [pz_nm_r] at a1
  refine ⟨I', ?_, ?_, y2.tr a3⟩
  · rw [← a1]
    have e1 : fl_m_tested_8 1048576 70 1 (s, I2, J, R) = (fl_m_fact_2 1048576 70 1 (s, I2, J, R)).bind (pz_qf n1) := by
      have := pz_tested_s hM n1 I2 J
      rw [← hn1] at this
      exact this
    unfold fb_m_tested
    simp only [pu_pI (pu_m70 hM), Option.bind_some, ← hI2]
    rw [e1]
    rfl
  · generalize pz_te (pz_fa 16 0) (c, n, r, 0) = y at *
    by_cases y0 : y.2.2.2 = 0
    · unfold pz_nm at a2
      rw [if_pos y0] at a2
      exact a2
    · have := a2.2 (by rw [pz_nm_r]; exact y0)
      rw [pz_nm_r] at this
      exact ⟨fun x => absurd x y0, fun _ => this⟩
end PVC2
