/-! ===== The reference reads sums ===== -/
def pz_sx (d : Nat) (y : pz_Z) : pz_Z := if pu_hk y.2.2.1 = 7 then pz_sl d 2 (pz_ad y) else if pu_hk y.2.2.1 = 8 then pz_sl d 3 (pz_ad y) else y
theorem pz_sx_sl (d a : Nat) (z : pz_Z) : pz_sl (d + 1) a z = pz_sx d (pz_ea (pz_tl 400 (pz_vl z)) a) := rfl
theorem pz_sx_nil (d : Nat) (z : pz_Z) (h : z.2.2.1 = []) : pz_sx d z = z := by
  unfold pz_sx
  rw [h, if_neg (by decide), if_neg (by decide)]
/-- a fault leaves nothing to read -/
theorem pz_tl_f : ∀ d (z : pz_Z), (z.2.2.2 ≠ 0 → z.2.2.1 = []) → (pz_tl d z).2.2.2 ≠ 0 → (pz_tl d z).2.2.1 = [] := by
  intro d
  induction d with
  | zero => intro z h h2; exact h h2
  | succ d ih =>
    intro z h
    show (if _ then _ else _ : pz_Z).2.2.2 ≠ 0 → (if _ then _ else _ : pz_Z).2.2.1 = []
    by_cases hj : 9 ≤ pu_hk z.2.2.1 ∧ pu_hk z.2.2.1 ≤ 11
    · rw [if_pos hj]
      refine ih _ (fun hx => ?_)
      rw [pz_em_r] at hx ⊢
      have h0 : z.2.2.2 = 0 := Classical.byContradiction fun y => by rw [h y] at hj; exact absurd hj.1 (by decide)
      exact pz_vl_f (pz_ad z) h0 hx
    · rw [if_neg hj]; exact h
theorem pz_ea_r (z : pz_Z) (a : Nat) : (pz_ea z a).2 = z.2 := by unfold pz_ea; split; rfl; exact pz_em_r _ _ _
theorem pz_su_sx (z : pz_Z) : pz_su z = pz_sx 399 (pz_tl 400 (pz_vl z)) := by
  have h := pz_sx_sl 399 0 z
  have e : pz_ea (pz_tl 400 (pz_vl z)) 0 = pz_tl 400 (pz_vl z) := by unfold pz_ea; rw [if_pos rfl]
  rw [e] at h
  unfold pz_su
  exact h
section PUX9
variable {s : List (Nat × Nat)} {R : Nat → Nat → Option Nat} {b : Nat → Nat} {tl t B e : Nat}
theorem pz_m_sum_l (hM : pu_M s R) (ht : t < 6) (he : e ≤ 400) : ∀ d n (I : Nat → Nat → Int32) (J : Nat → Nat → Int64) c m r, pz_MZ I b tl t B e (c, m, r, 0) → r.length ≤ d → d < n →
    ∃ I', fl_m_sum_5 n 70 (s, I, J, R) = some (pu_b (decide ((pz_sx d (c, m, r, 0)).2.2.2 = 0)), (s, I', J, R)) ∧ pz_MZ I' b tl t B e (pz_sx d (c, m, r, 0)) ∧ pz_Mx t B I I' := by
  intro d
  induction d with
  | zero => intro n I J c m r h hr hn; have := pz_ne h; omega
  | succ d ih =>
    intro n I J c m r h hr hn
    obtain ⟨n, rfl⟩ : ∃ x, n = x + 1 := ⟨n - 1, by omega⟩
    obtain ⟨I1, p, a1, a2, a3, a4, er⟩ := pz_see (J := J) hM h
    have s0 := pz_see0 (J := J) hM a4
    have b43 : (pz_by b tl p = 43) = (pu_hk r = 7) := er ▸ pz_by_sg a4 (fun c => (pz_sgc c).2.2.2.1) (by omega) (by omega) (show 43 < 256 by omega) rfl
    have b45 : (pz_by b tl p = 45) = (pu_hk r = 8) := er ▸ pz_by_sg a4 (fun c => (pz_sgc c).2.2.2.2.1) (by omega) (by omega) (show 45 < 256 by omega) rfl
    by_cases hj : pu_hk r = 7 ∨ pu_hk r = 8
    · obtain ⟨a, ha, ha2⟩ : ∃ a, (a = 2 ∨ a = 3) ∧ (pu_hk r = 7 ↔ a = 2) := by
        by_cases x : pu_hk r = 7
        · exact ⟨2, Or.inl rfl, by omega⟩
        · exact ⟨3, Or.inr rfl, by omega⟩
      have ez : pz_sx (d + 1) (c, m, r, 0) = pz_sx d (pz_em (pz_tl 400 (pz_vl (c, m, r.tail, 0))) a 0) := by
        unfold pz_sx
        dsimp only
        by_cases x : pu_hk r = 7
        · rw [if_pos x, ha2.mp x]; rfl
        · rw [if_neg x, if_pos (by omega), show a = 3 by omega]; rfl
      have g7 : B + c.length + r.length ≤ e := (h.1 rfl).2.2.2.2.2.2
      have rne := pz_ne h
      obtain ⟨e, rfl⟩ : ∃ x, e = x + 1 := ⟨e - 1, by omega⟩
      obtain ⟨m1, hlt, sg⟩ := pz_adv1 a3 a4 er rfl (by omega) (by omega)
      obtain ⟨bb, b71⟩ := a4.1.2.2 p hlt
      have h400 := a4.1.2.1
      obtain ⟨_, _, z3, _⟩ := pz_sby_c (b p) bb
      obtain ⟨I3, c1, c2, c3⟩ := pz_m_term (J := J) hM ht (by omega) m1
      have x3 : pz_Mx t B I I3 := ((pz_Mx.nf a2).tr (pz_Mx.nf pu_Nf.u)).tr c3
      have start : fl_m_sum_5 (n + 1) 70 (s, I, J, R) = if ((pz_tl 400 (pz_vl (c, m, r.tail, 0))).2.2.2 = 0) then (fb_m_puts 70 (nI a) 0 (s, I3, J, R)).bind (fun x9 => fl_m_sum_5 n 70 x9) else some (0, (s, I3, J, R)) := by
        have j23 : fj_m_sum_j23 (fl_m_sum_5 n) 70 (nI a) (s, I1, J, R) = if ((pz_tl 400 (pz_vl (c, m, r.tail, 0))).2.2.2 = 0) then (fb_m_puts 70 (nI a) 0 (s, I3, J, R)).bind (fun x9 => fl_m_sum_5 n 70 x9) else some (0, (s, I3, J, R)) := by
          unfold fj_m_sum_j23
          simp only [pu_gI (pu_m70 hM), a4.2.2.2, Option.bind_some, pu_R1, pu_pI (pu_m70 hM), pu_on (pu_m70 hM), c1, pu_b0, decide_eq_false_iff_not]
          by_cases x : (pz_tl 400 (pz_vl (c, m, r.tail, 0))).2.2.2 = 0
          · rw [if_neg (fun y => y x), if_pos x]
          · rw [if_pos x, if_neg x]; rfl
        have j13 : fj_m_sum_j13 (fl_m_sum_5 n) 70 (s, I1, J, R) = fj_m_sum_j23 (fl_m_sum_5 n) 70 (nI a) (s, I1, J, R) := by
          unfold fj_m_sum_j13
          simp only [pu_gN (pu_m70 hM), pu_r0 hM, Option.bind_some, pu_gI (pu_m70 hM), a4.2.2.2, pu_lB0 (pu_m71 hM) (show p < 400 by omega) (show 400 ≤ 100000 by omega), b71, z3]
          have s7 := (pz_sgc (b p)).2.2.2.1
          by_cases x : pu_hk r = 7
          · rw [if_pos (s7.mp (sg.trans x)), ha2.mp x]; rfl
          · rw [if_neg (fun y => x (sg.symm.trans (s7.mpr y))), show a = 3 by omega]; rfl
        rw [fl_m_sum_5.eq_2]
        simp only [pu_on (pu_m70 hM), a1, Option.bind_some, s0, b43, b45, j13, j23]
        by_cases x : pu_hk r = 7
        · rw [if_pos x]
        · rw [if_neg x, if_pos (by omega : pu_hk r = 8)]
      rw [start, ez]
      have tle := pz_hk_len (r := r) (by omega)
      have len : (pz_tl 400 (pz_vl (c, m, r.tail, 0))).2.2.1.length ≤ r.tail.length := Nat.le_trans (pz_tl_len 400 _) (pz_vl_len (c, m, r.tail, 0))
      have hnil := pz_tl_f 400 (pz_vl (c, m, r.tail, 0)) (fun y => pz_vl_f _ rfl y)
      generalize pz_tl 400 (pz_vl (c, m, r.tail, 0)) = y at *
      by_cases x : y.2.2.2 = 0
      · rw [if_pos x]
        obtain ⟨c', m', r', f'⟩ := y
        have x : f' = 0 := x
        subst x
        have g8 : B + c'.length + r'.length ≤ e := (c2.1 rfl).2.2.2.2.2.2
        have rne' := pz_ne c2
        obtain ⟨I4, d1, d2, d3⟩ := pz_m_put (J := J) (k := a) (v := 0) (y := 0) hM ht c2 (by omega) rfl rfl (by omega) (by omega) (fun y => by omega)
        have em : pz_em (c', m', r', 0) a 0 = (c' ++ [(a, 0)], m', r', 0) := rfl
        have len : r'.length ≤ r.tail.length := len
        obtain ⟨I5, g1, g2, g3⟩ := ih n I4 J _ _ _ d2 (by omega) (by omega)
        rw [em]
        exact ⟨I5, by rw [d1, Option.bind_some, g1], g2, (x3.tr d3).tr g3⟩
      · rw [if_neg x]
        have em : pz_em y a 0 = y := by unfold pz_em; rw [if_neg x]
        rw [em, pz_sx_nil d _ (hnil x), decide_eq_false x]
        exact ⟨I3, rfl, ⟨fun y => absurd y x, c2.2⟩, x3⟩
    · have ez : pz_sx (d + 1) (c, m, r, 0) = (c, m, r, 0) := by
        unfold pz_sx
        dsimp only
        rw [if_neg (by omega), if_neg (by omega)]
      rw [ez]
      refine ⟨I1, ?_, a3, pz_Mx.nf a2⟩
      rw [fl_m_sum_5.eq_2]
      simp only [pu_on (pu_m70 hM), a1, Option.bind_some, s0, b43, b45, show ¬ pu_hk r = 7 by omega, show ¬ pu_hk r = 8 by omega, ↓reduceIte, fj_m_sum_j40, decide_true, pu_bt]
theorem pz_m_sum {I : Nat → Nat → Int32} {J : Nat → Nat → Int64} (hM : pu_M s R) (ht : t < 6) (he : e ≤ 400) {c : List (Nat × Nat)} {n : Nat} {r : List (Nat × Nat × Nat)} (h : pz_MZ I b tl t B e (c, n, r, 0)) :
    ∃ I', fb_m_sum 70 (s, I, J, R) = some (pu_b (decide ((pz_su (c, n, r, 0)).2.2.2 = 0)), (s, I', J, R)) ∧ pz_MZ I' b tl t B e (pz_su (c, n, r, 0)) ∧ pz_Mx t B I I' := by
  obtain ⟨I1, a1, a2, a3⟩ := pz_m_term (J := J) hM ht he h
  rw [pz_su_sx]
  unfold fb_m_sum
  simp only [pu_on (pu_m70 hM), a1, Option.bind_some, pu_b0, decide_eq_false_iff_not]
  have hnil := pz_tl_f 400 (pz_vl (c, n, r, 0)) (fun y => pz_vl_f _ rfl y)
  have g7 : B + c.length + r.length ≤ e := (h.1 rfl).2.2.2.2.2.2
  have rne := pz_ne h
  by_cases x : (pz_tl 400 (pz_vl (c, n, r, 0))).2.2.2 = 0
  · rw [if_neg (fun y => y x)]
    have len := pz_tl_len 400 (pz_vl (c, n, r, 0))
    have l2 : (pz_vl (c, n, r, 0)).2.2.1.length + 1 ≤ r.length := by
      by_cases v0 : (pz_vl (c, n, r, 0)).2.2.2 = 0
      · exact pz_vl_lt (c, n, r, 0) (List.length_pos_iff.mp rne) rfl v0
      · rw [pz_vl_f (c, n, r, 0) rfl v0]; exact rne
    generalize pz_tl 400 (pz_vl (c, n, r, 0)) = y at *
    obtain ⟨c', m', r', f'⟩ := y
    have x : f' = 0 := x
    subst x
    have len : r'.length ≤ (pz_vl (c, n, r, 0)).2.2.1.length := len
    obtain ⟨I2, g1, g2, g3⟩ := pz_m_sum_l hM ht he 399 1048576 I1 J c' m' r' a2 (by omega) (by omega)
    exact ⟨I2, by rw [g1, Option.bind_some], g2, a3.tr g3⟩
  · rw [if_pos x, pz_sx_nil 399 _ (hnil x), decide_eq_false x]
    exact ⟨I1, rfl, a2, a3⟩
end PUX9
