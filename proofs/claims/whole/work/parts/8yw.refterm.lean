/-! ===== The reference reads terms ===== -/
theorem pz_Nf_id {I I' : Nat → Nat → Int32} (a : pu_Nf I I') (e : I' 70 8 = I 70 8) : I' = I := by
  funext q k
  by_cases hq : q = 70
  · subst hq
    by_cases hk : k = 8
    · subst hk; exact e
    · exact a.2 k hk
  · rw [a.1 q hq]
def pz_by (b : Nat → Nat) (tl p : Nat) : Int32 := if p < tl then nI (b p) else -1
/-- the place of reading is the begin of a token, or the end -/
def pz_At (I : Nat → Nat → Int32) (b : Nat → Nat) (tl p : Nat) : Prop := pu_MB I b tl ∧ p ≤ tl ∧ (p < tl → b p ≠ 32) ∧ I 70 8 = nI p
theorem pz_sby_c : ∀ c, c < 256 → ((pu_sby c = 42) = (c = 42) ∧ (pu_sby c = 47) = (c = 47) ∧ (pu_sby c = 43) = (c = 43) ∧ (pu_sby c = 61) = (c = 61)) := by
  have h : ∀ c, c < 256 → ((pu_sby c = 42 ↔ c = 42) ∧ (pu_sby c = 47 ↔ c = 47) ∧ (pu_sby c = 43 ↔ c = 43) ∧ (pu_sby c = 61 ↔ c = 61)) := by decide +kernel
  intro c hc
  obtain ⟨a1, a2, a3, a4⟩ := h c hc
  exact ⟨propext a1, propext a2, propext a3, propext a4⟩
theorem pz_tl_nil (d : Nat) (z : pz_Z) (h : z.2.2.1 = []) : pz_tl d z = z := by
  cases d with
  | zero => rfl
  | succ d =>
    show (if _ then _ else _) = _
    rw [if_neg (by rw [h]; decide)]
theorem pz_vl_f (z : pz_Z) (h0 : z.2.2.2 = 0) (h : (pz_vl z).2.2.2 ≠ 0) : (pz_vl z).2.2.1 = [] := by
  unfold pz_vl at h ⊢
  cases hr : z.2.2.1 with
  | nil => rfl
  | cons t r =>
    rw [hr] at h
    dsimp only at h ⊢
    by_cases hv : t.1 = 2 ∨ (20 ≤ t.1 ∧ t.1 ≤ 31)
    · rw [if_pos hv] at h ⊢
      unfold pz_tp at h ⊢
      by_cases hn : (pz_em z (pz_st t).1 (pz_st t).2).2.1 < 60
      · rw [if_pos hn] at h
        have h : (pz_em z (pz_st t).1 (pz_st t).2).2.2.2 ≠ 0 := h
        rw [pz_em_r] at h
        exact absurd h0 h
      · rw [if_neg hn]; rfl
    · rw [if_neg hv]; rfl
theorem pz_vl_lt (z : pz_Z) (hne : z.2.2.1 ≠ []) (h0 : z.2.2.2 = 0) (h : (pz_vl z).2.2.2 = 0) : (pz_vl z).2.2.1.length + 1 ≤ z.2.2.1.length := by
  unfold pz_vl at h ⊢
  cases hr : z.2.2.1 with
  | nil => exact absurd hr hne
  | cons t r =>
    rw [hr] at h
    have ft : ∀ (w : pz_Z) why, w.2.2 = z.2.2 → (pz_fz w why).2.2.2 ≠ 0 := fun w why hw => by
      show pu_ft w.2.2.1 w.2.2.2 why ≠ 0
      rw [hw, hr]
      unfold pu_ft
      rw [if_pos h0]
      dsimp only
      omega
    dsimp only at h ⊢
    by_cases hv : t.1 = 2 ∨ (20 ≤ t.1 ∧ t.1 ≤ 31)
    · rw [if_pos hv] at h ⊢
      have e := pz_em_r z (pz_st t).1 (pz_st t).2
      unfold pz_tp at h ⊢
      by_cases hn : (pz_em z (pz_st t).1 (pz_st t).2).2.1 < 60
      · rw [if_pos hn]
        show (pz_em z (pz_st t).1 (pz_st t).2).2.2.1.tail.length + 1 ≤ _
        rw [e, hr]
        exact Nat.le_refl _
      · rw [if_neg hn] at h
        exact absurd h (ft _ 3 (by rw [e]))
    · rw [if_neg hv] at h
      exact absurd h (ft _ _ rfl)
section PUW9
variable {s : List (Nat × Nat)} {R : Nat → Nat → Option Nat} {b : Nat → Nat} {tl t B e : Nat}
theorem pz_see0 {I : Nat → Nat → Int32} {J : Nat → Nat → Int64} (hM : pu_M s R) {p : Nat} (h : pz_At I b tl p) : fb_m_see 70 (s, I, J, R) = some (pz_by b tl p, (s, I, J, R)) := by
  obtain ⟨hb, hp, h32, e8⟩ := h
  obtain ⟨I', a1, a2, a3⟩ := pu_m_see (J := J) hM hb hp e8
  rw [pu_sp_idem hp h32] at a1 a2
  rw [pz_Nf_id a3 (a2.trans e8.symm)] at a1
  exact a1
theorem pz_isw0 {I : Nat → Nat → Int32} {J : Nat → Nat → Int64} (hM : pu_M s R) {p : Nat} (h : pz_At I b tl p) {k : Nat} (hk : k < 19) {W : Int64} (hW : W = lN (pu_wv (pu_wl.getD k []))) : fb_m_isWord 70 W (s, I, J, R) = some (pu_b (decide (pu_hk (pu_tt b tl p) = 20 + k)), (s, I, J, R)) := by
  obtain ⟨hb, hp, h32, e8⟩ := h
  obtain ⟨I', a1, a2, a3⟩ := pu_m_isW (J := J) hM hb hp h32 e8 hk hW
  rw [pz_Nf_id a3 (a2.trans e8.symm)] at a1
  exact a1
theorem pz_see {I : Nat → Nat → Int32} {J : Nat → Nat → Int64} (hM : pu_M s R) {c : List (Nat × Nat)} {n : Nat} {r : List (Nat × Nat × Nat)} (h : pz_MZ I b tl t B e (c, n, r, 0)) : ∃ I1 p, fb_m_see 70 (s, I, J, R) = some (pz_by b tl p, (s, I1, J, R)) ∧ pu_Nf I I1 ∧ pz_MZ I1 b tl t B e (c, n, r, 0) ∧ pz_At I1 b tl p ∧ r = pu_tt b tl p := by
  obtain ⟨⟨hb, h9, q, hq, e8, er⟩, g2, g3, g4, g5, g6, g7⟩ := h.1 rfl
  have er : r = pu_tt b tl q := er
  obtain ⟨I1, a1, a2, a3⟩ := pu_m_see (J := J) hM hb hq e8
  have hs := pu_sp_le b hq
  have h32 : pu_sp b tl q < tl → b (pu_sp b tl q) ≠ 32 := fun hx => pu_sp_ne hq hx
  rw [pu_tt_sp b hq] at er
  exact ⟨I1, pu_sp b tl q, a1, a3, h.mv (pu_Of.nf a3) ⟨hb.nf a3, by rw [a3.2 9 (by decide)]; exact h9, pu_sp b tl q, hs.1, a2, er⟩ g7, ⟨hb.nf a3, hs.1, h32, a2⟩, er⟩
theorem pz_by_sg {I : Nat → Nat → Int32} {p : Nat} (a : pz_At I b tl p) {k ch : Nat} (hc : ∀ c, pu_sg c = k ↔ c = ch) (h1 : 4 ≤ k) (h2 : k ≤ 11) (hch : ch < 256) {v : Int32} (hv : v = nI ch) : (pz_by b tl p = v) = (pu_hk (pu_tt b tl p) = k) := by
  obtain ⟨hb, hp, h32, e8⟩ := a
  subst hv
  unfold pz_by
  by_cases hlt : p < tl
  · rw [if_pos hlt, pu_eqI (by have := (hb.2.2 p hlt).1; omega) (by omega)]
    have := (pz_sgn hlt (h32 hlt) h1 h2).1
    exact propext ((hc (b p)).symm.trans this.symm)
  · rw [if_neg hlt, pu_tt_e b (by omega)]
    exact propext ⟨fun h => absurd h.symm (pu_nm1 (by omega)), fun h => by have h : (0 : Nat) = k := h; omega⟩
theorem pz_ne {I : Nat → Nat → Int32} {c : List (Nat × Nat)} {n : Nat} {r : List (Nat × Nat × Nat)} (h : pz_MZ I b tl t B e (c, n, r, 0)) : 1 ≤ r.length := by
  obtain ⟨⟨_, _, q, _, _, y⟩, _⟩ := h.1 rfl
  have y : r = pu_tt b tl q := y
  rw [y]; exact List.length_pos_iff.mpr (pu_tt_ne b tl q)
theorem pz_adv1 {I : Nat → Nat → Int32} {c : List (Nat × Nat)} {n : Nat} {r : List (Nat × Nat × Nat)} (h : pz_MZ I b tl t B (e + 1) (c, n, r, 0)) {p k : Nat} (a : pz_At I b tl p) (er : r = pu_tt b tl p) (hk : pu_hk r = k) (h1 : 4 ≤ k) (h2 : k ≤ 11) : pz_MZ (tb_up2 I 70 8 (nI (p + 1))) b tl t B e (c, n, r.tail, 0) ∧ p < tl ∧ pu_sg (b p) = k := by
  obtain ⟨hb, hp, h32, e8⟩ := a
  have hlt : p < tl := Nat.lt_of_not_le fun hx => by
    rw [er, pu_tt_e b hx] at hk
    have hk : (0 : Nat) = k := hk
    omega
  have hg := pz_sgn (k := k) hlt (h32 hlt) h1 h2
  have sg := hg.1.mp (er ▸ hk)
  have et := er.trans (hg.2 sg)
  obtain ⟨⟨_, h9, _⟩, g2, g3, g4, g5, g6, g7⟩ := h.1 rfl
  have g7 : B + c.length + r.length ≤ e + 1 := g7
  rw [et] at g7 ⊢
  have g7 : B + c.length + ((pu_tt b tl (p + 1)).length + 1) ≤ e + 1 := g7
  refine ⟨h.mv (pu_Of.nf pu_Nf.u) ⟨hb.nf pu_Nf.u, by rw [pu_u2k _ _ _ _ (by decide)]; exact h9, p + 1, hlt, pu_u2s _ _ _ _, rfl⟩ (by show B + c.length + (pu_tt b tl (p + 1)).length ≤ e; omega), hlt, sg⟩
theorem pz_m_term_l (hM : pu_M s R) (ht : t < 6) (he : e ≤ 400) : ∀ d n (I : Nat → Nat → Int32) (J : Nat → Nat → Int64) c m r, pz_MZ I b tl t B e (c, m, r, 0) → r.length ≤ d → d < n →
    ∃ I', fl_m_term_5 n 70 (s, I, J, R) = some (pu_b (decide ((pz_tl d (c, m, r, 0)).2.2.2 = 0)), (s, I', J, R)) ∧ pz_MZ I' b tl t B e (pz_tl d (c, m, r, 0)) ∧ pz_Mx t B I I' := by
  intro d
  induction d with
  | zero => intro n I J c m r h hr hn; have := pz_ne h; omega
  | succ d ih =>
    intro n I J c m r h hr hn
    obtain ⟨n, rfl⟩ : ∃ x, n = x + 1 := ⟨n - 1, by omega⟩
    obtain ⟨I1, p, a1, a2, a3, a4, er⟩ := pz_see (J := J) hM h
    have s0 := pz_see0 (J := J) hM a4
    have hc := fun c => (pz_sgc c)
    have b42 : (pz_by b tl p = 42) = (pu_hk r = 9) := er ▸ pz_by_sg a4 (fun c => (pz_sgc c).1) (by omega) (by omega) (show 42 < 256 by omega) rfl
    have b47 : (pz_by b tl p = 47) = (pu_hk r = 10) := er ▸ pz_by_sg a4 (fun c => (pz_sgc c).2.1) (by omega) (by omega) (show 47 < 256 by omega) rfl
    have b37 : (pz_by b tl p = 37) = (pu_hk r = 11) := er ▸ pz_by_sg a4 (fun c => (pz_sgc c).2.2.1) (by omega) (by omega) (show 37 < 256 by omega) rfl
    by_cases hj : 9 ≤ pu_hk r ∧ pu_hk r ≤ 11
    · have g7 : B + c.length + r.length ≤ e := (h.1 rfl).2.2.2.2.2.2
      have rne := pz_ne h
      obtain ⟨e, rfl⟩ : ∃ x, e = x + 1 := ⟨e - 1, by omega⟩
      obtain ⟨m1, hlt, sg⟩ := pz_adv1 a3 a4 er rfl (by omega) (by omega)
      obtain ⟨bb, b71⟩ := a4.1.2.2 p hlt
      have h400 := a4.1.2.1
      obtain ⟨z1, z2, _, _⟩ := pz_sby_c (b p) bb
      have start : fl_m_term_5 (n + 1) 70 (s, I, J, R) = fj_m_term_j36 (fl_m_term_5 n) 70 (nI (pz_jo (pu_hk r))) (s, I1, J, R) := by
        have j17 : fj_m_term_j17 (fl_m_term_5 n) 70 (s, I1, J, R) = fj_m_term_j36 (fl_m_term_5 n) 70 (nI (pz_jo (pu_hk r))) (s, I1, J, R) := by
          unfold fj_m_term_j17
          simp only [pu_gN (pu_m70 hM), pu_r0 hM, Option.bind_some, pu_gI (pu_m70 hM), a4.2.2.2, pu_lB0 (pu_m71 hM) (show p < 400 by omega) (show 400 ≤ 100000 by omega), b71, z1, z2]
          have hh : pu_hk r = 9 ∨ pu_hk r = 10 ∨ pu_hk r = 11 := by omega
          rcases hh with x | x | x
          · rw [if_pos ((pz_sgc (b p)).1.mp (sg.trans x)), x]; rfl
          · have y := (pz_sgc (b p)).2.1.mp (sg.trans x)
            rw [if_neg (by omega), if_pos y, x]; rfl
          · have y := (pz_sgc (b p)).2.2.1.mp (sg.trans x)
            rw [if_neg (by omega), if_neg (by omega), x]; rfl
        rw [fl_m_term_5.eq_2]
        simp only [pu_on (pu_m70 hM), a1, Option.bind_some, s0, b42, b47, b37, j17]
        have hh : pu_hk r = 9 ∨ pu_hk r = 10 ∨ pu_hk r = 11 := by omega
        rcases hh with x | x | x
        · rw [if_pos x]
        · rw [if_neg (by omega), if_pos x]
        · rw [if_neg (by omega), if_neg (by omega), if_pos x]
      rw [start]
      have ez : pz_tl (d + 1) (c, m, r, 0) = pz_tl d (pz_em (pz_vl (c, m, r.tail, 0)) (pz_jo (pu_hk r)) 0) := by
        show (if _ then _ else _) = _
        rw [if_pos hj]
        rfl
      rw [ez]
      obtain ⟨I3, c1, c2, c3⟩ := pz_m_value (J := J) hM ht (by omega) m1
      have x3 : pz_Mx t B I I3 := ((pz_Mx.nf a2).tr (pz_Mx.nf pu_Nf.u)).tr c3
      have len := pz_vl_len (c, m, r.tail, 0)
      have tle := pz_hk_len (r := r) (by omega)
      have j36 : fj_m_term_j36 (fl_m_term_5 n) 70 (nI (pz_jo (pu_hk r))) (s, I1, J, R) = if ((pz_vl (c, m, r.tail, 0)).2.2.2 = 0) then (fb_m_puts 70 (nI (pz_jo (pu_hk r))) 0 (s, I3, J, R)).bind (fun x9 => fl_m_term_5 n 70 x9) else some (0, (s, I3, J, R)) := by
        unfold fj_m_term_j36
        simp only [pu_gI (pu_m70 hM), a4.2.2.2, Option.bind_some, pu_R1, pu_pI (pu_m70 hM), pu_on (pu_m70 hM), c1, pu_b0, decide_eq_false_iff_not]
        by_cases x : (pz_vl (c, m, r.tail, 0)).2.2.2 = 0
        · rw [if_neg (fun y => y x), if_pos x]
        · rw [if_pos x, if_neg x]; rfl
      rw [j36]
      have len : (pz_vl (c, m, r.tail, 0)).2.2.1.length ≤ r.tail.length := len
      by_cases x : (pz_vl (c, m, r.tail, 0)).2.2.2 = 0
      · rw [if_pos x]
        generalize pz_vl (c, m, r.tail, 0) = y at *
        obtain ⟨c', m', r', f'⟩ := y
        have x : f' = 0 := x
        subst x
        have g8 : B + c'.length + r'.length ≤ e := (c2.1 rfl).2.2.2.2.2.2
        have rne' := pz_ne c2
        obtain ⟨I4, d1, d2, d3⟩ := pz_m_put (J := J) (k := pz_jo (pu_hk r)) (v := 0) (y := 0) hM ht c2 (by omega) rfl rfl (by unfold pz_jo; split <;> (try split) <;> omega) (by omega) (fun y => by revert y; unfold pz_jo; split <;> (try split) <;> omega)
        have em : pz_em (c', m', r', 0) (pz_jo (pu_hk r)) 0 = (c' ++ [(pz_jo (pu_hk r), 0)], m', r', 0) := rfl
        have len : r'.length ≤ r.tail.length := len
        obtain ⟨I5, g1, g2, g3⟩ := ih n I4 J _ _ _ d2 (by omega) (by omega)
        rw [em]
        exact ⟨I5, by rw [d1, Option.bind_some, g1], g2, (x3.tr d3).tr g3⟩
      · rw [if_neg x]
        have hn := pz_vl_f (c, m, r.tail, 0) rfl x
        have em : pz_em (pz_vl (c, m, r.tail, 0)) (pz_jo (pu_hk r)) 0 = pz_vl (c, m, r.tail, 0) := by unfold pz_em; rw [if_neg x]
        rw [em, pz_tl_nil d _ hn, decide_eq_false x]
        exact ⟨I3, rfl, ⟨fun y => absurd y x, c2.2⟩, x3⟩
    · have ez : pz_tl (d + 1) (c, m, r, 0) = (c, m, r, 0) := by
        show (if _ then _ else _) = _
        rw [if_neg hj]
      rw [ez]
      refine ⟨I1, ?_, a3, pz_Mx.nf a2⟩
      rw [fl_m_term_5.eq_2]
      simp only [pu_on (pu_m70 hM), a1, Option.bind_some, s0, b42, b47, b37, show ¬ pu_hk r = 9 by omega, show ¬ pu_hk r = 10 by omega, show ¬ pu_hk r = 11 by omega, ↓reduceIte, fj_m_term_j53, decide_true, pu_bt]
theorem pz_m_term {I : Nat → Nat → Int32} {J : Nat → Nat → Int64} (hM : pu_M s R) (ht : t < 6) (he : e ≤ 400) {c : List (Nat × Nat)} {n : Nat} {r : List (Nat × Nat × Nat)} (h : pz_MZ I b tl t B e (c, n, r, 0)) :
    ∃ I', fb_m_term 70 (s, I, J, R) = some (pu_b (decide ((pz_tl 400 (pz_vl (c, n, r, 0))).2.2.2 = 0)), (s, I', J, R)) ∧ pz_MZ I' b tl t B e (pz_tl 400 (pz_vl (c, n, r, 0))) ∧ pz_Mx t B I I' := by
  obtain ⟨I1, a1, a2, a3⟩ := pz_m_value (J := J) hM ht (by omega) h
  unfold fb_m_term
  simp only [pu_on (pu_m70 hM), a1, Option.bind_some, pu_b0, decide_eq_false_iff_not]
  by_cases x : (pz_vl (c, n, r, 0)).2.2.2 = 0
  · rw [if_neg (fun y => y x)]
    generalize pz_vl (c, n, r, 0) = y at *
    obtain ⟨c', m', r', f'⟩ := y
    have x : f' = 0 := x
    subst x
    have g8 : B + c'.length + r'.length ≤ e := (a2.1 rfl).2.2.2.2.2.2
    obtain ⟨I2, g1, g2, g3⟩ := pz_m_term_l hM ht he 400 1048576 I1 J c' m' r' a2 (by omega) (by omega)
    exact ⟨I2, by rw [g1, Option.bind_some], g2, a3.tr g3⟩
  · rw [if_pos x, pz_tl_nil 400 _ (pz_vl_f _ rfl x), decide_eq_false x]
    exact ⟨I1, rfl, a2, a3⟩
end PUW9
