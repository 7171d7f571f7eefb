/-! ===== The reference compares two sums ===== -/
theorem pz_sg_cmp (c : Nat) : ((12 ≤ pu_sg c ∧ pu_sg c ≤ 16) ↔ (c = 60 ∨ c = 61 ∨ c = 62)) ∧ (pu_sg c = 12 ↔ c = 60) ∧ (pu_sg c = 14 ↔ c = 61) ∧ (pu_sg c = 16 ↔ c = 62) := by
  unfold pu_sg
  repeat (split; · (refine ⟨?_, ?_, ?_, ?_⟩ <;> omega))
  refine ⟨?_, ?_, ?_, ?_⟩ <;> omega
/-- the sign has a second byte -/
def pz_also (b : Nat → Nat) (tl p : Nat) : Prop := b p ≠ 61 ∧ p + 1 < tl ∧ b (p + 1) = 61
/-- which of the five it is -/
def pz_ck (c : Nat) (a : Bool) : Nat := if c = 60 then (if a then 1 else 0) else if c = 61 then 2 else if a then 3 else 4
theorem pz_ck_le (c : Nat) (a : Bool) : pz_ck c a ≤ 4 := by
  unfold pz_ck
  repeat' split
  all_goals omega
theorem pz_cmp_t {b : Nat → Nat} {tl p : Nat} (hp : p < tl) (h32 : b p ≠ 32) : ((12 ≤ pu_hk (pu_tt b tl p) ∧ pu_hk (pu_tt b tl p) ≤ 16) ↔ (b p = 60 ∨ b p = 61 ∨ b p = 62)) ∧ ((b p = 60 ∨ b p = 61 ∨ b p = 62) → ∀ a : Bool, (a = true ↔ pz_also b tl p) → pu_tt b tl p = (12 + pz_ck (b p) a, p, 0) :: pu_tt b tl (if a then p + 2 else p + 1)) := by
  obtain ⟨t, ht, e⟩ := pu_tt_s b hp h32
  have hk : pu_hk (pu_tt b tl p) = t.1 := by rw [e]; rfl
  obtain ⟨s0, s1, s2, s3⟩ := pz_sg_cmp (b p)
  have hg : (b p = 60 ∨ b p = 61 ∨ b p = 62) → ∀ a : Bool, (a = true ↔ pz_also b tl p) → pu_t1 b tl p = (some (12 + pz_ck (b p) a, p, 0), if a then p + 2 else p + 1) := by
    intro h a ha
    have d1 : pu_isd (b p) = false := by rcases h with x | x | x <;> rw [x] <;> decide
    have d2 : pu_isl (b p) = false := by rcases h with x | x | x <;> rw [x] <;> decide
    unfold pu_t1
    rw [if_neg h32, if_neg (by rw [d1]; decide), if_neg (by rw [d2]; decide)]
    unfold pz_also at ha
    cases a with
    | true =>
      obtain ⟨a1, a2, a3⟩ := ha.mp rfl
      rw [if_pos ⟨⟨a2, a3⟩, by omega⟩, if_pos rfl]
      rcases h with x | x | x
      · rw [if_pos (by omega), x]; rfl
      · exact absurd x a1
      · rw [if_neg (by omega), x]; rfl
    | false =>
      have na : ¬ (b p ≠ 61 ∧ p + 1 < tl ∧ b (p + 1) = 61) := fun x => by cases ha.mpr x
      rw [if_neg (fun x => na ⟨by omega, x.1.1, x.1.2⟩), if_neg (by decide)]
      rcases h with x | x | x <;> rw [x] <;> rfl
  refine ⟨⟨fun h4 => ?_, fun h => ?_⟩, fun h a ha => ?_⟩
  · rw [hk] at h4
    unfold pu_t1 at ht
    rw [if_neg h32] at ht
    split at ht
    · cases ht
      have h4 : 12 ≤ (if 5 < pu_de b tl p - p then 3 else 2) ∧ _ := h4
      have := h4.1
      split at this <;> omega
    · split at ht
      · cases ht
        have h4 : 12 ≤ pu_wk b p (pu_le b tl p) 19 ∧ pu_wk b p (pu_le b tl p) 19 ≤ 16 := h4
        have := pu_wk_ge b p (pu_le b tl p) 19
        omega
      · split at ht
        · rename_i hx
          cases ht
          omega
        · cases ht
          have h4 : 12 ≤ pu_sg (b p) ∧ pu_sg (b p) ≤ 16 := h4
          exact s0.mp h4
  · rw [hk]
    by_cases a : pz_also b tl p
    · rw [hg h true ⟨fun _ => a, fun _ => rfl⟩] at ht
      cases ht
      show 12 ≤ 12 + pz_ck (b p) true ∧ 12 + pz_ck (b p) true ≤ 16
      have := pz_ck_le (b p) true
      omega
    · rw [hg h false ⟨fun x => (by cases x), fun x => absurd x a⟩] at ht
      cases ht
      show 12 ≤ 12 + pz_ck (b p) false ∧ 12 + pz_ck (b p) false ≤ 16
      have := pz_ck_le (b p) false
      omega
  · rw [e]
    rw [hg h a ha] at ht ⊢
    cases ht; rfl
theorem pz_vl_nil {z : pz_Z} (h : z.2.2.1 = []) : pz_vl z = pz_fz z 0 := by
  unfold pz_vl
  rw [h]
theorem pz_fz_keep (z : pz_Z) (w : Nat) (hf : z.2.2.2 ≠ 0) : (pz_fz z w).2.2.2 = z.2.2.2 := by
  show pu_ft z.2.2.1 z.2.2.2 w = _
  unfold pu_ft
  rw [if_neg hf]
theorem pz_su_nil {z : pz_Z} (h : z.2.2.1 = []) : pz_su z = pz_fz z 0 := by
  rw [pz_su_sx, pz_vl_nil h, pz_tl_nil 400 _ rfl, pz_sx_nil 399 _ rfl]
theorem pz_sx_f : ∀ d (z : pz_Z), (z.2.2.2 ≠ 0 → z.2.2.1 = []) → (pz_sx d z).2.2.2 ≠ 0 → (pz_sx d z).2.2.1 = [] := by
  intro d
  induction d with
  | zero =>
    intro z h
    unfold pz_sx
    split
    · exact fun x => by have := h x; show z.2.2.1.tail = []; rw [this]; rfl
    · split
      · exact fun x => by have := h x; show z.2.2.1.tail = []; rw [this]; rfl
      · exact h
  | succ d ih =>
    intro z h
    have key : ∀ a, pu_hk z.2.2.1 ≠ 0 → ((pz_sx d (pz_ea (pz_tl 400 (pz_vl (pz_ad z))) a)).2.2.2 ≠ 0 → (pz_sx d (pz_ea (pz_tl 400 (pz_vl (pz_ad z))) a)).2.2.1 = []) := by
      intro a hk
      refine ih _ (fun hx => ?_)
      rw [pz_ea_r] at hx ⊢
      have h0 : z.2.2.2 = 0 := Classical.byContradiction fun y => by rw [h y] at hk; exact absurd rfl hk
      exact pz_tl_f 400 _ (fun y => pz_vl_f (pz_ad z) h0 y) hx
    unfold pz_sx
    by_cases h7 : pu_hk z.2.2.1 = 7
    · rw [if_pos h7, pz_sx_sl]; exact key 2 (by omega)
    · rw [if_neg h7]
      by_cases h8 : pu_hk z.2.2.1 = 8
      · rw [if_pos h8, pz_sx_sl]; exact key 3 (by omega)
      · rw [if_neg h8]; exact h
/-- a sum with a fault leaves nothing to read -/
theorem pz_su_f {z : pz_Z} (h : z.2.2.2 = 0) (hf : (pz_su z).2.2.2 ≠ 0) : (pz_su z).2.2.1 = [] := by
  rw [pz_su_sx] at hf ⊢
  exact pz_sx_f 399 _ (fun y => pz_tl_f 400 _ (fun y => pz_vl_f z h y) y) hf
section PUY9
variable {s : List (Nat × Nat)} {R : Nat → Nat → Option Nat} {b : Nat → Nat} {tl t B e : Nat}
theorem pz_m_compare {I : Nat → Nat → Int32} {J : Nat → Nat → Int64} (hM : pu_M s R) (ht : t < 6) (he : e ≤ 400) {c : List (Nat × Nat)} {n : Nat} {r : List (Nat × Nat × Nat)} (h : pz_MZ I b tl t B e (c, n, r, 0)) :
    ∃ I', fb_m_compare 70 (s, I, J, R) = some (pu_b (decide ((pz_cm (c, n, r, 0)).2.2.2 = 0)), (s, I', J, R)) ∧ pz_MZ I' b tl t B e (pz_cm (c, n, r, 0)) ∧ pz_Mx t B I I' := by
  obtain ⟨I1, a1, a2, a3⟩ := pz_m_sum (J := J) hM ht he h
  have hnil := pz_su_f (z := (c, n, r, 0)) rfl
  unfold pz_cm
  generalize pz_su (c, n, r, 0) = y at *
  by_cases y0 : y.2.2.2 = 0
  · obtain ⟨c, n, r, f⟩ := y
    have y0 : f = 0 := y0
    subst y0
    obtain ⟨I2, p, b1, b2, b3, b4, er⟩ := pz_see (J := J) hM a2
    have x2 : pz_Mx t B I I2 := a3.tr (pz_Mx.nf b2)
    have hb := b4.1
    have h400 := hb.2.1
    have start : fb_m_compare 70 (s, I, J, R) = (if pz_by b tl p = 60 then fj_m_compare_j25 70 (pz_by b tl p) (nI p) (s, I2, J, R) else (if pz_by b tl p = 61 then fj_m_compare_j25 70 (pz_by b tl p) (nI p) (s, I2, J, R) else (if pz_by b tl p = 62 then fj_m_compare_j25 70 (pz_by b tl p) (nI p) (s, I2, J, R) else (fb_m_fails 70 0 (nI p) (s, I2, J, R)).bind fun x16 => tb_z x16.1 x16.2))) := by
      unfold fb_m_compare
      simp only [pu_on (pu_m70 hM), a1, Option.bind_some, decide_true, pu_bt, show ¬ ((1 : Int32) = 0) by decide, ↓reduceIte, b1, pu_gI (pu_m70 hM), b4.2.2.2]
    rw [start]
    obtain ⟨⟨_, h9, _⟩, g2, g3, g4, g5, g6, g7⟩ := b3.1 rfl
    have g7 : B + c.length + r.length ≤ e := g7
    have g6 : n ≤ 60 := g6
    dsimp only
    by_cases hc : 12 ≤ pu_hk r ∧ pu_hk r ≤ 16
    · rw [if_pos hc]
      have hlt : p < tl := Nat.lt_of_not_le fun hx => by
        rw [er, pu_tt_e b hx] at hc
        exact absurd hc.1 (by show ¬ 12 ≤ 0; decide)
      have hch := (pz_cmp_t hlt (b4.2.2.1 hlt)).1.mp (er ▸ hc)
      obtain ⟨al, hal⟩ : ∃ al : Bool, (al = true ↔ pz_also b tl p) := by
        by_cases x : pz_also b tl p
        · exact ⟨true, fun _ => x, fun _ => rfl⟩
        · exact ⟨false, ⟨fun y => (by cases y), fun y => absurd y x⟩⟩
      have et := er.trans ((pz_cmp_t hlt (b4.2.2.1 hlt)).2 hch al hal)
      have hby : pz_by b tl p = nI (b p) := by unfold pz_by; rw [if_pos hlt]
      obtain ⟨bb, b71⟩ := hb.2.2 p hlt
      have c60 : (nI (b p) = (60 : Int32)) = (b p = 60) := pu_eqI (b := 60) (by omega) (by omega)
      have c61 : (nI (b p) = (61 : Int32)) = (b p = 61) := pu_eqI (b := 61) (by omega) (by omega)
      have c62 : (nI (b p) = (62 : Int32)) = (b p = 62) := pu_eqI (b := 62) (by omega) (by omega)
      have e1 : (if pz_by b tl p = 60 then fj_m_compare_j25 70 (pz_by b tl p) (nI p) (s, I2, J, R) else (if pz_by b tl p = 61 then fj_m_compare_j25 70 (pz_by b tl p) (nI p) (s, I2, J, R) else (if pz_by b tl p = 62 then fj_m_compare_j25 70 (pz_by b tl p) (nI p) (s, I2, J, R) else (fb_m_fails 70 0 (nI p) (s, I2, J, R)).bind fun x16 => tb_z x16.1 x16.2))) = fj_m_compare_j25 70 (nI (b p)) (nI p) (s, I2, J, R) := by
        simp only [hby, c60, c61, c62]
        rcases hch with x | x | x
        · rw [if_pos x]
        · rw [if_neg (by omega), if_pos x]
        · rw [if_neg (by omega), if_neg (by omega), if_pos x]
      rw [e1]
      -- past the sign
      obtain ⟨I3, k1, k2, k3⟩ : ∃ I3, fj_m_compare_j25 70 (nI (b p)) (nI p) (s, I2, J, R) = fj_m_compare_j58 70 (nI (b p)) (nI p) (pu_b al) (s, I3, J, R) ∧ pu_Nf I2 I3 ∧ I3 70 8 = nI (if al then p + 2 else p + 1) := by
        have u8 : tb_up2 I2 70 8 (nI (p + 1)) 70 8 = nI (p + 1) := pu_u2s _ _ _ _
        have u1 : tb_up2 I2 70 8 (nI (p + 1)) 70 1 = nI tl := by rw [pu_u2k _ _ _ _ (by decide)]; exact hb.1
        have lt : (nI (p + 1) < nI tl) = (p + 1 < tl) := pu_ltI (by omega) (by omega)
        unfold fj_m_compare_j25
        simp only [pu_gI (pu_m70 hM), b4.2.2.2, Option.bind_some, pu_R1, pu_pI (pu_m70 hM), c61, u8, u1, lt, pu_gN (pu_m70 hM), pu_r0 hM]
        cases al with
        | true =>
          obtain ⟨q1, q2, q3⟩ := hal.mp rfl
          obtain ⟨bb2, b72⟩ := hb.2.2 (p + 1) q2
          have v71 : tb_up2 I2 70 8 (nI (p + 1)) 71 (p + 1) = pu_sby (b (p + 1)) := by rw [pu_u2p _ _ _ _ (by decide)]; exact b72
          have z61 : pu_sby (b (p + 1)) = 61 := by rw [(pz_sby_c (b (p + 1)) bb2).2.2.2]; exact q3
          refine ⟨tb_up2 (tb_up2 I2 70 8 (nI (p + 1))) 70 8 (nI (p + 1 + 1)), ?_, pu_Nf.u.tr pu_Nf.u, pu_u2s _ _ _ _⟩
          rw [if_neg q1, if_pos q2]
          simp only [pu_lB0 (pu_m71 hM) (show p + 1 < 400 by omega) (show 400 ≤ 100000 by omega), v71.trans z61, Option.bind_some, ↓reduceIte, fj_m_compare_j49, show ¬ ((1 : Int32) = 0) by decide, pu_gI (pu_m70 hM), u8, pu_R1, pu_pI (pu_m70 hM), pu_bt]
        | false =>
          have na : ¬ (b p ≠ 61 ∧ p + 1 < tl ∧ b (p + 1) = 61) := fun x => by cases hal.mpr x
          refine ⟨tb_up2 I2 70 8 (nI (p + 1)), ?_, pu_Nf.u, pu_u2s _ _ _ _⟩
          by_cases q1 : b p = 61
          · rw [if_pos q1]
            simp only [fj_m_compare_j49, ↓reduceIte, pu_bf]
          · rw [if_neg q1]
            by_cases q2 : p + 1 < tl
            · obtain ⟨bb2, b72⟩ := hb.2.2 (p + 1) q2
              have v71 : tb_up2 I2 70 8 (nI (p + 1)) 71 (p + 1) = pu_sby (b (p + 1)) := by rw [pu_u2p _ _ _ _ (by decide)]; exact b72
              rw [if_pos q2]
              simp only [pu_lB0 (pu_m71 hM) (show p + 1 < 400 by omega) (show 400 ≤ 100000 by omega), v71, Option.bind_some, (pz_sby_c (b (p + 1)) bb2).2.2.2, show ¬ b (p + 1) = 61 from fun y => na ⟨q1, q2, y⟩, ↓reduceIte, fj_m_compare_j49, pu_bf]
            · rw [if_neg q2]
              simp only [fj_m_compare_j49, ↓reduceIte, pu_bf]
      rw [k1]
      have hq : (if al then p + 2 else p + 1) ≤ tl := by
        cases al with
        | true => have := (hal.mp rfl).2.1; rw [if_pos rfl]; omega
        | false => rw [if_neg (by decide)]; omega
      have hkr : pu_hk r = 12 + pz_ck (b p) al := by rw [et]; rfl
      have ck4 : pz_ck (b p) al ≤ 4 := by omega
      have etl : r.tail = pu_tt b tl (if al then p + 2 else p + 1) := by rw [et]; rfl
      have tle := pz_hk_len (r := r) (by omega)
      obtain ⟨e, rfl⟩ : ∃ x, e = x + 1 := ⟨e - 1, by omega⟩
      have m3 : pz_MZ I3 b tl t B e (c, n, r.tail, 0) := b3.mv (pu_Of.nf k2) ⟨hb.nf k2, by rw [k2.2 9 (by decide)]; exact h9, _, hq, k3, etl⟩ (by omega)
      have x3 := x2.tr (pz_Mx.nf k2)
      obtain ⟨⟨_, h93, _⟩, _, _, _, g53, _, _⟩ := m3.1 rfl
      have hmk := pz_makes (J := J) (p := p) hM g53 g6 h93
      unfold fj_m_compare_j58
      simp only [pu_on (pu_m70 hM), hmk, c60, c61, pu_b0]
      have ft3 : pu_ft r 0 3 = 1 + 8 * p + 3 := by unfold pu_ft; rw [if_pos rfl, et]
      by_cases hn : n < 60
      · have etp : pz_tp (c, n, r, 0) = (c, n + 1, r.tail, 0) := by unfold pz_tp; rw [if_pos hn]
        rw [etp, if_pos hn]
        have x4 := x3.tr (pz_Mx.u12 (v := nI (n + 1)))
        obtain ⟨I5, d1, d2, d3⟩ := pz_m_sum (J := J) hM ht (by omega) (m3.mk hn)
        have x5 := x4.tr d3
        generalize pz_su (c, n + 1, r.tail, 0) = w at *
        have j83 : ∀ s0 : Int32, fj_m_compare_j83 70 s0 (s, tb_up2 I3 70 12 (nI (n + 1)), J, R) = if w.2.2.2 = 0 then (fb_m_puts 70 (6 + s0) 0 (s, I5, J, R)).bind (fun x8 => some (1, x8)) else some (0, (s, I5, J, R)) := by
          intro s0
          unfold fj_m_compare_j83
          simp only [pu_on (pu_m70 hM), d1, Option.bind_some, pu_b0, decide_eq_false_iff_not]
          by_cases x : w.2.2.2 = 0
          · rw [if_neg (fun y => y x), if_pos x]
          · rw [if_pos x, if_neg x]
        have e2 : (if b p = 60 then (if al = false then fj_m_compare_j83 70 0 (s, tb_up2 I3 70 12 (nI (n + 1)), J, R) else fj_m_compare_j83 70 1 (s, tb_up2 I3 70 12 (nI (n + 1)), J, R)) else (if b p = 61 then fj_m_compare_j83 70 2 (s, tb_up2 I3 70 12 (nI (n + 1)), J, R) else (if al = false then fj_m_compare_j83 70 4 (s, tb_up2 I3 70 12 (nI (n + 1)), J, R) else fj_m_compare_j83 70 3 (s, tb_up2 I3 70 12 (nI (n + 1)), J, R)))) = fj_m_compare_j83 70 (nI (pz_ck (b p) al)) (s, tb_up2 I3 70 12 (nI (n + 1)), J, R) := by
          unfold pz_ck
          rcases hch with x | x | x <;> rw [x] <;> cases al <;> rfl
        simp only [Option.bind_some, show ¬ ((1 : Int32) = 0) by decide, ↓reduceIte]
        rw [e2, j83]
        by_cases x : w.2.2.2 = 0
        · rw [if_pos x]
          obtain ⟨c', n', r', f'⟩ := w
          have x : f' = 0 := x
          subst x
          have g8 : B + c'.length + r'.length ≤ e := (d2.1 rfl).2.2.2.2.2.2
          have rne' := pz_ne d2
          obtain ⟨I6, q1, q2, q3⟩ := pz_m_put (J := J) (k := pu_hk r - 6) (v := 0) (y := 0) (x := 6 + nI (pz_ck (b p) al)) hM ht d2 (by omega) (by rw [show (6 : Int32) = nI 6 from rfl, nI_add]; congr 1; omega) rfl (by omega) (by omega) (fun y => by omega)
          refine ⟨I6, ?_, q2, x5.tr q3⟩
          rw [q1]
          rfl
        · rw [if_neg x]
          have em : pz_em w (pu_hk r - 6) 0 = w := by unfold pz_em; rw [if_neg x]
          rw [em, decide_eq_false x]
          exact ⟨I5, rfl, ⟨fun y => absurd y x, d2.2⟩, x5⟩
      · have etp : pz_tp (c, n, r, 0) = pz_fz (c, n, r, 0) 3 := by unfold pz_tp; rw [if_neg hn]
        rw [etp, if_neg hn, pz_su_nil (z := pz_fz (c, n, r, 0) 3) rfl]
        have f3 : (pz_fz (c, n, r, 0) 3).2.2.2 = 1 + 8 * p + 3 := ft3
        have ff : (pz_fz (pz_fz (c, n, r, 0) 3) 0).2.2.2 = 1 + 8 * p + 3 := (pz_fz_keep _ 0 (by omega)).trans f3
        have em : pz_em (pz_fz (pz_fz (c, n, r, 0) 3) 0) (pu_hk r - 6) 0 = pz_fz (pz_fz (c, n, r, 0) 3) 0 := by unfold pz_em; rw [if_neg (by omega)]
        rw [em, ff, decide_eq_false (by omega)]
        refine ⟨tb_up2 I3 70 9 (nI (1 + 8 * p + 3)), ?_, ⟨fun y => by omega, fun _ => by rw [ff]; exact pu_u2s _ _ _ _⟩, x3.tr pz_Mx.u9⟩
        simp only [Option.bind_some, ↓reduceIte, pu_bf]
    · rw [if_neg hc]
      have hf := pu_m_fails (J := J) hM h9 0 p
      rw [show nI 0 = 0 from rfl] at hf
      have nb : ∀ ch : Nat, (ch = 60 ∨ ch = 61 ∨ ch = 62) → ¬ pz_by b tl p = nI ch := by
        intro ch hch hx
        unfold pz_by at hx
        by_cases hlt : p < tl
        · rw [if_pos hlt] at hx
          have bb := (hb.2.2 p hlt).1
          rw [pu_eqI (by omega) (by omega)] at hx
          exact hc (by rw [er]; exact (pz_cmp_t hlt (b4.2.2.1 hlt)).1.mpr (by omega))
        · rw [if_neg hlt] at hx
          exact pu_nm1 (n := ch) (by omega) hx.symm
      have n60 : ¬ pz_by b tl p = 60 := nb 60 (by omega)
      have n61 : ¬ pz_by b tl p = 61 := nb 61 (by omega)
      have n62 : ¬ pz_by b tl p = 62 := nb 62 (by omega)
      have ft0 : (pz_fz (c, n, r, 0) 0).2.2.2 = 1 + 8 * p + 0 := by
        show pu_ft r 0 0 = _
        unfold pu_ft
        obtain ⟨t0, r1, et, tp, _⟩ := pu_hd b4.2.1 b4.2.2.1
        rw [if_pos rfl, er, et]
        dsimp only
        rw [tp]
      rw [ft0, decide_eq_false (by omega)]
      refine ⟨tb_up2 I2 70 9 (nI (1 + 8 * p + 0)), ?_, ⟨fun y => by omega, fun _ => by rw [ft0]; exact pu_u2s _ _ _ _⟩, x2.tr pz_Mx.u9⟩
      simp only [n60, n61, n62, ↓reduceIte, hf, Option.bind_some]
      rfl
  · have hr := hnil y0
    rw [if_neg (by rw [hr]; decide)]
    have ff : (pz_fz y 0).2.2.2 = y.2.2.2 := pz_fz_keep _ 0 y0
    rw [ff, decide_eq_false y0]
    refine ⟨I1, ?_, ⟨fun x => absurd (ff ▸ x) y0, fun _ => by rw [ff]; exact a2.2 y0⟩, a3⟩
    unfold fb_m_compare
    simp only [pu_on (pu_m70 hM), a1, Option.bind_some, decide_eq_false y0, pu_bf, ↓reduceIte]
end PUY9
