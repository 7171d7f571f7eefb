/-! ===== The reference reads a test ===== -/
theorem pz_W16 : (28530 : Int64) = lN (pu_wv (pu_wl.getD 16 [])) := by decide
theorem pz_W17 : (6385252 : Int64) = lN (pu_wv (pu_wl.getD 17 [])) := by decide
theorem pz_W18 : (7237492 : Int64) = lN (pu_wv (pu_wl.getD 18 [])) := by decide
theorem pz_bs {α : Type} (x : Option α) : (x.bind fun o => some o) = x := by cases x <;> rfl
def pz_qc (n : Nat) (x4 : tb_Hp) : Option ((Nat × tb_Hp) ⊕ (Int32 × tb_Hp)) := (tb_on 22 70 x4 (fb_m_isWord 70 6385252 x4)).bind fun x5 => (if x5.1 = 0 then (tb_on 22 70 x5.2 (fb_m_isWord 70 28530 x5.2)).bind fun x6 => (if x6.1 = 0 then fj_m_tested_j28 (fl_m_tested_8 n) 70 0 x6.2 else fj_m_tested_j28 (fl_m_tested_8 n) 70 1 x6.2) else fj_m_tested_j28 (fl_m_tested_8 n) 70 1 x5.2)
def pz_qf (n : Nat) (x3 : Int32 × tb_Hp) : Option ((Nat × tb_Hp) ⊕ (Int32 × tb_Hp)) := if x3.1 = 0 then fj_m_tested_j13 (fl_m_tested_8 n) x3.2 else (tb_on 22 70 x3.2 (fb_m_closes 70 x3.2)).bind (pz_qc n)
def pz_fin (o16 : (Nat × tb_Hp) ⊕ (Int32 × tb_Hp)) : Option (Int32 × tb_Hp) := match o16 with | .inl q17 => (tb_on 22 q17.1 q17.2 (fb_m_isInside q17.1 q17.2)).bind fun x18 => (if x18.1 = 0 then (tb_on 22 q17.1 x18.2 (fb_m_layDown q17.1 1 x18.2)).bind fun x19 => some (1, x19) else (tb_on 22 q17.1 x18.2 (fb_m_see q17.1 x18.2)).bind fun x20 => (tb_gI 22 8 q17.1 x20.2).bind fun x21 => (tb_on 22 q17.1 x20.2 (fb_m_fails q17.1 0 x21 x20.2)).bind fun x22 => tb_z x22.1 x22.2) | .inr q23 => some q23
theorem pz_nm_r (z : pz_Z) : (pz_nm z).2.2.2 = z.2.2.2 := by
  unfold pz_nm
  split <;> rfl
theorem pz_pm_0 (d : Nat) (st : List Nat) (c : List (Nat × Nat)) (m : Nat) (r : List (Nat × Nat × Nat)) : pz_pm (d + 1) false st (c, m, r, 0) = if pu_hk r = 38 then (if 10 ≤ pz_cn st then some (pz_nm (pz_fz (c, m, r, 0) 2)) else pz_pm d false (11 :: st) (c, m, r.tail, 0)) else if pu_hk r = 5 then (if 10 ≤ pz_cn st then some (pz_nm (pz_fz (c, m, r, 0) 2)) else pz_pm d false (91 :: st) (c, m, r.tail, 0)) else pz_pm d true (pz_ld 3 st (pz_cm (c, m, r, 0))).1 (pz_ld 3 st (pz_cm (c, m, r, 0))).2 := by
  show (if _ then _ else _) = _
  rw [if_neg (fun h => h rfl)]
  rfl
theorem pz_pm_1 (d : Nat) (st : List Nat) (c : List (Nat × Nat)) (m : Nat) (r : List (Nat × Nat × Nat)) : pz_pm (d + 1) true st (c, m, r, 0) = if pu_hk r = 6 ∧ pz_ins st = true then pz_pm d true (pz_ld 3 (pz_ld 1 st (c, m, r, 0)).1.tail (pz_ad (pz_ld 1 st (c, m, r, 0)).2)).1 (pz_ld 3 (pz_ld 1 st (c, m, r, 0)).1.tail (pz_ad (pz_ld 1 st (c, m, r, 0)).2)).2 else if pu_hk r = 37 then pz_pm d false (12 :: (pz_ld 2 st (c, m, r.tail, 0)).1) (pz_ld 2 st (c, m, r.tail, 0)).2 else if pu_hk r = 36 then pz_pm d false (13 :: (pz_ld 1 st (c, m, r.tail, 0)).1) (pz_ld 1 st (c, m, r.tail, 0)).2 else if pz_ins st = true then some (pz_nm (pz_fz (c, m, r, 0) 0)) else some (pz_nm (pz_ld 1 st (c, m, r, 0)).2) := by
  show (if _ then _ else _) = _
  rw [if_neg (fun h => h rfl)]
  rfl
theorem pz_sx_len : ∀ d (z : pz_Z), (pz_sx d z).2.2.1.length ≤ z.2.2.1.length := by
  intro d
  induction d with
  | zero =>
    intro z
    unfold pz_sx
    split
    · show z.2.2.1.tail.length ≤ _; rw [List.length_tail]; omega
    · split
      · show z.2.2.1.tail.length ≤ _; rw [List.length_tail]; omega
      · exact Nat.le_refl _
  | succ d ih =>
    intro z
    have key : ∀ a, (pz_sx d (pz_ea (pz_tl 400 (pz_vl (pz_ad z))) a)).2.2.1.length ≤ z.2.2.1.length := fun a => by
      have h1 := ih (pz_ea (pz_tl 400 (pz_vl (pz_ad z))) a)
      rw [pz_ea_r] at h1
      have h2 := pz_tl_len 400 (pz_vl (pz_ad z))
      have h3 := pz_vl_len (pz_ad z)
      have h4 : (pz_ad z).2.2.1.length = z.2.2.1.length - 1 := List.length_tail
      omega
    unfold pz_sx
    split
    · rw [pz_sx_sl]; exact key 2
    · split
      · rw [pz_sx_sl]; exact key 3
      · exact Nat.le_refl _
theorem pz_su_len (z : pz_Z) : (pz_su z).2.2.1.length ≤ z.2.2.1.length := by
  rw [pz_su_sx]
  exact Nat.le_trans (pz_sx_len 399 _) (Nat.le_trans (pz_tl_len 400 _) (pz_vl_len z))
theorem pz_cm_len (z : pz_Z) : (pz_cm z).2.2.1.length ≤ z.2.2.1.length := by
  have h1 := pz_su_len z
  unfold pz_cm
  generalize pz_su z = y at *
  split
  · rw [pz_em_r]
    have h2 := pz_su_len (pz_tp y)
    have h3 : (pz_tp y).2.2.1.length ≤ y.2.2.1.length := by
      unfold pz_tp
      split
      · show y.2.2.1.tail.length ≤ _; rw [List.length_tail]; omega
      · exact Nat.zero_le _
    omega
  · exact Nat.zero_le _
theorem pz_ld_ins {f : Nat → Int32} : ∀ (st : List Nat) (z : pz_Z), pz_skS f st → pz_ins st = true → ∃ st2, (pz_ld 1 st z).1 = 91 :: st2 := by
  intro st
  induction st with
  | nil => intro z _ h; cases h
  | cons x st ih =>
    intro z h hi
    obtain ⟨h1, h2, h3⟩ := h
    show ∃ st2, (if 1 ≤ pz_sth x then pz_ld 1 st (pz_em z x 0) else (x :: st, z)).1 = 91 :: st2
    by_cases hx : x = 91
    · subst hx
      rw [if_neg (by decide)]
      exact ⟨st, rfl⟩
    · rw [if_pos (by rcases h2 with y | y | y | y <;> subst y <;> first | decide | exact absurd rfl hx)]
      refine ih _ h3 ?_
      have hi : (decide (x = 91) || pz_ins st) = true := hi
      rw [decide_eq_false hx, Bool.false_or] at hi
      exact hi
section PVB1
variable {s : List (Nat × Nat)} {R : Nat → Nat → Option Nat} {b : Nat → Nat} {tl t B e : Nat}
theorem pz_MZ.nm {I : Nat → Nat → Int32} {z : pz_Z} (h : pz_MZ I b tl t B e z) : pz_MZ I b tl t B e (pz_nm z) := by
  unfold pz_nm
  split
  · exact h
  · rename_i hz
    exact ⟨fun x => absurd x hz, fun _ => h.2 hz⟩
def pz_Rz (s : List (Nat × Nat)) (R : Nat → Nat → Option Nat) (b : Nat → Nat) (tl t B e : Nat) (I : Nat → Nat → Int32) (J : Nat → Nat → Int64) (x : Option (Int32 × tb_Hp)) (o : pz_Z) : Prop := ∃ I', x = some (pu_b (decide (o.2.2.2 = 0)), (s, I', J, R)) ∧ pz_MZ I' b tl t B e o ∧ pz_My t B I I'
theorem pz_Rz.tr {I I1 : Nat → Nat → Int32} {J : Nat → Nat → Int64} {x : Option (Int32 × tb_Hp)} {o : pz_Z} (a : pz_My t B I I1) (h : pz_Rz s R b tl t B e I1 J x o) : pz_Rz s R b tl t B e I J x o := by
  obtain ⟨I', h1, h2, h3⟩ := h
  exact ⟨I', h1, h2, a.tr h3⟩
theorem pz_m_opens {I : Nat → Nat → Int32} {J : Nat → Nat → Int64} (hM : pu_M s R) {cn L p x : Nat} (h13 : I 70 13 = nI cn) (hc : cn ≤ 10) (h16 : I 70 16 = nI L) (hL : L < 400) (h9 : I 70 9 = 0) (h8 : I 70 8 = nI p) {v : Int32} (hv : v = nI x) : fb_m_opens 70 v (s, I, J, R) = if cn < 10 then some (1, (s, tb_up2 (tb_up2 (tb_up2 I 70 13 (nI (cn + 1))) 77 L (nI x)) 70 16 (nI (L + 1)), J, R)) else some (0, (s, tb_up2 I 70 9 (nI (1 + 8 * p + 2)), J, R)) := by
  subst hv
  have e10 : (nI cn = (10 : Int32)) = (cn = 10) := pu_eqI (b := 10) (by omega) (by omega)
  have hf := pu_m_fails (J := J) hM h9 2 p
  rw [show nI 2 = 2 from rfl] at hf
  have u16 : tb_up2 I 70 13 (nI (cn + 1)) 70 16 = nI L := by rw [pu_u2k _ _ _ _ (by decide)]; exact h16
  have v16 : tb_up2 (tb_up2 I 70 13 (nI (cn + 1))) 77 L (nI x) 70 16 = nI L := by rw [pu_u2p _ _ _ _ (by decide)]; exact u16
  unfold fb_m_opens
  simp only [pu_gI (pu_m70 hM), h13, Option.bind_some, e10, h8, pu_on (pu_m70 hM), hf, pu_R1, pu_pI (pu_m70 hM), pu_gN (pu_m70 hM), pu_r15 hM, u16, pu_tI (pu_m77 hM) hL (show 400 ≤ 100000 by omega), v16]
  by_cases y : cn < 10
  · rw [if_pos y, if_neg (by omega)]
  · rw [if_neg y, if_pos (by omega)]
    rfl
theorem pz_MW.push {I I' : Nat → Nat → Int32} {st : List Nat} {c c' : List (Nat × Nat)} {m m' : Nat} {r r' : List (Nat × Nat × Nat)} {e' e'' x : Nat} (hx : x = 11 ∨ x = 91) (h13 : I 70 13 = nI (pz_cn st)) (h10 : pz_cn st < 10) (hk : pz_skS (I 77) st) (nf : pu_Nf (tb_up2 (tb_up2 (tb_up2 I 70 13 (nI (pz_cn st + 1))) 77 st.length (nI x)) 70 16 (nI (st.length + 1))) I') (mz : pz_MZ I' b tl t B e'' (c', m', r', 0)) (le : e'' + 1 + st.length ≤ e) : pz_MW I' b tl t B e (x :: st) (c', m', r', 0) := by
  refine ⟨⟨e'', by rw [List.length_cons]; omega, mz⟩, ?_, ?_, ?_, ?_, by omega, ?_⟩
  · rw [nf.2 16 (by decide), pu_u2s]; rfl
  · rw [nf.2 13 (by decide), pu_u2k _ _ _ _ (by decide), pu_u2p _ _ _ _ (by decide), pu_u2s]
    show _ = nI (pz_cn st + (if x = 11 ∨ x = 91 then 1 else 0))
    rw [if_pos hx]
  · show pz_cn st + (if x = 11 ∨ x = 91 then 1 else 0) ≤ 10
    rw [if_pos hx]; omega
  · rw [nf.1 77 (by decide), pu_u2p _ _ _ _ (by decide), pu_u2s]
  · rw [nf.1 77 (by decide), pu_u2p _ _ _ _ (by decide)]
    exact pz_skS_eq st (fun k hk => by rw [pu_u2k _ _ _ _ (by omega), pu_u2p _ _ _ _ (by decide)]) hk
theorem pz_ft (h : List (Nat × Nat × Nat)) {p : Nat} {I : Nat → Nat → Int32} (a : pz_At I b tl p) (er : h = pu_tt b tl p) (why : Nat) : pu_ft h 0 why = 1 + 8 * p + why := by
  unfold pu_ft
  obtain ⟨t0, r1, et, tp, _⟩ := pu_hd a.2.1 a.2.2.1
  rw [if_pos rfl, er, et]
  dsimp only
  rw [tp]
/-- past a word -/
theorem pz_pass {I : Nat → Nat → Int32} {J : Nat → Nat → Int64} (hM : pu_M s R) {c : List (Nat × Nat)} {n : Nat} {r : List (Nat × Nat × Nat)} (h : pz_MZ I b tl t B (e + 1) (c, n, r, 0)) {p : Nat} (a : pz_At I b tl p) (er : r = pu_tt b tl p) (hk : 20 ≤ pu_hk r) : ∃ I', fb_m_passWord 70 (s, I, J, R) = some (s, I', J, R) ∧ pu_Nf I I' ∧ pz_MZ I' b tl t B e (c, n, r.tail, 0) := by
  obtain ⟨t0, r1, et, tp, tw⟩ := pu_hd a.2.1 a.2.2.1
  obtain ⟨⟨_, h9, _⟩, g2, g3, g4, g5, g6, g7⟩ := h.1 rfl
  have g7 : B + c.length + r.length ≤ e + 1 := g7
  have rr := er.trans et
  subst rr
  obtain ⟨_, e1⟩ := tw hk
  obtain ⟨I', c1, c2, c3⟩ := pu_m_pass (J := J) hM a.1 h9 a.2.1 a.2.2.2
  rw [← e1] at c3
  rw [List.length_cons] at g7
  exact ⟨I', c1, c2, h.mv (pu_Of.nf c2) c3 (by show B + c.length + r1.length ≤ e; omega)⟩
end PVB1
