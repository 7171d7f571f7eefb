/-! ===== pulled ===== -/
/-- the street as it was told, with another pull -/
def pu_tp1 (T : pu_A) (l p : Nat) : pu_A := pu_n T 5 l p
/-- whether a pull fits what was noted -/
def pu_pl (nn : Nat) (z : Nat → Nat × Nat × Nat) (ro : Option pu_Ru) (T : pu_A) (l k : Nat) : Bool := pu_sr nn z ro 61 0 (pu_tp1 T l (k + 1))
/-- how many, and the first, of those found among the first n -/
def pu_fst (f : Nat → Bool) (off : Int32) (n : Nat) : Int32 := if pu_ff f n 0 < n then nI (pu_ff f n 0) + off else -2
theorem pu_ff_s (f : Nat → Bool) : ∀ n i, pu_ff f (n + 1) i = if pu_ff f n i < i + n then pu_ff f n i else if f (i + n) then i + n else i + n + 1
  | 0, i => by
    show (if f i then i else i + 1) = _
    simp only [show pu_ff f 0 i = i from rfl, Nat.add_zero, Nat.lt_irrefl, ↓reduceIte]
  | n + 1, i => by
    show (if f i then i else pu_ff f (n + 1) (i + 1)) = _
    rw [show pu_ff f (n + 1) i = if f i then i else pu_ff f n (i + 1) from rfl]
    by_cases h : f i = true
    · rw [if_pos h, if_pos h, if_pos (by omega)]
    · rw [if_neg h, if_neg h, pu_ff_s f n (i + 1), show i + 1 + n = i + (n + 1) by omega]
theorem pu_ct_0 : ∀ n, pu_ct (fun _ => false) n = 0
  | 0 => rfl
  | n + 1 => by show pu_ct (fun _ => false) n + 0 = 0; rw [pu_ct_0 n]
theorem pu_fst_s (f : Nat → Bool) (off : Int32) (n : Nat) : pu_fst f off (n + 1) = if pu_ct f n = 0 ∧ f n = true then nI n + off else pu_fst f off n := by
  unfold pu_fst
  have hs := pu_ff_s f n 0
  rw [Nat.zero_add] at hs
  have hle := pu_ff_le f n 0
  by_cases h : pu_ff f n 0 < n
  · have hy := pu_ff_yes f n 0 (by omega)
    have hp := pu_ct_pos h hy
    rw [hs, if_pos h, if_pos (by omega), if_neg (by omega), if_pos h]
  · rw [if_neg h] at hs
    have h0 : pu_ct f n = 0 := by
      have : pu_ct f n = pu_ct (fun _ => false) n := pu_ct_cong n (fun k hk => pu_ff_no f n 0 k (Nat.zero_le _) (by omega))
      rw [this]
      exact pu_ct_0 n
    rw [hs, if_neg h]
    cases hf : f n
    · simp
    · simp [h0]
section PUN1
variable {s : List (Nat × Nat)} {R : Nat → Nat → Option Nat} {nn : Nat} {z : Nat → Nat × Nat × Nat} {ro : Option pu_Ru} {T : pu_A}
theorem pu_so_take {I : Nat → Nat → Int32} {J : Nat → Nat → Int64} (hX : pu_X s R) {m : Nat} (hm : m < 1000) (e : I 61 0 = nI m) (a : Int32) : ∃ I', fb_so_take 61 a (s, I, J, R) = some (s, I', J, R) ∧ I' 61 0 = nI (m + 1) ∧ I' 61 1 = (if m = 0 then a else I 61 1) ∧ (∀ q, q ≠ 61 → I' q = I q) := by
  have e0 : (nI m = (0 : Int32)) = (m = 0) := pu_eqI (b := 0) (by omega) (by omega)
  unfold fb_so_take
  simp only [pu_gI (pu_c61 hX), e, Option.bind_some, e0, pu_pI (pu_c61 hX), pu_R1]
  by_cases h : m = 0
  · have e1 : tb_up2 I 61 1 a 61 0 = nI m := by rw [pu_u2k _ _ _ _ (by decide)]; exact e
    simp only [h, ↓reduceIte]
    rw [h] at e1
    simp only [e1, pu_R1]
    exact ⟨_, rfl, pu_u2s _ _ _ _, by rw [pu_u2k _ _ _ _ (by decide), pu_u2s], fun q hq => by rw [pu_u2p _ _ _ _ hq, pu_u2p _ _ _ _ hq]⟩
  · simp only [h, ↓reduceIte]
    exact ⟨_, rfl, pu_u2s _ _ _ _, by rw [pu_u2k _ _ _ _ (by decide)], fun q hq => by rw [pu_u2p _ _ _ _ hq]⟩
theorem pu_tp1_wf (wf : pu_wf T) {l p : Nat} (hp : p ≤ 100) : pu_wf (pu_tp1 T l p) := by
  obtain ⟨w1, w2, w3, w4, w5, w6⟩ := wf
  refine ⟨w1, w2, w3, w4, fun k => ?_, w6⟩
  show tb_up2 T.1 5 l p 5 k ≤ 100
  rw [pu_u2i]
  split
  · exact hp
  · exact w5 k
theorem pu_so_pulls_l (hX : pu_X s R) {c : Option Nat} (wfT : pu_wf T) {l : Nat} (hl : l < T.1 0 3) (hz : pu_Nz nn z (2 * T.1 0 0)) : ∀ d k n I J, k + d = 40 → d < n → pu_V I 26 T → pu_Nc I nn z → pu_FC s I c ro → I 61 0 = nI (pu_ct (pu_pl nn z ro T l) k) → I 61 1 = pu_fst (pu_pl nn z ro T l) 1 k →
    ∃ I' J', fl_so_findPulls_4 n 61 18 c (nI l) (nI (k + 1)) (s, I, J, R) = some (s, I', J', R) ∧ I' 61 0 = nI (pu_ct (pu_pl nn z ro T l) 40) ∧ I' 61 1 = pu_fst (pu_pl nn z ro T l) 1 40 ∧ pu_Cf I I' J J' := by
  intro d
  induction d with
  | zero =>
    intro k n I J hk hn v hc hF e0 e1
    obtain ⟨n, rfl⟩ : ∃ z, n = z + 1 := ⟨n - 1, by omega⟩
    have hc40 : ¬ nI (k + 1) ≤ (40 : Int32) := by rw [show (40 : Int32) = nI 40 from rfl, pu_leI (by omega) (by omega)]; omega
    rw [fl_so_findPulls_4.eq_2]
    simp only [hc40, ↓reduceIte]
    rw [show k = 40 by omega] at e0 e1
    exact ⟨I, J, rfl, e0, e1, pu_Cf.rf⟩
  | succ d ih =>
    intro k n I J hk hn v hc hF e0 e1
    obtain ⟨n, rfl⟩ : ∃ z, n = z + 1 := ⟨n - 1, by omega⟩
    have hc40 : nI (k + 1) ≤ (40 : Int32) := by rw [show (40 : Int32) = nI 40 from rfl, pu_leI (by omega) (by omega)]; omega
    have hct := pu_ct_le (pu_pl nn z ro T l) k
    obtain ⟨I1, a1, a2, a3⟩ := pu_s_copyFrom (J := J) (pu_st62 hX) (pu_st26 hX) (by omega) v wfT
    have v2 : pu_V (tb_up2 I1 (62 + 5) l (nI (k + 1))) 62 (pu_tp1 T l (k + 1)) := pu_V_n5 a2
    have f2 : pu_Cf I (tb_up2 I1 (62 + 5) l (nI (k + 1))) J J := (pu_Cf.fr (by omega) (by omega) a3).tr (pu_Cf.u2 (by omega) (by omega))
    have lo : ∀ q, q < 43 → q ≠ 25 → q ≠ 40 → tb_up2 I1 (62 + 5) l (nI (k + 1)) q = I q := fun q h1 h2 h3 => f2.1 q h2 h3 (by omega)
    have hF2 : pu_FC s (tb_up2 I1 (62 + 5) l (nI (k + 1))) c ro := pu_FC_eq (fun q hq => f2.1 q (by omega) (by omega) (by omega)) hF
    have hc2 : pu_Nc (tb_up2 I1 (62 + 5) l (nI (k + 1))) nn z := pu_Nc_eq (fun q h1 h2 => lo q (by omega) (by omega) (by omega)) hc
    obtain ⟨I2, J2, b1, b2⟩ := pu_so_fits (J := J) hX v2 (pu_tp1_wf wfT (by omega)) hz hc2 hF2
    have f3 : pu_Cf I I2 J J2 := f2.tr (pu_Cf.yf (by omega) (by omega) b2)
    have e61 : I2 61 = I 61 := by rw [b2.1 61 (by omega) (by omega), pu_u2p _ _ _ _ (by omega), a3 61 (by omega)]
    have v3 : pu_V I2 26 T := pu_V_eq (fun i hi => f3.1 _ (by omega) (by omega) (by omega)) v
    have hc3 : pu_Nc I2 nn z := pu_Nc_eq (fun q h1 h2 => f3.1 q (by omega) (by omega) (by omega)) hc
    have hF3 : pu_FC s I2 c ro := pu_FC_eq (fun q hq => f3.1 q (by omega) (by omega) (by omega)) hF
    have ects : pu_ct (pu_pl nn z ro T l) (k + 1) = pu_ct (pu_pl nn z ro T l) k + (if pu_pl nn z ro T l k = true then 1 else 0) := rfl
    have efs := pu_fst_s (pu_pl nn z ro T l) 1 k
    rw [fl_so_findPulls_4.eq_2]
    simp only [hc40, ↓reduceIte, pu_gN (pu_c61 hX), pu_f61_3 hX, pu_gN (pu_c18 hX), pu_f18_1 hX, pu_f18_2 hX, Option.bind_some, pu_on (pu_c62 hX), a1, pu_s_setPull (pu_st62 hX) a2 wfT hl, pu_on (pu_c61 hX), b1, pu_b0]
    rw [show pu_sr nn z ro 61 0 (pu_tp1 T l (k + 1)) = pu_pl nn z ro T l k from rfl]
    cases hp : pu_pl nn z ro T l k
    · rw [hp, if_neg (by decide), Nat.add_zero] at ects
      rw [hp, if_neg (by simp)] at efs
      rw [if_pos rfl, ← nI_succ]
      obtain ⟨I', J', c1, c2, c3, c4⟩ := ih (k + 1) n I2 J2 (by omega) (by omega) v3 hc3 hF3 (by rw [e61, ects]; exact e0) (by rw [e61, efs]; exact e1)
      exact ⟨I', J', c1, c2, c3, f3.tr c4⟩
    · rw [hp, if_pos rfl] at ects
      obtain ⟨I3, d1, d2, d3, d4⟩ := pu_so_take (I := I2) (J := J2) hX (m := pu_ct (pu_pl nn z ro T l) k) (by omega) (by rw [e61]; exact e0) (nI (k + 1))
      rw [if_neg (by decide)]
      simp only [d1, Option.bind_some]
      rw [← nI_succ]
      have f4 : pu_Cf I I3 J J2 := f3.tr ⟨fun q h1 h2 h3 => d4 q (by omega), fun _ _ => rfl⟩
      obtain ⟨I', J', c1, c2, c3, c4⟩ := ih (k + 1) n I3 J2 (by omega) (by omega) (pu_V_eq (fun i hi => d4 _ (by omega)) v3) (pu_Nc_eq (fun q h1 h2 => d4 q (by omega)) hc3) (pu_FC_eq (fun q hq => d4 q (by omega)) hF3) (by rw [d2, ects]) (by
        rw [d3, efs, e61, e1, hp]
        by_cases h0 : pu_ct (pu_pl nn z ro T l) k = 0
        · rw [if_pos h0, if_pos ⟨h0, rfl⟩, pu_R1]
        · rw [if_neg h0, if_neg (by simp [h0])])
      exact ⟨I', J', c1, c2, c3, f4.tr c4⟩
theorem pu_so_findPulls {I : Nat → Nat → Int32} {J : Nat → Nat → Int64} (hX : pu_X s R) {c : Option Nat} (v : pu_V I 26 T) (wfT : pu_wf T) {l : Nat} (hl : l < T.1 0 3) (hz : pu_Nz nn z (2 * T.1 0 0)) (hc : pu_Nc I nn z) (hF : pu_FC s I c ro) : ∃ I' J', fb_so_findPulls 61 18 c (nI l) (s, I, J, R) = some (s, I', J', R) ∧ I' 61 0 = nI (pu_ct (pu_pl nn z ro T l) 40) ∧ I' 61 1 = pu_fst (pu_pl nn z ro T l) 1 40 ∧ pu_Cf I I' J J' := by
  have o : ∀ q, q ≠ 61 → tb_up2 (tb_up2 I 61 0 0) 61 1 (-2) q = I q := fun q hq => by rw [pu_u2p _ _ _ _ hq, pu_u2p _ _ _ _ hq]
  obtain ⟨I', J', a1, a2, a3, a4⟩ := pu_so_pulls_l hX wfT hl hz 40 0 1048576 (tb_up2 (tb_up2 I 61 0 0) 61 1 (-2)) J (by omega) (by omega) (pu_V_eq (fun i hi => o _ (by omega)) v) (pu_Nc_eq (fun q h1 h2 => o q (by omega)) hc) (pu_FC_eq (fun q hq => o q (by omega)) hF) (by rw [pu_u2k _ _ _ _ (by decide), pu_u2s]; rfl) (by rw [pu_u2s]; rfl)
  rw [show nI (0 + 1) = 1 from rfl] at a1
  refine ⟨I', J', ?_, a2, a3, ((pu_Cf.u2 (by omega) (by omega)).tr (pu_Cf.u2 (by omega) (by omega))).tr a4⟩
  unfold fb_so_findPulls
  simp only [pu_on (pu_c61 hX), fb_so_forget, pu_pI (pu_c61 hX), Option.bind_some, a1]
end PUN1
/-! the reference -/
def pu_cr (f : Nat → Bool) : Nat → Nat → Nat
  | 0, _ => 0
  | d + 1, i => pu_cr f d (i + 1) + (if f i = true then 1 else 0)
theorem pu_cr_ct (f : Nat → Bool) : ∀ d i, pu_cr f d i + pu_ct f i = pu_ct f (i + d)
  | 0, i => by show 0 + pu_ct f i = _; rw [Nat.zero_add]; rfl
  | d + 1, i => by
    have h := pu_cr_ct f d (i + 1)
    rw [show i + 1 + d = i + (d + 1) by omega] at h
    rw [← h]
    show pu_cr f d (i + 1) + (if f i = true then 1 else 0) + pu_ct f i = pu_cr f d (i + 1) + (pu_ct f i + (if f i = true then 1 else 0))
    omega
def pu_Ac (cl : Nat) (I I' : Nat → Nat → Int32) (J J' : Nat → Nat → Int64) : Prop := (∀ q, q ≠ 70 → q ≠ 80 → q ≠ 87 → I' q = I q) ∧ (∀ k, k ≠ 18 → I' 70 k = I 70 k) ∧ (∀ k, k < 10 ∨ 74 ≤ k → k ≠ cl → I' 80 k = I 80 k) ∧ (∀ q, q ≠ 78 → q ≠ 79 → J' q = J q)
theorem pu_Ac.rf {cl : Nat} {I : Nat → Nat → Int32} {J : Nat → Nat → Int64} : pu_Ac cl I I J J := ⟨fun _ _ _ _ => rfl, fun _ _ => rfl, fun _ _ _ => rfl, fun _ _ _ => rfl⟩
theorem pu_Ac.tr {cl : Nat} {I I' I2 : Nat → Nat → Int32} {J J' J2 : Nat → Nat → Int64} (a : pu_Ac cl I I' J J') (b : pu_Ac cl I' I2 J' J2) : pu_Ac cl I I2 J J2 := ⟨fun q h1 h2 h3 => (b.1 q h1 h2 h3).trans (a.1 q h1 h2 h3), fun k h => (b.2.1 k h).trans (a.2.1 k h), fun k h h2 => (b.2.2.1 k h h2).trans (a.2.2.1 k h h2), fun q h1 h2 => (b.2.2.2 q h1 h2).trans (a.2.2.2 q h1 h2)⟩
theorem pu_Ac.mf {cl : Nat} {I I' : Nat → Nat → Int32} {J : Nat → Nat → Int64} (a : pu_Mf I I') : pu_Ac cl I I' J J := ⟨fun q _ h2 _ => a.1 q h2, fun k _ => by rw [a.1 70 (by decide)], fun k h _ => a.2 k h, fun _ _ _ => rfl⟩
theorem pu_Ac.af {cl r : Nat} {I I' : Nat → Nat → Int32} {J J' : Nat → Nat → Int64} (a : pu_Af r I I' J J') : pu_Ac cl I I' J J' := ⟨a.1, a.2.1, fun k h _ => a.2.2.1 k h, a.2.2.2.1⟩
section PUN2
variable {s : List (Nat × Nat)} {R : Nat → Nat → Option Nat} {nn : Nat} {z : Nat → Nat × Nat × Nat} {ro : Option pu_Ru} {T : pu_A}
theorem pu_FM_ac {cl : Nat} {I I' : Nat → Nat → Int32} {J J' : Nat → Nat → Int64} (f : pu_Ac cl I I' J J') (h : pu_FM I ro) : pu_FM I' ro := by
  cases ro with
  | none => exact (f.2.1 21 (by decide)).trans h
  | some ru =>
    obtain ⟨r, a, b, c, d, e, g⟩ := h
    refine ⟨r, a, (f.2.1 21 (by decide)).trans b, c, ?_, ?_, g⟩
    · rw [f.1 75 (by decide) (by decide) (by decide)]; exact d
    · rw [f.1 72 (by decide) (by decide) (by decide), f.1 74 (by decide) (by decide) (by decide)]; exact e
theorem pu_TM_n {f g : Nat → Int32} (wf : pu_wf T) {l p : Nat} (hl : l < T.1 0 3) (t : pu_TM f T) (e : ∀ k, k < 10 ∨ 74 ≤ k → k ≠ 94 + 3 * l + 2 → g k = f k) (ec : g (94 + 3 * l + 2) = nI p) : pu_TM g (pu_tp1 T l p) := by
  have h8 := wf.2.2.1
  obtain ⟨⟨t0, t1, t2, t3, ty⟩, tb, tl, tu, ts⟩ := t
  refine ⟨⟨by rw [e 0 (by omega) (by omega)]; exact t0, by rw [e 1 (by omega) (by omega)]; exact t1, by rw [e 2 (by omega) (by omega)]; exact t2, by rw [e 3 (by omega) (by omega)]; exact t3, ty⟩, fun h hh => ?_, fun k hk => ?_, tu, ts⟩
  · rw [e (74 + h) (by omega) (by omega), e (84 + h) (by omega) (by omega)]; exact tb h hh
  · have hk : k < T.1 0 3 := hk
    obtain ⟨b1, b2, b3⟩ := tl k hk
    refine ⟨by rw [e (94 + 3 * k) (by omega) (by omega)]; exact b1, by rw [e (94 + 3 * k + 1) (by omega) (by omega)]; exact b2, ?_⟩
    show g (94 + 3 * k + 2) = nI (tb_up2 T.1 5 l p 5 k)
    by_cases hkl : k = l
    · subst hkl; rw [pu_u2s]; exact ec
    · rw [pu_u2k _ _ _ _ hkl, e (94 + 3 * k + 2) (by omega) (by omega)]; exact b3
theorem pu_m_pulls_l {I0 : Nat → Nat → Int32} {J0 : Nat → Nat → Int64} (hM : pu_M s R) (wfT : pu_wf T) {l : Nat} (hl : l < T.1 0 3) (hz : pu_Nz nn z (2 * T.1 0 0)) (tm : pu_TM (I0 80) T) (hc : pu_Nm (I0 80) nn z) (hF : pu_FM I0 ro) (v2 v4 : Int32) : ∀ k n I J, k ≤ 40 → k < n → pu_Ac (94 + 3 * l + 2) I0 I J0 J →
    ∃ I' J', fl_m_pulled_37 n 70 v2 (nI (94 + 3 * l + 2)) v4 (nI (pu_cr (pu_pl nn z ro T l) (40 - k) k)) (if pu_ff (pu_pl nn z ro T l) (40 - k) k < 40 then nI (pu_ff (pu_pl nn z ro T l) (40 - k) k) + 1 else -2) (nI k) (s, I, J, R) = some (70, v2, nI (94 + 3 * l + 2), v4, nI (pu_ct (pu_pl nn z ro T l) 40), pu_fst (pu_pl nn z ro T l) 1 40, (s, I', J', R)) ∧ pu_Ac (94 + 3 * l + 2) I0 I' J0 J' := by
  have h8 := wfT.2.2.1
  intro k
  induction k with
  | zero =>
    intro n I J hk hn a
    obtain ⟨n, rfl⟩ : ∃ z, n = z + 1 := ⟨n - 1, by omega⟩
    refine ⟨I, J, ?_, a⟩
    have e := pu_cr_ct (pu_pl nn z ro T l) 40 0
    rw [show pu_ct (pu_pl nn z ro T l) 0 = 0 from rfl, Nat.add_zero, Nat.zero_add] at e
    rw [fl_m_pulled_37.eq_2, if_neg (by decide), Nat.sub_zero, e]
    rfl
  | succ k ih =>
    intro n I J hk hn a
    obtain ⟨n, rfl⟩ : ∃ z, n = z + 1 := ⟨n - 1, by omega⟩
    have hpos : (0 : Int32) < nI (k + 1) := by rw [show (0 : Int32) = nI 0 from rfl, pu_ltI (by omega) (by omega)]; omega
    have a1 : pu_Ac (94 + 3 * l + 2) I (tb_up2 I 80 (94 + 3 * l + 2) (nI (k + 1))) J J := ⟨fun q _ h2 _ => pu_u2p _ _ _ _ h2, fun k _ => by rw [pu_u2p _ _ _ _ (by decide)], fun k _ h2 => pu_u2k _ _ _ _ h2, fun _ _ _ => rfl⟩
    have b := a.tr a1
    have tm1 : pu_TM (tb_up2 I 80 (94 + 3 * l + 2) (nI (k + 1)) 80) (pu_tp1 T l (k + 1)) := pu_TM_n wfT hl tm (fun q h1 h2 => b.2.2.1 q h1 h2) (pu_u2s _ _ _ _)
    have wf1 := pu_tp1_wf (l := l) wfT (show k + 1 ≤ 100 by omega)
    obtain ⟨I1, c1, c2, c3⟩ := pu_m_begins (J := J) hM tm1 wf1
    have d := b.tr (pu_Ac.mf (J := J) c3)
    obtain ⟨I2, J2, e1, _, e3⟩ := pu_m_areAllSo (nn := nn) (z := z) (J := J) hM (r := 0) (by omega) (-1) c2 wf1 hz (pu_Nm_eq hz.1 (fun q hq => d.2.2.1 q (by omega) (by omega)) hc) (pu_FM_ac d hF)
    rw [show nI 0 = 0 from rfl] at e1
    have f := d.tr (pu_Ac.af e3)
    obtain ⟨I', J', g1, g2⟩ := ih n I2 J2 (by omega) (by omega) f
    refine ⟨I', J', ?_, g2⟩
    have hs : pu_cr (pu_pl nn z ro T l) (40 - k) k = pu_cr (pu_pl nn z ro T l) (40 - (k + 1)) (k + 1) + (if pu_pl nn z ro T l k = true then 1 else 0) := by rw [show 40 - k = (40 - (k + 1)) + 1 by omega]; rfl
    have hf : pu_ff (pu_pl nn z ro T l) (40 - k) k = if pu_pl nn z ro T l k then k else pu_ff (pu_pl nn z ro T l) (40 - (k + 1)) (k + 1) := by rw [show 40 - k = (40 - (k + 1)) + 1 by omega]; rfl
    rw [hs, hf] at g1
    rw [fl_m_pulled_37.eq_2]
    simp only [hpos, ↓reduceIte, pu_gN (pu_m70 hM), pu_r20 hM, Option.bind_some, pu_tI (pu_m80 hM) (show 94 + 3 * l + 2 < 149 by omega) (show 149 ≤ 100000 by omega), pu_on (pu_m70 hM), c1, e1, pu_b0]
    rw [show nI (k + 1) + (-1) = nI k by rw [show nI (k + 1) + (-1) = nI (k + 1) - 1 by rw [Int32.sub_eq_add_neg], nI_pred]]
    rw [show pu_sr nn z ro 61 0 (pu_tp1 T l (k + 1)) = pu_pl nn z ro T l k from rfl]
    cases hp : pu_pl nn z ro T l k
    · simp only [hp, Bool.false_eq_true, ↓reduceIte, Nat.add_zero] at g1
      rw [if_pos rfl]
      exact g1
    · rw [hp, if_pos rfl, if_pos rfl, if_pos (by omega)] at g1
      rw [if_neg (by decide), pu_R1, nI_succ k]
      exact g1
/-- what pulled(a, b) answers -/
def pu_a_pulled (nn : Nat) (z : Nat → Nat × Nat × Nat) (ro : Option pu_Ru) (T : pu_A) (a b : Int32) : Int32 := if (!decide (a < 0) && decide (a < nI (T.1 0 3))) = false then -1 else if pu_wi b 0 1 = false then -1 else if b = 0 then nI (pu_ct (pu_pl nn z ro T a.toNatClampNeg) 40) else pu_fst (pu_pl nn z ro T a.toNatClampNeg) 1 40
theorem pu_m_pulled {I : Nat → Nat → Int32} {J : Nat → Nat → Int64} (hM : pu_M s R) (wfT : pu_wf T) (hz : pu_Nz nn z (2 * T.1 0 0)) (tm : pu_TM (I 80) T) (hc : pu_Nm (I 80) nn z) (hF : pu_FM I ro) (a b : Int32) : ∃ I' J', fb_m_pulled 70 a b (s, I, J, R) = some (pu_a_pulled nn z ro T a b, (s, I', J', R)) ∧ pu_Zf I I' J J' := by
  have h8 := wfT.2.2.1
  unfold fb_m_pulled pu_a_pulled
  by_cases ha : a < 0
  · simp only [ha, ↓reduceIte, decide_true, Bool.not_true, Bool.false_and]
    exact ⟨I, J, rfl, pu_Zf.rf⟩
  · simp only [ha, ↓reduceIte, pu_gN (pu_m70 hM), pu_r20 hM, Option.bind_some, pu_cell' hM (show (3 : Int32) = nI 3 from rfl) (show 3 < 149 by omega), tm.1.2.2.2.1, decide_false, Bool.not_false, Bool.true_and]
    by_cases hl : a < nI (T.1 0 3)
    · simp only [hl, ↓reduceIte, decide_true, Bool.true_eq_false, pu_m_in b 0 1 (show (0 : Int64) = (0 : Int32).toInt64 from rfl) (show (1 : Int64) = (1 : Int32).toInt64 from rfl), Option.bind_some, pu_b0]
      cases hw : pu_wi b 0 1
      · simp only [↓reduceIte]
        exact ⟨I, J, rfl, pu_Zf.rf⟩
      · obtain ⟨l, hl0, rfl⟩ := nI_of ha
        rw [pu_ltI (by omega) (by omega)] at hl
        have ic : (94 : Int32) + 3 * nI l + 2 = nI (94 + 3 * l + 2) := by rw [pu_M3, pu_L94, pu_R2]
        obtain ⟨I1, a1, a2, a3⟩ := pu_m_keeps (I := I) (J := J) hM
        have e80 : I1 80 = I 80 := a3 80 (by decide)
        have hF1 : pu_FM I1 ro := by
          cases ro with
          | none => show I1 70 21 = -1; rw [a3 70 (by decide)]; exact hF
          | some ru =>
            obtain ⟨r, c1, c2, c3, c4, c5, c6⟩ := hF
            exact ⟨r, c1, by rw [a3 70 (by decide)]; exact c2, c3, by rw [a3 75 (by decide)]; exact c4, by rw [a3 72 (by decide), a3 74 (by decide)]; exact c5, c6⟩
        obtain ⟨I2, J2, b1, b2⟩ := pu_m_pulls_l (I0 := I1) (J0 := J) hM wfT hl hz (by rw [e80]; exact tm) (by rw [e80]; exact hc) hF1 b (I 80 (94 + 3 * l + 2)) 40 1048576 I1 J (by omega) (by omega) pu_Ac.rf
        rw [show nI (pu_cr (pu_pl nn z ro T l) (40 - 40) 40) = 0 from rfl, show (if pu_ff (pu_pl nn z ro T l) (40 - 40) 40 < 40 then nI (pu_ff (pu_pl nn z ro T l) (40 - 40) 40) + 1 else -2) = (-2 : Int32) from rfl, show nI 40 = 40 from rfl] at b1
        have f : pu_Tf I (tb_up2 I2 80 (94 + 3 * l + 2) (I 80 (94 + 3 * l + 2))) J J2 := by
          refine ⟨fun q h1 h2 h3 => ?_, fun k hk => ?_, fun k hk => ?_, fun q _ h2 h3 => b2.2.2.2 q h2 h3⟩
          · rw [pu_u2p _ _ _ _ h2, b2.1 q h1 h2 (by omega), a3 q (by omega)]
          · rw [pu_u2p _ _ _ _ (by decide), b2.2.1 k hk, a3 70 (by decide)]
          · rw [pu_u2i]
            by_cases hkc : k = 94 + 3 * l + 2
            · rw [if_pos hkc, hkc]
            · rw [if_neg hkc, b2.2.2.1 k hk hkc, e80]
        obtain ⟨I3, c1, c2, _⟩ := pu_m_laysBack2 (J := J2) (I := tb_up2 I2 80 (94 + 3 * l + 2) (I 80 (94 + 3 * l + 2))) hM (fun k hk => by rw [pu_u2p _ _ _ _ (by decide), b2.1 82 (by decide) (by decide) (by decide), a2 k hk]) f
        refine ⟨I3, J2, ?_, c2⟩
        simp only [Bool.true_eq_false, ↓reduceIte, ic, pu_gN (pu_m70 hM), pu_r20 hM, Option.bind_some, pu_cell hM (show 94 + 3 * l + 2 < 149 by omega), pu_on (pu_m70 hM), a1, b1, pu_tI (pu_m80 hM) (show 94 + 3 * l + 2 < 149 by omega) (show 149 ≤ 100000 by omega), c1, pu_cl (show l < 2147483648 by omega), pu_its]
    · simp only [hl, ↓reduceIte, decide_false]
      exact ⟨I, J, rfl, pu_Zf.rf⟩
theorem pu_x_pulled {I : Nat → Nat → Int32} {J : Nat → Nat → Int64} (hX : pu_X s R) (v : pu_V I 26 T) (wfT : pu_wf T) (hz : pu_Nz nn z (2 * T.1 0 0)) (hc : pu_Nc I nn z) (hF : pu_FX s I R ro) (a b : Int32) : ∃ I' J', fb_x_pulled 1 a b (s, I, J, R) = some (pu_a_pulled nn z ro T a b, (s, I', J', R)) ∧ pu_Cf I I' J J' := by
  have h8 := wfT.2.2.1
  have hil : fb_s_isLine 26 a (s, I, J, R) = some (pu_b (!decide (a < 0) && decide (a < nI (T.1 0 3))), (s, I, J, R)) := by
    by_cases ha : a < 0
    · rw [pu_s_isLine_neg ha, decide_eq_true ha]; rfl
    · obtain ⟨n, hn, rfl⟩ := nI_of ha
      rw [pu_s_isLine (pu_st26 hX) v wfT (by omega), decide_eq_false ha]
      simp only [pu_ltI (show n < 2147483648 by omega) (show T.1 0 3 < 2147483648 by omega)]
      rfl
  unfold fb_x_pulled pu_a_pulled
  simp only [pu_gN (pu_c1 hX), pu_f1_5 hX, Option.bind_some, pu_gN (pu_c18 hX), pu_f18_1 hX, pu_on (pu_c26 hX), hil, pu_b0]
  cases hi : (!decide (a < 0) && decide (a < nI (T.1 0 3)))
  · simp only [↓reduceIte]
    exact ⟨I, J, rfl, pu_Cf.rf⟩
  · simp only [Bool.true_eq_false, ↓reduceIte, pu_x_within, Option.bind_some, pu_b0]
    cases hw : pu_wi b 0 1
    · simp only [↓reduceIte]
      exact ⟨I, J, rfl, pu_Cf.rf⟩
    · rw [Bool.and_eq_true, Bool.not_eq_true', decide_eq_false_iff_not, decide_eq_true_eq] at hi
      obtain ⟨l, hl0, rfl⟩ := nI_of hi.1
      rw [pu_ltI (by omega) (by omega)] at hi
      obtain ⟨c, c1, c2⟩ := pu_x_ruleInForce (J := J) hX hF
      obtain ⟨I1, J1, a1, a2, a3, a4⟩ := pu_so_findPulls (J := J) hX v wfT hi.2 hz hc c2
      refine ⟨I1, J1, ?_, a4⟩
      simp only [Bool.true_eq_false, ↓reduceIte, pu_gN (pu_c1 hX), pu_f1_11 hX, pu_f1_5 hX, Option.bind_some, pu_on (pu_c1 hX), c1, pu_on (pu_c61 hX), a1, pu_gI (pu_c61 hX), a2, a3, pu_cl (show l < 2147483648 by omega), pu_its]
end PUN2
theorem pu_k_pulled {N : Nat} {xs : Nat → Int32} (a b : Int32) : pu_Step N xs (fb_x_pulled 1 a b) (fb_m_pulled 70 a b) := pu_ask (fun s I J R own A T nn L j tl rs H ro hx hm => by
  obtain ⟨z, hz, hc, hc2⟩ := pu_NT_z H.nt
  have e0 : A.1 0 0 = T.1 0 0 := H.2.1.1.2.2.1
  rw [e0] at hz
  refine ⟨pu_a_pulled nn z ro T a b, pu_x_pulled H.hX H.vt H.2.1.1.2.1.1 hz hc hx a b, fun I1 J1 e H1 hm1 => pu_m_pulled H1.hM H1.2.1.1.2.1.1 hz H1.tm ?_ hm1 a b⟩
  rw [e.1 80 (by decide) (by decide) (by omega)]
  exact hc2)
