/-! ===== Whether all notes are so: fits, areAllSo ===== -/
section PUM1
variable {s : List (Nat × Nat)} {R : Nat → Nat → Option Nat} {nn : Nat} {z : Nat → Nat × Nat × Nat} {ro : Option pu_Ru}
theorem pu_Nc_eq {I I' : Nat → Nat → Int32} (h : ∀ q, 33 ≤ q → q ≤ 36 → I' q = I q) (hc : pu_Nc I nn z) : pu_Nc I' nn z := by
  obtain ⟨h1, h2⟩ := hc
  refine ⟨by rw [h 33 (by omega) (by omega)]; exact h1, fun i hi => ?_⟩
  rw [h 34 (by omega) (by omega), h 35 (by omega) (by omega), h 36 (by omega) (by omega)]; exact h2 i hi
theorem pu_Nm_eq {f g : Nat → Int32} (hn : nn ≤ 10) (h : ∀ k, 118 ≤ k → g k = f k) (hc : pu_Nm f nn z) : pu_Nm g nn z := by
  obtain ⟨h1, h2⟩ := hc
  refine ⟨by rw [h 148 (by omega)]; exact h1, fun i hi => ?_⟩
  rw [h _ (by omega), h _ (by omega), h _ (by omega)]; exact h2 i hi
theorem pu_so_fits_l (hX : pu_X s R) {c : Option Nat} : ∀ d y n I J B, y + d = pu_lm z nn → y ≤ 61 → pu_lm z nn ≤ 61 → d < n → pu_V I 62 B → pu_wf B → pu_Nz nn z (2 * B.1 0 0) → pu_Nc I nn z → pu_FC s I c ro →
    ∃ I' J', fl_so_fits_5 n 61 33 c (nI (pu_lm z nn) - 1) (nI y) (s, I, J, R) = some (pu_b (pu_sr nn z ro d y B), (s, I', J', R)) ∧ pu_Yf 62 I I' J J' := by
  intro d
  induction d with
  | zero =>
    intro y n I J B hy hy2 hl hn v wf hz hc hF
    obtain ⟨n, rfl⟩ : ∃ z, n = z + 1 := ⟨n - 1, by omega⟩
    rw [fl_so_fits_5.eq_2]
    simp only [pu_lepred (show y < 1000 by omega) (show pu_lm z nn < 1000 by omega), show ¬ y < pu_lm z nn by omega, ↓reduceIte, fj_so_fits_j25]
    exact ⟨I, J, rfl, pu_Yf.rf⟩
  | succ d ih =>
    intro y n I J B hy hy2 hl hn v wf hz hc hF
    obtain ⟨n, rfl⟩ : ∃ z, n = z + 1 := ⟨n - 1, by omega⟩
    obtain ⟨I1, J1, a1, a2, a3⟩ := pu_jg_passYear (J := J) (pu_jg hX) (pu_st62 hX) (by omega) v wf hF
    have wf1 := pu_year_wf (ro := ro) wf
    have hz1 : pu_Nz nn z (2 * (pu_year ro B).1 0 0) := by rw [pu_year_r 0 0 (by decide) (fun _ => by decide)]; exact hz
    have hc1 : pu_Nc I1 nn z := pu_Nc_eq (fun q h1 h2 => a3.1 q (by omega) (by omega)) hc
    rw [fl_so_fits_5.eq_2]
    simp only [pu_lepred (show y < 1000 by omega) (show pu_lm z nn < 1000 by omega), show y < pu_lm z nn by omega, ↓reduceIte, pu_gN (pu_c61 hX), pu_f61_2 hX, pu_f61_3 hX, Option.bind_some, pu_on (pu_c40 hX), a1, pu_on (pu_c33 hX), pu_n_fit hX a2 wf1 hz1 hc1 (show y ≤ 100 by omega), pu_b0]
    rw [← nI_succ]
    show ∃ I' J', _ = some (pu_b (pu_nso nn z (pu_year ro B) y && pu_sr nn z ro d (y + 1) (pu_year ro B)), _) ∧ _
    cases hs : pu_nso nn z (pu_year ro B) y
    · rw [if_pos rfl]
      exact ⟨I1, J1, rfl, a3⟩
    · rw [if_neg (by decide), Bool.true_and]
      obtain ⟨I', J', b1, b2⟩ := ih (y + 1) n I1 J1 (pu_year ro B) (by omega) (by omega) hl (by omega) a2 wf1 hz1 hc1 (pu_FC_eq (fun q hq => a3.1 q (by omega) (by omega)) hF)
      exact ⟨I', J', b1, a3.tr b2⟩
theorem pu_so_fits {I : Nat → Nat → Int32} {J : Nat → Nat → Int64} {B : pu_A} (hX : pu_X s R) {c : Option Nat} (v : pu_V I 62 B) (wf : pu_wf B) (hz : pu_Nz nn z (2 * B.1 0 0)) (hc : pu_Nc I nn z) (hF : pu_FC s I c ro) :
    ∃ I' J', fb_so_fits 61 33 c (s, I, J, R) = some (pu_b (pu_sr nn z ro 61 0 B), (s, I', J', R)) ∧ pu_Yf 62 I I' J J' := by
  have hl := pu_lm_le (z := z) nn (fun i hi => (hz.2 i hi).1)
  obtain ⟨I', J', a1, a2⟩ := pu_so_fits_l hX (pu_lm z nn) 0 1048576 I J B (by omega) (by omega) hl (by omega) v wf hz hc hF
  rw [show nI 0 = 0 from rfl] at a1
  have e : pu_sr nn z ro 61 0 B = pu_sr nn z ro (pu_lm z nn) 0 B := by
    have := pu_sr_more (nn := nn) (z := z) (ro := ro) (pu_lm z nn) (61 - pu_lm z nn) 0 B (by omega)
    rw [show pu_lm z nn + (61 - pu_lm z nn) = 61 by omega] at this
    exact this
  refine ⟨I', J', ?_, a2⟩
  unfold fb_so_fits
  simp only [pu_on (pu_c33 hX), pu_n_lastYear hX hz hc, Option.bind_some, a1, e]
/-- what stands behind year t, if that is not gone by yet -/
def pu_stn (ro : Option pu_Ru) (t : Int32) (y : Nat) (B : pu_A) (old : Int32) : Nat → Int32
  | 0 => old
  | d + 1 => pu_stn ro t (y + 1) (pu_year ro B) (if nI y = t then pu_mk ((pu_year ro B).2 1) 10 else old) d
/-- the frame: the row's state, the reference's heap, and what stood then -/
def pu_Af (r : Nat) (I I' : Nat → Nat → Int32) (J J' : Nat → Nat → Int64) : Prop := (∀ q, q ≠ 70 → q ≠ 80 → q ≠ 87 → I' q = I q) ∧ (∀ k, k ≠ 18 → I' 70 k = I 70 k) ∧ (∀ k, k < 10 ∨ 74 ≤ k → I' 80 k = I 80 k) ∧ (∀ q, q ≠ 78 → q ≠ 79 → J' q = J q) ∧ (∀ k, k ≠ r → I' 87 k = I 87 k)
theorem pu_Af.rf {r : Nat} {I : Nat → Nat → Int32} {J : Nat → Nat → Int64} : pu_Af r I I J J := ⟨fun _ _ _ _ => rfl, fun _ _ => rfl, fun _ _ => rfl, fun _ _ _ => rfl, fun _ _ => rfl⟩
theorem pu_Af.tr {r : Nat} {I I' I2 : Nat → Nat → Int32} {J J' J2 : Nat → Nat → Int64} (a : pu_Af r I I' J J') (b : pu_Af r I' I2 J' J2) : pu_Af r I I2 J J2 := ⟨fun q h1 h2 h3 => (b.1 q h1 h2 h3).trans (a.1 q h1 h2 h3), fun k h => (b.2.1 k h).trans (a.2.1 k h), fun k h => (b.2.2.1 k h).trans (a.2.2.1 k h), fun q h1 h2 => (b.2.2.2.1 q h1 h2).trans (a.2.2.2.1 q h1 h2), fun k h => (b.2.2.2.2 k h).trans (a.2.2.2.2 k h)⟩
theorem pu_Af.pf {r : Nat} {I I' : Nat → Nat → Int32} {J J' : Nat → Nat → Int64} (a : pu_Pf I I' J J') : pu_Af r I I' J J' := ⟨fun q h1 h2 _ => a.1 q h1 h2, a.2.1, a.2.2.1, a.2.2.2, fun k _ => congrFun (a.1 87 (by decide) (by decide)) k⟩
theorem pu_FM_af {r : Nat} {I I' : Nat → Nat → Int32} {J J' : Nat → Nat → Int64} (f : pu_Af r I I' J J') (h : pu_FM I ro) : pu_FM I' ro := by
  cases ro with
  | none => exact (f.2.1 21 (by decide)).trans h
  | some ru =>
    obtain ⟨r, a, b, c, d, e, g⟩ := h
    refine ⟨r, a, (f.2.1 21 (by decide)).trans b, c, ?_, ?_, g⟩
    · rw [f.1 75 (by decide) (by decide) (by decide)]; exact d
    · rw [f.1 72 (by decide) (by decide) (by decide), f.1 74 (by decide) (by decide) (by decide)]; exact e
theorem pu_m_allSo_l (hM : pu_M s R) {r : Nat} (hr : r < 7) (t : Int32) : ∀ d y n I J B is, y + d = 61 → d < n → pu_Q (I 80) B → pu_wf B → pu_Nz nn z (2 * B.1 0 0) → pu_Nm (I 80) nn z → pu_FM I ro →
    ∃ I' J', fl_m_areAllSo_4 n 70 (nI r) t (pu_b is) (nI y) (s, I, J, R) = some (pu_b (is && pu_sr nn z ro d y B), (s, I', J', R)) ∧ I' 87 r = pu_stn ro t y B (I 87 r) d ∧ pu_Af r I I' J J' := by
  intro d
  induction d with
  | zero =>
    intro y n I J B is hy hn q wf hz hc hF
    obtain ⟨n, rfl⟩ : ∃ z, n = z + 1 := ⟨n - 1, by omega⟩
    have hc60 : ¬ nI y ≤ (60 : Int32) := by rw [show (60 : Int32) = nI 60 from rfl, pu_leI (by omega) (by omega)]; omega
    rw [fl_m_areAllSo_4.eq_2]
    simp only [hc60, ↓reduceIte]
    exact ⟨I, J, by rw [show pu_sr nn z ro 0 y B = true from rfl, Bool.and_true], rfl, pu_Af.rf⟩
  | succ d ih =>
    intro y n I J B is hy hn q wf hz hc hF
    obtain ⟨n, rfl⟩ : ∃ z, n = z + 1 := ⟨n - 1, by omega⟩
    have hc60 : nI y ≤ (60 : Int32) := by rw [show (60 : Int32) = nI 60 from rfl, pu_leI (by omega) (by omega)]; omega
    obtain ⟨I1, J1, a1, a2, a3⟩ := pu_m_passes (J := J) hM q wf hF
    have wf1 := pu_year_wf (ro := ro) wf
    have hz1 : pu_Nz nn z (2 * (pu_year ro B).1 0 0) := by rw [pu_year_r 0 0 (by decide) (fun _ => by decide)]; exact hz
    have hc1 : pu_Nm (I1 80) nn z := pu_Nm_eq hz.1 (fun k hk => a3.2.2.1 k (by omega)) hc
    have e87 : I1 87 = I 87 := a3.1 87 (by decide) (by decide)
    -- the rest of a year, and the years behind it
    have rest : ∀ b : Bool, ∃ I' J', fj_m_areAllSo_j19 (fl_m_areAllSo_4 n) 70 (nI r) t (nI y) (pu_b b) (s, I1, J1, R) = some (pu_b (b && pu_sr nn z ro d (y + 1) (pu_year ro B)), (s, I', J', R)) ∧ I' 87 r = pu_stn ro t y B (I 87 r) (d + 1) ∧ pu_Af r I I' J J' := by
      intro b
      unfold fj_m_areAllSo_j19
      by_cases ht : nI y = t
      · rw [if_pos ht]
        simp only [pu_gN (pu_m70 hM), pu_r30 hM, Option.bind_some, pu_on (pu_m70 hM), pu_m_standingOnes hM a2 wf1, pu_tI (pu_m87 hM) hr (show 7 ≤ 100000 by omega)]
        rw [← nI_succ]
        have a4 : pu_Af r I1 (tb_up2 I1 87 r (pu_mk ((pu_year ro B).2 1) 10)) J1 J1 := ⟨fun q _ _ h3 => pu_u2p _ _ _ _ h3, fun k _ => by rw [pu_u2p _ _ _ _ (by decide)], fun k _ => by rw [pu_u2p _ _ _ _ (by decide)], fun _ _ _ => rfl, fun k hk => pu_u2k _ _ _ _ hk⟩
        obtain ⟨I', J', b1, b2, b3⟩ := ih (y + 1) n (tb_up2 I1 87 r (pu_mk ((pu_year ro B).2 1) 10)) J1 (pu_year ro B) b (by omega) (by omega) (by rw [pu_u2p _ _ _ _ (by decide)]; exact a2) wf1 hz1 (by rw [pu_u2p _ _ _ _ (by decide)]; exact hc1) (pu_FM_af a4 (pu_FM_eq a3 hF))
        refine ⟨I', J', b1, ?_, ((pu_Af.pf a3).tr a4).tr b3⟩
        rw [b2, pu_u2s]
        show _ = pu_stn ro t (y + 1) (pu_year ro B) (if nI y = t then _ else _) d
        rw [if_pos ht]
      · rw [if_neg ht, ← nI_succ]
        obtain ⟨I', J', b1, b2, b3⟩ := ih (y + 1) n I1 J1 (pu_year ro B) b (by omega) (by omega) a2 wf1 hz1 hc1 (pu_FM_eq a3 hF)
        refine ⟨I', J', b1, ?_, (pu_Af.pf a3).tr b3⟩
        rw [b2, e87]
        show _ = pu_stn ro t (y + 1) (pu_year ro B) (if nI y = t then _ else _) d
        rw [if_neg ht]
    rw [fl_m_areAllSo_4.eq_2]
    simp only [hc60, ↓reduceIte, pu_on (pu_m70 hM), a1, Option.bind_some, pu_b0, pu_m_notesSo hM a2 wf1 hz1 hc1 (show y ≤ 100 by omega)]
    show ∃ I' J', _ = some (pu_b (is && (pu_nso nn z (pu_year ro B) y && pu_sr nn z ro d (y + 1) (pu_year ro B))), _) ∧ _
    cases is
    · rw [if_pos rfl]
      exact rest false
    · rw [if_neg (by decide), Bool.true_and]
      cases hs : pu_nso nn z (pu_year ro B) y
      · rw [if_pos rfl]
        exact rest false
      · rw [if_neg (by decide)]
        exact rest true
theorem pu_m_areAllSo {I : Nat → Nat → Int32} {J : Nat → Nat → Int64} {B : pu_A} (hM : pu_M s R) {r : Nat} (hr : r < 7) (t : Int32) (q : pu_Q (I 80) B) (wf : pu_wf B) (hz : pu_Nz nn z (2 * B.1 0 0)) (hc : pu_Nm (I 80) nn z) (hF : pu_FM I ro) :
    ∃ I' J', fb_m_areAllSo 70 (nI r) t (s, I, J, R) = some (pu_b (pu_sr nn z ro 61 0 B), (s, I', J', R)) ∧ I' 87 r = pu_stn ro t 0 B (I 87 r) 61 ∧ pu_Af r I I' J J' := by
  obtain ⟨I', J', a1, a2, a3⟩ := pu_m_allSo_l hM hr t 61 0 1048576 I J B true (by omega) (by omega) q wf hz hc hF
  rw [show nI 0 = 0 from rfl, pu_bt, Bool.true_and] at a1
  refine ⟨I', J', ?_, a2, a3⟩
  unfold fb_m_areAllSo tb_z
  simp only [a1, Option.bind_some]
  rw [if_pos]
  cases pu_sr nn z ro 61 0 B
  · exact Or.inl rfl
  · exact Or.inr rfl
end PUM1
