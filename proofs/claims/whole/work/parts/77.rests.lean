/-! ===== rests: what each way gains ===== -/
def pu_lg (A : pu_A) (o e w : Nat) : pu_A := pu_t2 A (fun l => A.2 0 l && !((decide (2 ≤ w) && pu_at A l o) || (decide (w % 2 = 1) && pu_at A l e))) (A.2 1)
def pu_rb (A : pu_A) (o e w : Nat) : pu_A := pu_gw 11 (pu_lg A o e w)
def pu_rg (ro : Option pu_Ru) (o e : Nat) : Nat → pu_A → Nat → Nat → Nat × Nat × pu_A
  | 0, B, a, b => (a, b, B)
  | n + 1, B, a, b => pu_rg ro o e n (pu_year ro B) (a + (if (pu_year ro B).2 1 o then 1 else 0)) (b + (if (pu_year ro B).2 1 e then 1 else 0))
def pu_g0 (ro : Option pu_Ru) (A : pu_A) (o e n w : Nat) : Nat := (pu_rg ro o e n (pu_rb A o e w) 0 0).1 + pu_ct (fun l => pu_at (pu_rg ro o e n (pu_rb A o e w) 0 0).2.2 l o) 8
def pu_g1 (ro : Option pu_Ru) (A : pu_A) (o e n w : Nat) : Nat := (pu_rg ro o e n (pu_rb A o e w) 0 0).2.1 + pu_ct (fun l => pu_at (pu_rg ro o e n (pu_rb A o e w) 0 0).2.2 l e) 8
theorem pu_lg_wf {A : pu_A} (wf : pu_wf A) (o e w : Nat) : pu_wf (pu_lg A o e w) := pu_t2_wf wf (fun l hl => (Bool.and_eq_true _ _ ▸ hl : _ ∧ _).1) (fun l hl => hl)
theorem pu_rg_wf {ro : Option pu_Ru} {o e : Nat} (n : Nat) : ∀ {B : pu_A} {a b : Nat}, pu_wf B → pu_wf (pu_rg ro o e n B a b).2.2 := by
  induction n with
  | zero => intro B a b h; exact h
  | succ n ih => intro B a b h; exact ih (pu_year_wf h)
theorem pu_rg_le {ro : Option pu_Ru} {o e : Nat} (n : Nat) : ∀ {B : pu_A} {a b : Nat}, (pu_rg ro o e n B a b).1 ≤ a + n ∧ (pu_rg ro o e n B a b).2.1 ≤ b + n := by
  induction n with
  | zero => intro B a b; exact ⟨Nat.le_refl _, Nat.le_refl _⟩
  | succ n ih =>
    intro B a b
    have h := ih (B := pu_year ro B) (a := a + (if (pu_year ro B).2 1 o then 1 else 0)) (b := b + (if (pu_year ro B).2 1 e then 1 else 0))
    refine ⟨Nat.le_trans h.1 ?_, Nat.le_trans h.2 ?_⟩
    · split <;> omega
    · split <;> omega
section PUo
variable {s : List (Nat × Nat)} {R : Nat → Nat → Option Nat} {I : Nat → Nat → Int32} {J : Nat → Nat → Int64} {A : pu_A} {ro : Option pu_Ru}
/-- lines at a house let go -/
theorem pu_cutAt (hX : pu_X s R) (v : pu_V I 53 A) (wf : pu_wf A) {k : Nat} (hk : k < 2 * A.1 0 0) : fb_s_linesAt 53 (nI k) (s, I, J, R) = some (pu_mk (fun l => pu_at A l k) 8, (s, I, J, R)) ∧ pu_mk (A.2 0) 8 &&& (pu_mk (fun l => pu_at A l k) 8 ^^^ (-1)) = pu_mk (fun l => A.2 0 l && !pu_at A l k) 8 ∧ pu_V (tb_up2 I 53 4 (pu_mk (fun l => A.2 0 l && !pu_at A l k) 8)) 53 (pu_t2 A (fun l => A.2 0 l && !pu_at A l k) (A.2 1)) := by
  refine ⟨pu_s_linesAt (pu_st53 hX) v wf hk, ?_, pu_V_up v _ (fun l hl => (Bool.and_eq_true _ _ ▸ hl : _ ∧ _).1)⟩
  rw [pu_mk_no _ _ (by omega) (by omega)]
  exact pu_mk_cong 8 (fun l hl => by rw [decide_eq_true hl, Bool.true_and])
theorem pu_yr_letGo_e (hX : pu_X s R) (v : pu_V I 53 A) (wf : pu_wf A) {e w : Nat} (he : e < 2 * A.1 0 0) (hw : w < 4) (o : Nat) : ∃ I', fj_yr_letGo_j16 52 (nI w) (nI e) (s, I, J, R) = some (s, I', J, R) ∧ pu_V I' 53 (pu_gw 11 (pu_t2 A (fun l => A.2 0 l && !(decide (w % 2 = 1) && pu_at A l e)) (A.2 1))) ∧ pu_Fr 53 I I' := by
  have e1 : ∀ z, z < 4 → ((nI z &&& 1 = 0) ↔ ¬ z % 2 = 1) := by decide +kernel
  unfold fj_yr_letGo_j16
  simp only [e1 w hw]
  by_cases h1 : w % 2 = 1
  · obtain ⟨c1, c2, c3⟩ := pu_cutAt (J := J) hX v wf he
    have wf2 : pu_wf (pu_t2 A (fun l => A.2 0 l && !pu_at A l e) (A.2 1)) := pu_t2_wf wf (fun l hl => (Bool.and_eq_true _ _ ▸ hl : _ ∧ _).1) (fun l hl => hl)
    obtain ⟨I', g1, g2, g3⟩ := pu_s_giveWay (J := J) (pu_st53 hX) c3 wf2
    simp only [h1, not_true, ↓reduceIte, pu_gN (pu_c52 hX), pu_f52_0 hX, Option.bind_some, pu_gI (pu_c53 hX), v.1.2.2.2.2.1, pu_on (pu_c53 hX), c1, c2, pu_pI (pu_c53 hX), g1, decide_true, Bool.true_and]
    exact ⟨I', rfl, g2, (pu_Fr.u2 (i := 0) (by omega)).tr g3⟩
  · obtain ⟨I', g1, g2, g3⟩ := pu_s_giveWay (J := J) (pu_st53 hX) v wf
    have ea : pu_t2 A (fun l => A.2 0 l && !(decide (w % 2 = 1) && pu_at A l e)) (A.2 1) = A := by
      have : (fun l => A.2 0 l && !(decide (w % 2 = 1) && pu_at A l e)) = A.2 0 := by
        funext l
        rw [decide_eq_false h1]; simp
      rw [this, pu_t2_id]
    rw [ea]
    simp only [h1, not_false_eq_true, ↓reduceIte, pu_gN (pu_c52 hX), pu_f52_0 hX, Option.bind_some, pu_on (pu_c53 hX), g1]
    exact ⟨I', rfl, g2, g3⟩
theorem pu_yr_letGo (hX : pu_X s R) (v : pu_V I 53 A) (wf : pu_wf A) {o e w : Nat} (ho : o < 2 * A.1 0 0) (he : e < 2 * A.1 0 0) (hw : w < 4) : ∃ I', fb_yr_letGo 52 (nI w) (nI o) (nI e) (s, I, J, R) = some (s, I', J, R) ∧ pu_V I' 53 (pu_rb A o e w) ∧ pu_Fr 53 I I' := by
  have e2 : ∀ z, z < 4 → ((nI z &&& 2 = 0) ↔ ¬ 2 ≤ z) := by decide +kernel
  unfold fb_yr_letGo
  simp only [e2 w hw]
  by_cases h2 : 2 ≤ w
  · obtain ⟨c1, c2, c3⟩ := pu_cutAt (J := J) hX v wf ho
    have wf2 : pu_wf (pu_t2 A (fun l => A.2 0 l && !pu_at A l o) (A.2 1)) := pu_t2_wf wf (fun l hl => (Bool.and_eq_true _ _ ▸ hl : _ ∧ _).1) (fun l hl => hl)
    obtain ⟨I', g1, g2, g3⟩ := pu_yr_letGo_e (J := J) hX c3 wf2 he hw o
    simp only [h2, not_true, ↓reduceIte, pu_gN (pu_c52 hX), pu_f52_0 hX, Option.bind_some, pu_gI (pu_c53 hX), v.1.2.2.2.2.1, pu_on (pu_c53 hX), c1, c2, pu_pI (pu_c53 hX), g1]
    refine ⟨I', rfl, ?_, (pu_Fr.u2 (i := 0) (by omega)).tr g3⟩
    rw [pu_t2_t2] at g2
    have ea : pu_lg A o e w = pu_t2 A (fun l => (pu_t2 A (fun l => A.2 0 l && !pu_at A l o) (A.2 1)).2 0 l && !(decide (w % 2 = 1) && pu_at (pu_t2 A (fun l => A.2 0 l && !pu_at A l o) (A.2 1)) l e)) ((pu_t2 A (fun l => A.2 0 l && !pu_at A l o) (A.2 1)).2 1) := by
      unfold pu_lg
      congr 1
      funext l
      show (A.2 0 l && !((decide (2 ≤ w) && pu_at A l o) || (decide (w % 2 = 1) && pu_at A l e))) = ((A.2 0 l && !pu_at A l o) && !(decide (w % 2 = 1) && ((A.2 0 l && !pu_at A l o) && (decide (A.1 3 l = e) || decide (A.1 4 l = e)))))
      rw [decide_eq_true h2]
      unfold pu_at
      cases A.2 0 l <;> cases decide (A.1 3 l = o) <;> cases decide (A.1 4 l = o) <;> cases decide (A.1 3 l = e) <;> cases decide (A.1 4 l = e) <;> cases decide (w % 2 = 1) <;> rfl
    unfold pu_rb
    rw [ea]
    exact g2
  · obtain ⟨I', g1, g2, g3⟩ := pu_yr_letGo_e (J := J) hX v wf he hw o
    simp only [h2, not_false_eq_true, ↓reduceIte, g1]
    refine ⟨I', rfl, ?_, g3⟩
    have ea : pu_lg A o e w = pu_t2 A (fun l => A.2 0 l && !(decide (w % 2 = 1) && pu_at A l e)) (A.2 1) := by
      unfold pu_lg
      rw [decide_eq_false h2]
      simp only [Bool.false_and, Bool.false_or]
    unfold pu_rb
    rw [ea]
    exact g2
theorem pu_al60 (hX : pu_X s R) : tb_al 60 (s, I, J, R) = some (nI 8) := pu_al (pu_c60 hX)
theorem pu_setGain0 (hX : pu_X s R) {w : Nat} (hw : w < 4) (x : Int32) : fb_yr_setGain 52 (nI w) 0 x (s, I, J, R) = some (s, tb_up2 I 60 (2 * w) x, J, R) := by
  unfold fb_yr_setGain
  simp only [pu_M2, Int32.add_zero, pu_lt0 (show 2 * w < 2147483648 by omega), ↓reduceIte, pu_gN (pu_c52 hX), pu_f52_6 hX, Option.bind_some, pu_al60 hX, pu_ltI (show 2 * w < 2147483648 by omega) (show 8 < 2147483648 by omega), show 2 * w < 8 by omega, pu_tI (pu_c60 hX) (show 2 * w < 8 by omega) (show 8 ≤ 100000 by omega)]
theorem pu_setGain1 (hX : pu_X s R) {w : Nat} (hw : w < 4) (x : Int32) : fb_yr_setGain 52 (nI w) 1 x (s, I, J, R) = some (s, tb_up2 I 60 (2 * w + 1) x, J, R) := by
  unfold fb_yr_setGain
  simp only [pu_M2, pu_R1, pu_lt0 (show 2 * w + 1 < 2147483648 by omega), ↓reduceIte, pu_gN (pu_c52 hX), pu_f52_6 hX, Option.bind_some, pu_al60 hX, pu_ltI (show 2 * w + 1 < 2147483648 by omega) (show 8 < 2147483648 by omega), show 2 * w + 1 < 8 by omega, pu_tI (pu_c60 hX) (show 2 * w + 1 < 8 by omega) (show 8 ≤ 100000 by omega)]
theorem pu_gainOf0 (hX : pu_X s R) {w : Nat} (hw : w < 4) : fb_yr_gainOf 52 (nI w) 0 (s, I, J, R) = some (I 60 (2 * w), (s, I, J, R)) := by
  unfold fb_yr_gainOf
  simp only [pu_M2, Int32.add_zero, pu_lt0 (show 2 * w < 2147483648 by omega), ↓reduceIte, pu_gN (pu_c52 hX), pu_f52_6 hX, Option.bind_some, pu_al60 hX, pu_ltI (show 2 * w < 2147483648 by omega) (show 8 < 2147483648 by omega), show 2 * w < 8 by omega, pu_lI (pu_c60 hX) (show 2 * w < 8 by omega) (show 8 ≤ 100000 by omega)]
theorem pu_gainOf1 (hX : pu_X s R) {w : Nat} (hw : w < 4) : fb_yr_gainOf 52 (nI w) 1 (s, I, J, R) = some (I 60 (2 * w + 1), (s, I, J, R)) := by
  unfold fb_yr_gainOf
  simp only [pu_M2, pu_R1, pu_lt0 (show 2 * w + 1 < 2147483648 by omega), ↓reduceIte, pu_gN (pu_c52 hX), pu_f52_6 hX, Option.bind_some, pu_al60 hX, pu_ltI (show 2 * w + 1 < 2147483648 by omega) (show 8 < 2147483648 by omega), show 2 * w + 1 < 8 by omega, pu_lI (pu_c60 hX) (show 2 * w + 1 < 8 by omega) (show 8 ≤ 100000 by omega)]
theorem pu_yr_rg (hX : pu_X s R) {c : Option Nat} {o e w N : Nat} (ho : o < 10) (he : e < 10) (hw : w < 4) (hN : N ≤ 20) : ∀ d i n I J B a b, i + d = N → d < n → pu_V I 53 B → pu_wf B → pu_FC s I c ro → I 60 (2 * w) = nI a → I 60 (2 * w + 1) = nI b →
    ∃ I' J', fl_yr_findRests_25 n 52 19 c (nI o) (nI e) (nI N) (nI w) (nI i) (s, I, J, R) = some (52, 19, c, nI o, nI e, nI N, nI w, (s, I', J', R)) ∧ pu_V I' 53 (pu_rg ro o e d B a b).2.2 ∧ I' 60 (2 * w) = nI (pu_rg ro o e d B a b).1 ∧ I' 60 (2 * w + 1) = nI (pu_rg ro o e d B a b).2.1 ∧ (∀ k, k ≠ 2 * w → k ≠ 2 * w + 1 → I' 60 k = I 60 k) ∧ I' 52 = I 52 ∧ pu_Cf I I' J J' := by
  intro d
  induction d with
  | zero =>
    intro i n I J B a b hi hn v wf hF ea eb
    obtain ⟨n, rfl⟩ : ∃ z, n = z + 1 := ⟨n - 1, by omega⟩
    unfold fl_yr_findRests_25
    simp only [pu_ltI (show i < 2147483648 by omega) (show N < 2147483648 by omega), show ¬ i < N by omega, ↓reduceIte]
    exact ⟨I, J, rfl, v, ea, eb, fun _ _ _ => rfl, rfl, pu_Cf.rf⟩
  | succ d ih =>
    intro i n I J B a b hi hn v wf hF ea eb
    obtain ⟨n, rfl⟩ : ∃ z, n = z + 1 := ⟨n - 1, by omega⟩
    obtain ⟨I1, J1, a1, a2, a3⟩ := pu_jg_passYear (J := J) (ro := ro) (pu_jg hX) (pu_st53 hX) (by omega) v wf hF
    have wf1 := pu_year_wf (ro := ro) wf
    have f1 : pu_Cf I I1 J J1 := pu_Cf.yf (by omega) (by omega) a3
    have e60 : I1 60 = I 60 := a3.1 60 (by omega) (by decide)
    have e52 : I1 52 = I 52 := a3.1 52 (by omega) (by decide)
    -- behind the first gain
    have v2 : ∀ x, pu_V (tb_up2 I1 60 (2 * w) x) 53 (pu_year ro B) := fun x => pu_V_eq (fun j hj => pu_u2p _ _ _ _ (by omega)) a2
    have j50 : fj_yr_findRests_j50 (fl_yr_findRests_25 n) 52 19 c (nI o) (nI e) (nI N) (nI w) (nI i) (if (pu_year ro B).2 1 o then 1 else 0) (nI a) 0 (nI w) 52 (s, I1, J1, R) = fl_yr_findRests_25 n 52 19 c (nI o) (nI e) (nI N) (nI w) (nI (i + 1)) (s, tb_up2 (tb_up2 I1 60 (2 * w) (nI (a + (if (pu_year ro B).2 1 o then 1 else 0)))) 60 (2 * w + 1) (nI (b + (if (pu_year ro B).2 1 e then 1 else 0))), J1, R) := by
      have ex : nI a + (if (pu_year ro B).2 1 o then (1 : Int32) else 0) = nI (a + (if (pu_year ro B).2 1 o then 1 else 0)) := by
        cases (pu_year ro B).2 1 o
        · rw [if_neg (by decide), if_neg (by decide), Int32.add_zero, Nat.add_zero]
        · rw [if_pos rfl, if_pos rfl, pu_R1]
      have eb1 : tb_up2 I1 60 (2 * w) (nI (a + (if (pu_year ro B).2 1 o then 1 else 0))) 60 (2 * w + 1) = nI b := by rw [pu_u2k _ _ _ _ (by omega), e60]; exact eb
      unfold fj_yr_findRests_j50
      simp only [pu_on (pu_c52 hX), ex, pu_setGain0 hX hw, Option.bind_some, pu_gainOf1 hX hw, eb1, pu_gN (pu_c52 hX), pu_f52_0 hX, pu_on (pu_c53 hX), pu_s_stands (pu_st53 hX) (v2 _) wf1 (show e < 2147483648 by omega), pu_b0, pu_setGain1 hX hw, ← nI_succ]
      cases (pu_year ro B).2 1 e
      · simp only [↓reduceIte, Bool.false_eq_true, Int32.add_zero, Nat.add_zero]
      · simp only [↓reduceIte, Bool.true_eq_false, pu_R1]
    have f2 : pu_Cf I (tb_up2 (tb_up2 I1 60 (2 * w) (nI (a + (if (pu_year ro B).2 1 o then 1 else 0)))) 60 (2 * w + 1) (nI (b + (if (pu_year ro B).2 1 e then 1 else 0)))) J J1 := f1.tr ((pu_Cf.u2 (by omega) (by omega)).tr (pu_Cf.u2 (by omega) (by omega)))
    obtain ⟨I', J', c1, c2, c3, c4, c5, c6, c7⟩ := ih (i + 1) n _ J1 (pu_year ro B) (a + (if (pu_year ro B).2 1 o then 1 else 0)) (b + (if (pu_year ro B).2 1 e then 1 else 0)) (by omega) (by omega) (pu_V_eq (fun j hj => pu_u2p _ _ _ _ (by omega)) (v2 (nI (a + (if (pu_year ro B).2 1 o then 1 else 0))))) wf1 (pu_FC_cf f2 hF) (by rw [pu_u2k _ _ _ _ (by omega), pu_u2s]) (pu_u2s _ _ _ _)
    refine ⟨I', J', ?_, c2, c3, c4, ?_, by rw [c6, pu_u2p _ _ _ _ (by decide), pu_u2p _ _ _ _ (by decide), e52], f2.tr c7⟩
    · rw [fl_yr_findRests_25.eq_2]
      have ea1 : I1 60 (2 * w) = nI a := by rw [e60]; exact ea
      simp only [pu_ltI (show i < 2147483648 by omega) (show N < 2147483648 by omega), show i < N by omega, ↓reduceIte, pu_gN (pu_c52 hX), pu_f52_5 hX, pu_f52_0 hX, Option.bind_some, pu_on (pu_c40 hX), a1, pu_on (pu_c52 hX), pu_gainOf0 hX hw, ea1, pu_on (pu_c53 hX), pu_s_stands (pu_st53 hX) a2 wf1 (show o < 2147483648 by omega), pu_b0]
      cases hs : (pu_year ro B).2 1 o
      · simp only [hs, ↓reduceIte, Bool.false_eq_true] at j50 c1 ⊢
        rw [j50]
        exact c1
      · simp only [hs, ↓reduceIte, Bool.true_eq_false] at j50 c1 ⊢
        rw [j50]
        exact c1
    · intro k h1 h2
      rw [c5 k h1 h2, pu_u2k _ _ _ _ h2, pu_u2k _ _ _ _ h1, e60]
end PUo
