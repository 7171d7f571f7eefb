/-! ===== The class's judge: a rule's worth, a year ===== -/
theorem pu_tp_app (b : List Bool) : ∀ (c : List (Nat × Nat)) (ts ts' : List Bool), pu_tp c ts = some ts' → pu_tp c (ts ++ b) = some (ts' ++ b) := by
  intro c
  induction c with
  | nil =>
    intro ts ts' h
    have h : some ts = some ts' := h
    cases h
    rfl
  | cons q c ih =>
    obtain ⟨k, v⟩ := q
    intro ts ts' h
    unfold pu_tp at h ⊢
    by_cases h0 : k ≤ 1
    · rw [if_pos h0] at h ⊢
      exact ih _ _ h
    · rw [if_neg h0] at h ⊢
      by_cases h11 : k = 11
      · rw [if_pos h11] at h ⊢
        match ts, h with
        | true :: ts, h => exact ih _ _ h
        | false :: ts, h => cases h
        | [], h => cases h
      · rw [if_neg h11] at h ⊢
        match ts, h with
        | b1 :: b2 :: ts, h =>
          dsimp only [List.cons_append] at h ⊢
          split at h
          · rename_i hk
            rw [if_pos hk]
            split at h
            · rename_i hb
              rw [if_pos hb]
              exact ih _ _ h
            · cases h
          · rename_i hk
            rw [if_neg hk]
            split at h
            · rename_i hk2
              rw [if_pos hk2]
              split at h
              · rename_i hb
                rw [if_pos hb]
                exact ih _ _ h
              · cases h
            · rename_i hk2
              rw [if_neg hk2]
              split at h
              · rename_i hk3
                rw [if_pos hk3]
                split at h
                · rename_i hb
                  rw [if_pos hb]
                  exact ih _ _ h
                · cases h
              · cases h
        | [_], h => cases h
        | [], h => cases h
theorem pu_weak_n (A : pu_A) (y : Nat) : pu_weak (pu_n A 0 2 y) = pu_weak A := rfl
theorem pu_fell_n (A : pu_A) (y : Nat) (f : Nat → Bool) : pu_fell (pu_n A 0 2 y) f = pu_n (pu_fell A f) 0 2 y := rfl
theorem pu_gw_n (y : Nat) (n : Nat) : ∀ (A : pu_A), pu_gw n (pu_n A 0 2 y) = pu_n (pu_gw n A) 0 2 y := by
  induction n with
  | zero => intro A; rfl
  | succ n ih =>
    intro A
    rw [pu_gw_s, pu_gw_s, pu_weak_n, pu_fell_n]
    split
    · rfl
    · exact ih _
/-- the rule in force as the class keeps it: a row of its own, or none -/
def pu_FC (s : List (Nat × Nat)) (I : Nat → Nat → Int32) (c : Option Nat) (ro : Option pu_Ru) : Prop := match c, ro with
  | none, none => True
  | some c0, some ru => 92 ≤ c0 ∧ s[c0]? = some (1, pu_rl ru) ∧ pu_rl ru ≤ 400 ∧ pu_RC (I c0) 0 ru ∧ pu_ok ru
  | _, _ => False
section PUL
variable {s : List (Nat × Nat)} {R : Nat → Nat → Option Nat} {p : Nat} {A : pu_A}
theorem pu_jg_worth_l (hJ : pu_Jg s R) (h : pu_St s R p) (hp : p + 7 ≤ 40 ∨ 40 < p) (wf : pu_wf A) {l c0 m : Nat} (hu : A.2 0 l = true) (hc0 : s[c0]? = some (1, m)) (hm : m ≤ 400) (h40 : c0 ≠ 40) : ∀ (ru : pu_Ru) (i n : Nat) (I : Nat → Nat → Int32) (J : Nat → Nat → Int64), i + pu_rl ru = m → pu_rl ru < n → pu_V I p A → pu_RC (I c0) i ru → pu_ok ru → I 40 1 = nI 0 →
    ∃ I' J', fl_jg_worth_5 n 40 c0 p (nI l) (nI i) (s, I, J, R) = some (pu_rho (pu_wd A l) ru, (s, I', J', R)) ∧ pu_Jf I I' J J' := by
  intro ru
  induction ru with
  | nil =>
    intro i n I J hi hn v hc hok h1
    have hi : i = m := hi
    have hn : 0 < n := hn
    obtain ⟨n, rfl⟩ : ∃ z, n = z + 1 := ⟨n - 1, by omega⟩
    unfold fl_jg_worth_5
    simp only [pu_al hc0, Option.bind_some, pu_ltI (show i < 2147483648 by omega) (show m < 2147483648 by omega), show ¬ i < m by omega, ↓reduceIte, fj_jg_worth_j102]
    exact ⟨I, J, rfl, pu_Jf.rf⟩
  | cons q ru ih =>
    obtain ⟨sm, t⟩ := q
    intro i n I J hi hn v hc hok h1
    match t, hi, hn, hc, hok with
    | none, hi, hn, hc, hok =>
      have hi : i + (sm.length + 1 + pu_rl ru) = m := hi
      have hn : sm.length + 1 + pu_rl ru < n := hn
      obtain ⟨c1, c2, c3⟩ := hc
      obtain ⟨o1, o2, o3⟩ := hok
      obtain ⟨n, rfl⟩ : ∃ z, n = (z + 1) + sm.length := ⟨n - sm.length - 1, by omega⟩
      obtain ⟨st', I1, J1, a1, a2, a3, a4, a5, a6⟩ := pu_jg_run (R := R) hJ h hp wf hu hc0 hm h40 sm i (n + 1) I J [] [] [false] (by omega) v c1 h1 trivial (by rw [show ([] : List Int64).length = 0 from rfl]; omega) trivial o1
      rw [(pu_val_ev (wd := pu_wd A l) o1).1] at a1
      cases a1
      rw [a3, fl_jg_worth_5.eq_2]
      have ec : I1 c0 (i + sm.length) = -34 := by rw [a6.1 c0 h40]; exact c2
      simp only [pu_al hc0, Option.bind_some, pu_ltI (show i + sm.length < 2147483648 by omega) (show m < 2147483648 by omega), show i + sm.length < m by omega, ↓reduceIte, pu_lI hc0 (show i + sm.length < m by omega) (show m ≤ 100000 by omega), ec, show ((-34 : Int32) < 0) by decide, show ((-34 : Int32) < -31) by decide, fj_jg_worth_j35, fj_jg_worth_j38, pu_on hJ.1, pu_jg_pop (J := J1) hJ (n := 0) a4 (by omega)]
      have e0 : J1 41 0 = pu_val (pu_wd A l) sm := a5.1
      rw [e0]
      exact ⟨_, _, rfl, a6.tr pu_Jf.i⟩
    | some t, hi, hn, hc, hok =>
      have hi : i + (sm.length + t.length + 1 + pu_rl ru) = m := hi
      have hn : sm.length + t.length + 1 + pu_rl ru < n := hn
      obtain ⟨c1, c2, c3, c4⟩ := hc
      obtain ⟨o1, o2, o3, o4⟩ := hok
      obtain ⟨n, rfl⟩ : ∃ z, n = ((z + 1) + t.length) + sm.length := ⟨n - sm.length - t.length - 1, by omega⟩
      obtain ⟨st', I1, J1, a1, a2, a3, a4, a5, a6⟩ := pu_jg_run (R := R) hJ h hp wf hu hc0 hm h40 sm i ((n + 1) + t.length) I J [] [] [false] (by omega) v c1 h1 trivial (by rw [show ([] : List Int64).length = 0 from rfl]; omega) trivial o1
      rw [(pu_val_ev (wd := pu_wd A l) o1).1] at a1
      cases a1
      have v1 : pu_V I1 p A := pu_V_eq (fun j hj => a6.1 _ (by omega)) v
      obtain ⟨st'', I2, J2, b1, b2, b3, b4, b5, b6⟩ := pu_jg_run (R := R) hJ h hp wf hu hc0 hm h40 t (i + sm.length) (n + 1) I1 J1 [pu_val (pu_wd A l) sm] [false] ([true] ++ [false]) (by omega) v1 (by rw [a6.1 c0 h40]; exact c2) a4 a5 (by rw [show ([pu_val (pu_wd A l) sm] : List Int64).length = 1 from rfl]; omega) ⟨fun z => (by cases z), trivial⟩ (pu_tp_app [false] t [] [true] o2)
      have b1' := pu_ev_app (pu_wd A l) [pu_val (pu_wd A l) sm] t [] _ (pu_val_ev (wd := pu_wd A l) o2).1
      rw [List.nil_append] at b1'
      rw [b1'] at b1
      cases b1
      rw [a3, b3, fl_jg_worth_5.eq_2]
      have ec : I2 c0 (i + sm.length + t.length) = -35 := by rw [b6.1 c0 h40, a6.1 c0 h40]; exact c3
      have t01 := (pu_val_ev (wd := pu_wd A l) o2).2 rfl
      have e1 : J2 41 1 = pu_val (pu_wd A l) t := b5.1
      have e0 : J2 41 0 = pu_val (pu_wd A l) sm := b5.2.1
      have hpp := pu_jg_pop (I := I2) (J := J2) hJ (n := 1) b4 (by omega)
      have hpp2 := pu_jg_pop (I := tb_up2 I2 40 1 (nI 1)) (J := J2) hJ (n := 0) (pu_u2s _ _ _ _) (by omega)
      rw [e1] at hpp
      rw [e0] at hpp2
      simp only [pu_al hc0, Option.bind_some, pu_ltI (show i + sm.length + t.length < 2147483648 by omega) (show m < 2147483648 by omega), show i + sm.length + t.length < m by omega, ↓reduceIte, pu_lI hc0 (show i + sm.length + t.length < m by omega) (show m ≤ 100000 by omega), ec, show ((-35 : Int32) < 0) by decide, show ((-35 : Int32) < -31) by decide, fj_jg_worth_j35, show ¬ ((-35 : Int32) = -34) by decide, pu_on hJ.1, hpp, lg_cmp_eq]
      have hrho : pu_rho (pu_wd A l) ((sm, some t) :: ru) = if pu_val (pu_wd A l) t = 1 then pu_val (pu_wd A l) sm else pu_rho (pu_wd A l) ru := rfl
      rw [hrho]
      rcases t01 with t0 | t1
      · rw [if_pos t0, if_neg (by rw [t0]; decide)]
        simp only [fj_jg_worth_j52, pu_on hJ.1, hpp2, Option.bind_some, ↓reduceIte]
        rw [← nI_succ]
        have v2 : pu_V (tb_up2 (tb_up2 I2 40 1 (nI 1)) 40 1 (nI 0)) p A := pu_V_eq (fun j hj => by rw [pu_u2p _ _ _ _ (by omega), pu_u2p _ _ _ _ (by omega)]; exact b6.1 _ (by omega)) v1
        obtain ⟨I', J', d1, d2⟩ := ih (i + sm.length + t.length + 1) n (tb_up2 (tb_up2 I2 40 1 (nI 1)) 40 1 (nI 0)) J2 (by omega) (by omega) v2 (by rw [pu_u2p _ _ _ _ h40, pu_u2p _ _ _ _ h40, b6.1 c0 h40, a6.1 c0 h40]; exact c4) o4 (pu_u2s _ _ _ _)
        exact ⟨I', J', d1, ((a6.tr b6).tr (pu_Jf.i.tr pu_Jf.i)).tr d2⟩
      · rw [if_neg (by rw [t1]; decide), if_pos t1]
        simp only [fj_jg_worth_j52, fj_jg_worth_j58, pu_on hJ.1, hpp2, Option.bind_some, show ¬ ((1 : Int32) = 0) by decide, ↓reduceIte]
        exact ⟨_, _, rfl, (a6.tr b6).tr (pu_Jf.i.tr pu_Jf.i)⟩
theorem pu_jg_worth {I : Nat → Nat → Int32} {J : Nat → Nat → Int64} (hJ : pu_Jg s R) (h : pu_St s R p) (hp : p + 7 ≤ 40 ∨ 40 < p) (v : pu_V I p A) (wf : pu_wf A) {l c0 : Nat} {ru : pu_Ru} (hu : A.2 0 l = true) (hc0 : s[c0]? = some (1, pu_rl ru)) (hm : pu_rl ru ≤ 400) (h40 : c0 ≠ 40) (hc : pu_RC (I c0) 0 ru) (hok : pu_ok ru) :
    ∃ I' J', fb_jg_worth 40 c0 p (nI l) (s, I, J, R) = some (pu_rho (pu_wd A l) ru, (s, I', J', R)) ∧ pu_Jf I I' J J' := by
  obtain ⟨I', J', a1, a2⟩ := pu_jg_worth_l (R := R) hJ h hp wf hu hc0 hm h40 ru 0 1048576 (tb_up2 I 40 1 (nI 0)) J (by omega) (by omega) (pu_V_eq (fun j hj => pu_u2p _ _ _ _ (by omega)) v) (by rw [pu_u2p _ _ _ _ h40]; exact hc) hok (pu_u2s _ _ _ _)
  refine ⟨I', J', ?_, pu_Jf.i.tr a2⟩
  unfold fb_jg_worth
  simp only [pu_pI hJ.1, Option.bind_some]
  rw [show nI 0 = 0 from rfl] at a1
  rw [a1]
  rfl
theorem pu_jg_let_l (hJ : pu_Jg s R) (h : pu_St s R p) (hp : p + 7 ≤ 40 ∨ 40 < p) (wf : pu_wf A) {c0 : Nat} {ru : pu_Ru} (hc0 : s[c0]? = some (1, pu_rl ru)) (hm : pu_rl ru ≤ 400) (h40 : c0 ≠ 40) (hok : pu_ok ru) : ∀ d i n I J, i + d = A.1 0 3 → d < n → pu_V I p A → pu_RC (I c0) 0 ru →
    ∃ I' J', fl_jg_passYear_7 n 40 p c0 (pu_mk (fun l => A.2 0 l && !(decide (l < i) && !pu_kp (some ru) A l)) 8) (nI i) (s, I, J, R) = some (p, pu_mk (fun l => A.2 0 l && !(decide (l < A.1 0 3) && !pu_kp (some ru) A l)) 8, (s, I', J', R)) ∧ pu_Jf I I' J J' := by
  intro d
  have h5 := wf.2.2.1
  induction d with
  | zero =>
    intro i n I J hi hn v hc
    obtain ⟨n, rfl⟩ : ∃ z, n = z + 1 := ⟨n - 1, by omega⟩
    unfold fl_jg_passYear_7
    simp only [pu_gI h.1, Option.bind_some, v.1.2.2.2.1, pu_ltI (show i < 2147483648 by omega) (show A.1 0 3 < 2147483648 by omega), show ¬ i < A.1 0 3 by omega, ↓reduceIte]
    rw [show i = A.1 0 3 by omega]
    exact ⟨I, J, rfl, pu_Jf.rf⟩
  | succ d ih =>
    intro i n I J hi hn v hc
    obtain ⟨n, rfl⟩ : ∃ z, n = z + 1 := ⟨n - 1, by omega⟩
    have hil : i < A.1 0 3 := by omega
    unfold fl_jg_passYear_7
    simp only [pu_gI h.1, Option.bind_some, v.1.2.2.2.1, pu_ltI (show i < 2147483648 by omega) (show A.1 0 3 < 2147483648 by omega), hil, ↓reduceIte, pu_on h.1, pu_s_isUp h v wf (show i < 2147483648 by omega), pu_b0]
    rw [← nI_succ]
    cases hu : A.2 0 i
    · simp only [↓reduceIte]
      have e : (fun l => A.2 0 l && !(decide (l < i) && !pu_kp (some ru) A l)) = (fun l => A.2 0 l && !(decide (l < i + 1) && !pu_kp (some ru) A l)) := by
        funext l
        by_cases e : l = i
        · subst e; simp [hu]
        · have : (l < i + 1) = (l < i) := propext (by omega)
          simp only [this]
      rw [e]
      exact ih (i + 1) n I J (by omega) (by omega) v hc
    · obtain ⟨I1, J1, a1, a2⟩ := pu_jg_worth (J := J) hJ h hp v wf hu hc0 hm h40 hc hok
      simp only [Bool.true_eq_false, ↓reduceIte, pu_on hJ.1, a1, Option.bind_some, lg_cmp_le]
      have v1 : pu_V I1 p A := pu_V_eq (fun j hj => a2.1 _ (by omega)) v
      obtain ⟨I', J', b1, b2⟩ := ih (i + 1) n I1 J1 (by omega) (by omega) v1 (by rw [a2.1 c0 h40]; exact hc)
      by_cases hk : pu_rho (pu_wd A i) ru ≤ 0
      · rw [if_pos hk]
        have hkp : pu_kp (some ru) A i = false := decide_eq_false (Int64.not_lt.mpr hk)
        rw [pu_mk_1 (show i < 8 by omega) (by omega), pu_mk_no _ _ (by omega) (by omega)]
        have e : pu_mk (fun k => (A.2 0 k && !(decide (k < i) && !pu_kp (some ru) A k)) && !(decide (k < 8) && decide (k = i))) 8 = pu_mk (fun l => A.2 0 l && !(decide (l < i + 1) && !pu_kp (some ru) A l)) 8 := pu_mk_cong 8 (fun l hl => by
          by_cases e : l = i
          · subst e; simp [hu, hkp, hl]
          · have : (l < i + 1) = (l < i) := propext (by omega)
            simp only [this, e, decide_false, Bool.and_false, Bool.not_false, Bool.and_true])
        rw [e]
        exact ⟨I', J', b1, a2.tr b2⟩
      · rw [if_neg hk]
        have hkp : pu_kp (some ru) A i = true := decide_eq_true (Int64.not_le.mp hk)
        have e : (fun l => A.2 0 l && !(decide (l < i) && !pu_kp (some ru) A l)) = (fun l => A.2 0 l && !(decide (l < i + 1) && !pu_kp (some ru) A l)) := by
          funext l
          by_cases e : l = i
          · subst e; simp [hkp]
          · have : (l < i + 1) = (l < i) := propext (by omega)
            simp only [this]
        rw [e]
        exact ⟨I', J', b1, a2.tr b2⟩
theorem pu_V_y {I : Nat → Nat → Int32} (v : pu_V I p A) (y : Nat) : pu_V (tb_up2 I p 2 (nI y)) p (pu_n A 0 2 y) := by
  obtain ⟨⟨a0, a1, a2, a3, a4, a5⟩, b, c⟩ := v
  refine ⟨⟨?_, ?_, ?_, ?_, ?_, ?_⟩, ?_, ?_⟩
  · rw [pu_u2k _ _ _ _ (by decide)]; exact a0
  · rw [pu_u2k _ _ _ _ (by decide)]; exact a1
  · rw [pu_u2s]
    show nI y = nI (tb_up2 A.1 0 2 y 0 2)
    rw [pu_u2s]
  · rw [pu_u2k _ _ _ _ (by decide)]; exact a3
  · rw [pu_u2k _ _ _ _ (by decide)]; exact a4
  · rw [pu_u2k _ _ _ _ (by decide)]; exact a5
  · intro h hh
    rw [pu_u2p _ _ _ _ (by omega), pu_u2p _ _ _ _ (by omega)]
    exact b h hh
  · intro l hl
    rw [pu_u2p _ _ _ _ (by omega), pu_u2p _ _ _ _ (by omega), pu_u2p _ _ _ _ (by omega)]
    exact c l hl
/-- a Street at p and the judge have been used, and nothing else -/
def pu_Yf (p : Nat) (I I' : Nat → Nat → Int32) (J J' : Nat → Nat → Int64) : Prop := (∀ q, (q < p ∨ p + 7 ≤ q) → q ≠ 40 → I' q = I q) ∧ (∀ q, q ≠ 41 → J' q = J q)
theorem pu_Yf.rf {I : Nat → Nat → Int32} {J : Nat → Nat → Int64} : pu_Yf p I I J J := ⟨fun _ _ _ => rfl, fun _ _ => rfl⟩
theorem pu_Yf.tr {I I' I2 : Nat → Nat → Int32} {J J' J2 : Nat → Nat → Int64} (a : pu_Yf p I I' J J') (b : pu_Yf p I' I2 J' J2) : pu_Yf p I I2 J J2 := ⟨fun q h h2 => (b.1 q h h2).trans (a.1 q h h2), fun q h => (b.2 q h).trans (a.2 q h)⟩
theorem pu_Yf.fr {I I' : Nat → Nat → Int32} {J : Nat → Nat → Int64} (a : pu_Fr p I I') : pu_Yf p I I' J J := ⟨fun q h _ => a q h, fun _ _ => rfl⟩
theorem pu_Yf.jf {I I' : Nat → Nat → Int32} {J J' : Nat → Nat → Int64} (a : pu_Jf I I' J J') : pu_Yf p I I' J J' := ⟨fun q _ h => a.1 q h, a.2⟩
theorem pu_jg_end {I : Nat → Nat → Int32} {J : Nat → Nat → Int64} (h : pu_St s R p) {B : pu_A} (v : pu_V I p B) (wf : pu_wf B) : ∃ I', fj_jg_passYear_j36 p (s, I, J, R) = some (pu_mk (pu_fallen B (pu_n (pu_gw 11 (pu_fade B)) 0 2 (B.1 0 2 + 1))) 10, (s, I', J, R)) ∧ pu_V I' p (pu_n (pu_gw 11 (pu_fade B)) 0 2 (B.1 0 2 + 1)) ∧ pu_Fr p I I' := by
  obtain ⟨I1, a1, a2, a3⟩ := pu_s_fade (J := J) h v wf
  have wf1 : pu_wf (pu_fade B) := pu_fd_wf wf _
  have ey : I1 p 2 = nI (B.1 0 2) := a2.1.2.2.1
  have v2 := pu_V_y a2 (B.1 0 2 + 1)
  have wf2 := pu_n02_wf wf1 (B.1 0 2 + 1)
  obtain ⟨I3, b1, b2, b3⟩ := pu_s_giveWay (J := J) h v2 wf2
  rw [pu_gw_n] at b1 b2
  refine ⟨I3, ?_, b2, (a3.tr (pu_Fr.u2 (i := 0) (by omega))).tr b3⟩
  unfold fj_jg_passYear_j36
  simp only [pu_on h.1, a1, Option.bind_some, pu_gI h.1, ey, pu_R1, pu_pI h.1, b1]
  rfl
theorem pu_jg_passYear {I : Nat → Nat → Int32} {J : Nat → Nat → Int64} (hJ : pu_Jg s R) (h : pu_St s R p) (hp : p + 7 ≤ 40 ∨ 40 < p) (v : pu_V I p A) (wf : pu_wf A) {c : Option Nat} {ro : Option pu_Ru} (hF : pu_FC s I c ro) :
    ∃ I' J', fb_jg_passYear 40 p c (s, I, J, R) = some (pu_mk (pu_fallen A (pu_year ro A)) 10, (s, I', J', R)) ∧ pu_V I' p (pu_year ro A) ∧ pu_Yf p I I' J J' := by
  have h5 := wf.2.2.1
  match c, ro, hF with
  | none, none, _ =>
    have eg : pu_go none A = A := by
      unfold pu_go
      have : (fun l => A.2 0 l && pu_kp none A l) = A.2 0 := by
        funext l
        show (A.2 0 l && true) = A.2 0 l
        simp
      rw [this, pu_t2_id]
    obtain ⟨I', a1, a2, a3⟩ := pu_jg_end (J := J) h v wf
    have ey : pu_year none A = pu_n (pu_gw 11 (pu_fade A)) 0 2 (A.1 0 2 + 1) := by
      unfold pu_year
      rw [eg]
    rw [ey]
    exact ⟨I', J, a1, a2, pu_Yf.fr a3⟩
  | some c0, some ru, hF =>
    obtain ⟨f1, f2, f3, f4, f5⟩ := hF
    obtain ⟨I1, J1, a1, a2⟩ := pu_jg_let_l (R := R) hJ h hp wf f2 f3 (by omega) f5 (A.1 0 3) 0 1048576 I J (by omega) (by omega) v f4
    have e0 : pu_mk (fun l => A.2 0 l && !(decide (l < 0) && !pu_kp (some ru) A l)) 8 = pu_mk (A.2 0) 8 := pu_mk_cong 8 (fun l _ => by simp)
    have e1 : pu_mk (fun l => A.2 0 l && !(decide (l < A.1 0 3) && !pu_kp (some ru) A l)) 8 = pu_mk (fun l => A.2 0 l && pu_kp (some ru) A l) 8 := pu_mk_cong 8 (fun l _ => by
      by_cases hl : l < A.1 0 3
      · rw [decide_eq_true hl, Bool.true_and, Bool.not_not]
      · rw [pu_noup wf hl]; rfl)
    rw [e0, e1, show nI 0 = 0 from rfl] at a1
    have v1 : pu_V I1 p A := pu_V_eq (fun j hj => a2.1 _ (by omega)) v
    have v2 : pu_V (tb_up2 I1 p 4 (pu_mk (fun l => A.2 0 l && pu_kp (some ru) A l) 8)) p (pu_go (some ru) A) := pu_V_up v1 _ (fun l hl => (Bool.and_eq_true _ _ ▸ hl : _ ∧ _).1)
    obtain ⟨I', b1, b2, b3⟩ := pu_jg_end (J := J1) h v2 (pu_go_wf wf)
    refine ⟨I', J1, ?_, b2, ((pu_Yf.jf a2).tr (pu_Yf.fr (pu_Fr.u2 (i := 0) (by omega)))).tr (pu_Yf.fr b3)⟩
    unfold fb_jg_passYear
    dsimp only
    simp only [pu_gI h.1, Option.bind_some, v.1.2.2.2.2.1, a1, pu_pI h.1]
    rw [b1]
    rfl
end PUL
