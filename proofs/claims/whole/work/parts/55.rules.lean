/-! ===== The reference reckons a rule out ===== -/
section PUH
variable {s : List (Nat × Nat)} {R : Nat → Nat → Option Nat}
theorem pu_m_reck_l (hM : pu_M s R) (wd : Nat → Int64) {r e : Nat} (hr : r ≤ 5) (he : e ≤ 400) : ∀ (c : List (Nat × Nat)) (i n : Nat) (I : Nat → Nat → Int32) (J : Nat → Nat → Int64) (st st' : List Int64), i + c.length = e → c.length < n → pu_cd (I 72) (400 * r + i) c → I 70 18 = nI st.length → pu_sk (J 78) st → st.length + pu_nv c ≤ 64 → (∀ k, k < 12 → J 79 k = wd k) → pu_ev wd c st = some st' →
    ∃ I' J', fl_m_reckons_5 n 70 (nI r) (nI e) (nI i) (s, I, J, R) = some (70, (s, I', J', R)) ∧ I' 70 18 = nI st'.length ∧ st'.length ≤ 64 ∧ pu_sk (J' 78) st' ∧ pu_Sf I I' J J' := by
  intro c
  induction c with
  | nil =>
    intro i n I J st st' hi hn hc hl hk h64 hw hev
    have hev : some st = some st' := hev
    cases hev
    obtain ⟨n, rfl⟩ : ∃ z, n = z + 1 := ⟨n - 1, by have : ([] : List (Nat × Nat)).length = 0 := rfl; omega⟩
    have hi : i = e := hi
    unfold fl_m_reckons_5
    simp only [pu_ltI (show i < 2147483648 by omega) (show e < 2147483648 by omega), show ¬ i < e by omega, ↓reduceIte]
    exact ⟨I, J, rfl, hl, by have : pu_nv [] = 0 := rfl; omega, hk, pu_Sf.rf⟩
  | cons q c ih =>
    obtain ⟨k, v⟩ := q
    intro i n I J st st' hi hn hc hl hk h64 hw hev
    rw [List.length_cons] at hi hn
    obtain ⟨n, rfl⟩ : ∃ z, n = z + 1 := ⟨n - 1, by omega⟩
    obtain ⟨c1, c2, c3, c4, c5⟩ := hc
    have hnv : pu_nv ((k, v) :: c) = pu_nv c + (if k ≤ 1 then 1 else 0) := rfl
    rw [hnv] at h64
    have hidx : (400 : Int32) * nI r + nI i = nI (400 * r + i) := by rw [pu_M400, nI_add]
    have e15 : nI k = (0 : Int32) ↔ k = 0 := by
      rw [show (0 : Int32) = nI 0 from rfl, pu_eqI (by omega) (by omega)]
    have e1 : nI k = (1 : Int32) ↔ k = 1 := by
      rw [show (1 : Int32) = nI 1 from rfl, pu_eqI (by omega) (by omega)]
    have e11 : nI k = (11 : Int32) ↔ k = 11 := by
      rw [show (11 : Int32) = nI 11 from rfl, pu_eqI (by omega) (by omega)]
    unfold fl_m_reckons_5
    simp only [pu_ltI (show i < 2147483648 by omega) (show e < 2147483648 by omega), show i < e by omega, ↓reduceIte, pu_gN (pu_m70 hM), pu_r3 hM, Option.bind_some, hidx, pu_lI (pu_m72 hM) (show 400 * r + i < 2400 by omega) (show 2400 ≤ 100000 by omega), c1, pu_and15 c2, pu_shr4 c2 c3, e15, e1, e11, pu_on (pu_m70 hM)]
    rw [← nI_succ]
    unfold pu_ev at hev
    by_cases h0 : k = 0
    · subst h0
      rw [if_pos rfl] at hev
      rw [if_pos (by omega)] at h64
      have hp := pu_m_push (J := J) hM hl (by omega) ((nI v).toInt64)
      simp only [hp, ↓reduceIte, Option.bind_some]
      obtain ⟨I', J', a1, a2, a3, a4, a5⟩ := ih (i + 1) n (tb_up2 I 70 18 (nI (st.length + 1))) (tb_up2 J 78 st.length ((nI v).toInt64)) ((nI v).toInt64 :: st) st' (by omega) (by omega) (by rw [pu_u2p _ _ _ _ (by decide)]; exact c5) (by rw [pu_u2s]; rfl) ⟨pu_u2s _ _ _ _, pu_sk_eq st (fun z hz => pu_u2k _ _ _ _ (by omega)) hk⟩ (by rw [List.length_cons]; omega) (fun z hz => by rw [pu_u2p _ _ _ _ (by decide)]; exact hw z hz) hev
      exact ⟨I', J', a1, a2, a3, a4, pu_Sf.ij.tr a5⟩
    · rw [if_neg h0] at hev
      by_cases h1 : k = 1
      · subst h1
        rw [if_pos rfl] at hev
        rw [if_pos (by omega)] at h64
        have hp := pu_m_push (J := J) hM hl (by omega) (wd v)
        have hw1 : tb_lJ 79 (nI v) (s, I, J, R) = some (wd v) := by
          rw [pu_lJ (pu_m79 hM) (c4 rfl) (by omega), hw v (c4 rfl)]
        simp only [h0, ↓reduceIte, pu_gN (pu_m70 hM), pu_r19 hM, Option.bind_some, hw1, pu_on (pu_m70 hM), hp]
        obtain ⟨I', J', a1, a2, a3, a4, a5⟩ := ih (i + 1) n (tb_up2 I 70 18 (nI (st.length + 1))) (tb_up2 J 78 st.length (wd v)) (wd v :: st) st' (by omega) (by omega) (by rw [pu_u2p _ _ _ _ (by decide)]; exact c5) (by rw [pu_u2s]; rfl) ⟨pu_u2s _ _ _ _, pu_sk_eq st (fun z hz => pu_u2k _ _ _ _ (by omega)) hk⟩ (by rw [List.length_cons]; omega) (fun z hz => by rw [pu_u2p _ _ _ _ (by decide)]; exact hw z hz) hev
        exact ⟨I', J', a1, a2, a3, a4, pu_Sf.ij.tr a5⟩
      · rw [if_neg h1] at hev
        rw [if_neg (by omega), Nat.add_zero] at h64
        by_cases h11 : k = 11
        · rw [if_pos h11] at hev
          match st, hev, hl, hk, h64 with
          | x :: st, hev, hl, hk, h64 =>
            rw [List.length_cons] at hl h64
            have hp := pu_m_pop (J := J) hM hl (by omega)
            have hp2 := pu_m_push (I := tb_up2 I 70 18 (nI st.length)) (J := J) hM (pu_u2s _ _ _ _) (show st.length < 64 by omega) (1 - J 78 st.length)
            simp only [h0, h1, h11, ↓reduceIte, hp, Option.bind_some, pu_on (pu_m70 hM), hp2]
            rw [hk.1]
            obtain ⟨I', J', a1, a2, a3, a4, a5⟩ := ih (i + 1) n (tb_up2 (tb_up2 I 70 18 (nI st.length)) 70 18 (nI (st.length + 1))) (tb_up2 J 78 st.length (1 - x)) ((1 - x) :: st) st' (by omega) (by omega) (by rw [pu_u2p _ _ _ _ (by decide), pu_u2p _ _ _ _ (by decide)]; exact c5) (by rw [pu_u2s]; rfl) ⟨pu_u2s _ _ _ _, pu_sk_eq st (fun z hz => pu_u2k _ _ _ _ (by omega)) hk.2⟩ (by rw [List.length_cons]; omega) (fun z hz => by rw [pu_u2p _ _ _ _ (by decide)]; exact hw z hz) hev
            exact ⟨I', J', a1, a2, a3, a4, (pu_Sf.i.tr pu_Sf.ij).tr a5⟩
          | [], hev, _, _, _ => cases hev
        · rw [if_neg h11] at hev
          match st, hev, hl, hk, h64 with
          | y :: x :: st, hev, hl, hk, h64 =>
            rw [List.length_cons, List.length_cons] at hl h64
            have hy : J 78 (st.length + 1) = y := hk.1
            have hx : J 78 st.length = x := hk.2.1
            have hp := pu_m_pop (J := J) hM hl (by omega)
            have hp2 := pu_m_pop (I := tb_up2 I 70 18 (nI (st.length + 1))) (J := J) hM (pu_u2s _ _ _ _) (show st.length < 64 by omega)
            have hp3 := pu_m_push (I := tb_up2 (tb_up2 I 70 18 (nI (st.length + 1))) 70 18 (nI st.length)) (J := J) hM (pu_u2s _ _ _ _) (show st.length < 64 by omega) (pu_op k x y)
            simp only [h0, h1, h11, ↓reduceIte, hp, Option.bind_some, pu_on (pu_m70 hM), hp2, hx, hy, pu_m_one (show 2 ≤ k by omega) c2, hp3]
            obtain ⟨I', J', a1, a2, a3, a4, a5⟩ := ih (i + 1) n (tb_up2 (tb_up2 (tb_up2 I 70 18 (nI (st.length + 1))) 70 18 (nI st.length)) 70 18 (nI (st.length + 1))) (tb_up2 J 78 st.length (pu_op k x y)) (pu_op k x y :: st) st' (by omega) (by omega) (by rw [pu_u2p _ _ _ _ (by decide), pu_u2p _ _ _ _ (by decide), pu_u2p _ _ _ _ (by decide)]; exact c5) (by rw [pu_u2s]; rfl) ⟨pu_u2s _ _ _ _, pu_sk_eq st (fun z hz => pu_u2k _ _ _ _ (by omega)) hk.2.2⟩ (by rw [List.length_cons]; omega) (fun z hz => by rw [pu_u2p _ _ _ _ (by decide)]; exact hw z hz) hev
            exact ⟨I', J', a1, a2, a3, a4, ((pu_Sf.i.tr pu_Sf.i).tr pu_Sf.ij).tr a5⟩
          | [_], hev, _, _, _ => cases hev
          | [], hev, _, _, _ => cases hev
/-- the worth of a code -/
def pu_val (wd : Nat → Int64) (c : List (Nat × Nat)) : Int64 := match pu_ev wd c [] with
  | some (v :: _) => v
  | _ => 0
theorem pu_val_ev {wd : Nat → Int64} {c : List (Nat × Nat)} {b : Bool} (h : pu_tp c [] = some [b]) : pu_ev wd c [] = some [pu_val wd c] ∧ (b = true → pu_val wd c = 0 ∨ pu_val wd c = 1) := by
  obtain ⟨st', h1, h2⟩ := pu_tp_ev wd c [] [b] [] h trivial
  match st', h1, h2 with
  | [v], h1, h2 =>
    have e : pu_val wd c = v := by unfold pu_val; rw [h1]
    rw [e]
    exact ⟨h1, h2.1⟩
  | [], _, h2 => exact h2.elim
  | _ :: _ :: _, _, h2 => exact h2.2.elim
theorem pu_m_reckons {I : Nat → Nat → Int32} {J : Nat → Nat → Int64} (hM : pu_M s R) {wd : Nat → Int64} {r b : Nat} {c : List (Nat × Nat)} {t : Bool} (hr : r ≤ 5) (he : b + c.length ≤ 400) (hc : pu_cd (I 72) (400 * r + b) c) (hv : pu_nv c ≤ 64) (hw : ∀ k, k < 12 → J 79 k = wd k) (ht : pu_tp c [] = some [t]) :
    ∃ I' J', fb_m_reckons 70 (nI r) (nI b) (nI (b + c.length)) (s, I, J, R) = some (pu_val wd c, (s, I', J', R)) ∧ pu_Sf I I' J J' := by
  unfold fb_m_reckons
  simp only [pu_pI (pu_m70 hM), Option.bind_some]
  obtain ⟨I', J', a1, a2, a3, a4, a5⟩ := pu_m_reck_l hM wd hr he c b 1048576 (tb_up2 I 70 18 0) J [] [pu_val wd c] rfl (by omega) (by rw [pu_u2p _ _ _ _ (by decide)]; exact hc) (pu_u2s _ _ _ _) trivial (by rw [show ([] : List Int64).length = 0 from rfl]; omega) hw (pu_val_ev ht).1
  simp only [a1, Option.bind_some, pu_on (pu_m70 hM), pu_m_pop (J := J') hM (n := 0) a2 (by omega)]
  have e : J' 78 0 = pu_val wd c := a4.1
  rw [e]
  exact ⟨_, _, rfl, (pu_Sf.i.tr a5).tr pu_Sf.i⟩
/-- a rule: clauses, each a sum and perhaps a test -/
abbrev pu_Ru : Type := List (List (Nat × Nat) × Option (List (Nat × Nat)))
def pu_rho (wd : Nat → Int64) : pu_Ru → Int64
  | [] => 0
  | (sm, none) :: _ => pu_val wd sm
  | (sm, some t) :: cs => if pu_val wd t = 1 then pu_val wd sm else pu_rho wd cs
def pu_ok : pu_Ru → Prop
  | [] => True
  | (sm, none) :: cs => pu_tp sm [] = some [false] ∧ pu_nv sm ≤ 60 ∧ pu_ok cs
  | (sm, some t) :: cs => pu_tp sm [] = some [false] ∧ pu_tp t [] = some [true] ∧ pu_nv sm + pu_nv t ≤ 60 ∧ pu_ok cs
/-- clauses i and on of rule r lie in the reference's rows -/
def pu_RM (f g : Nat → Int32) (r : Nat) : Nat → pu_Ru → Prop
  | _, [] => True
  | i, (sm, none) :: cs => (∃ b, b + sm.length ≤ 400 ∧ g (48 * r + 4 * i) = nI b ∧ g (48 * r + 4 * i + 1) = nI (b + sm.length) ∧ g (48 * r + 4 * i + 2) = -1 ∧ pu_cd f (400 * r + b) sm) ∧ pu_RM f g r (i + 1) cs
  | i, (sm, some t) :: cs => (∃ b d, b + sm.length ≤ 400 ∧ d + t.length ≤ 400 ∧ g (48 * r + 4 * i) = nI b ∧ g (48 * r + 4 * i + 1) = nI (b + sm.length) ∧ g (48 * r + 4 * i + 2) = nI d ∧ g (48 * r + 4 * i + 3) = nI (d + t.length) ∧ pu_cd f (400 * r + b) sm ∧ pu_cd f (400 * r + d) t) ∧ pu_RM f g r (i + 1) cs
theorem pu_m_summedBy_l (hM : pu_M s R) {wd : Nat → Int64} {r e : Nat} (hr : r ≤ 5) (he : e ≤ 12) : ∀ (ru : pu_Ru) (i n : Nat) (I : Nat → Nat → Int32) (J : Nat → Nat → Int64), i + ru.length = e → ru.length < n → I 75 r = nI e → pu_RM (I 72) (I 74) r i ru → pu_ok ru → (∀ k, k < 12 → J 79 k = wd k) →
    ∃ I' J', fl_m_summedBy_2 n 70 (nI r) (nI i) (s, I, J, R) = some (pu_rho wd ru, (s, I', J', R)) ∧ pu_Sf I I' J J' := by
  intro ru
  induction ru with
  | nil =>
    intro i n I J hi hn h75 hm hok hw
    obtain ⟨n, rfl⟩ : ∃ z, n = z + 1 := ⟨n - 1, by have : ([] : pu_Ru).length = 0 := rfl; omega⟩
    have hi : i = e := hi
    unfold fl_m_summedBy_2
    simp only [pu_gN (pu_m70 hM), pu_r6 hM, Option.bind_some, pu_lI (pu_m75 hM) (show r < 6 by omega) (show 6 ≤ 100000 by omega), h75, pu_ltI (show i < 2147483648 by omega) (show e < 2147483648 by omega), show ¬ i < e by omega, ↓reduceIte, fj_m_summedBy_j57]
    exact ⟨I, J, rfl, pu_Sf.rf⟩
  | cons q ru ih =>
    obtain ⟨sm, t⟩ := q
    intro i n I J hi hn h75 hm hok hw
    rw [List.length_cons] at hi hn
    obtain ⟨n, rfl⟩ : ∃ z, n = z + 1 := ⟨n - 1, by omega⟩
    have hx : (48 : Int32) * nI r + 4 * nI i = nI (48 * r + 4 * i) := by rw [pu_M48, pu_M4, nI_add]
    unfold fl_m_summedBy_2
    simp only [pu_gN (pu_m70 hM), pu_r6 hM, pu_r5 hM, Option.bind_some, pu_lI (pu_m75 hM) (show r < 6 by omega) (show 6 ≤ 100000 by omega), h75, pu_ltI (show i < 2147483648 by omega) (show e < 2147483648 by omega), show i < e by omega, ↓reduceIte, hx, pu_R2, pu_R3, pu_lI (pu_m74 hM) (show 48 * r + 4 * i + 2 < 288 by omega) (show 288 ≤ 100000 by omega), pu_lI (pu_m74 hM) (show 48 * r + 4 * i + 3 < 288 by omega) (show 288 ≤ 100000 by omega)]
    match t, hm, hok with
    | none, hm, hok =>
      obtain ⟨⟨b, b1, b2, b3, b4, b5⟩, hm⟩ := hm
      obtain ⟨o1, o2, o3⟩ := hok
      obtain ⟨I', J', a1, a2⟩ := pu_m_reckons (J := J) hM hr b1 b5 (by omega) hw o1
      simp only [b4, show ((-1 : Int32) < 0) by decide, ↓reduceIte, fj_m_summedBy_j41, pu_gN (pu_m70 hM), pu_r5 hM, Option.bind_some, pu_R1, pu_lI (pu_m74 hM) (show 48 * r + 4 * i < 288 by omega) (show 288 ≤ 100000 by omega), pu_lI (pu_m74 hM) (show 48 * r + 4 * i + 1 < 288 by omega) (show 288 ≤ 100000 by omega), b2, b3, pu_on (pu_m70 hM), a1]
      exact ⟨I', J', rfl, a2⟩
    | some t, hm, hok =>
      obtain ⟨⟨b, d, b1, b2, b3, b4, b5, b6, b7, b8⟩, hm⟩ := hm
      obtain ⟨o1, o2, o3, o4⟩ := hok
      obtain ⟨I1, J1, a1, a2⟩ := pu_m_reckons (J := J) hM hr b2 b8 (by omega) hw o2
      simp only [b5, b6, pu_lt0 (show d < 2147483648 by omega), ↓reduceIte, pu_on (pu_m70 hM), a1, Option.bind_some, lg_cmp_eq]
      have g74 : I1 74 = I 74 := a2.1 74 (by decide)
      have g72 : I1 72 = I 72 := a2.1 72 (by decide)
      have g75 : I1 75 = I 75 := a2.1 75 (by decide)
      have hw1 : ∀ k, k < 12 → J1 79 k = wd k := fun k hk => by rw [a2.2.2 79 (by decide)]; exact hw k hk
      have hrho : pu_rho wd ((sm, some t) :: ru) = if pu_val wd t = 1 then pu_val wd sm else pu_rho wd ru := rfl
      rw [hrho]
      by_cases hv : pu_val wd t = 1
      · obtain ⟨I', J', c1, c2⟩ := pu_m_reckons (I := I1) (J := J1) hM hr b1 (by rw [g72]; exact b7) (by omega) hw1 o1
        simp only [hv, ↓reduceIte, fj_m_summedBy_j41, pu_gN (pu_m70 hM), pu_r5 hM, Option.bind_some, pu_R1, pu_lI (pu_m74 hM) (show 48 * r + 4 * i < 288 by omega) (show 288 ≤ 100000 by omega), pu_lI (pu_m74 hM) (show 48 * r + 4 * i + 1 < 288 by omega) (show 288 ≤ 100000 by omega), g74, b3, b4, pu_on (pu_m70 hM), c1]
        exact ⟨I', J', rfl, a2.tr c2⟩
      · simp only [hv, ↓reduceIte]
        rw [← nI_succ]
        obtain ⟨I', J', c1, c2⟩ := ih (i + 1) n I1 J1 (by omega) (by omega) (by rw [g75]; exact h75) (by rw [g72, g74]; exact hm) o4 hw1
        exact ⟨I', J', c1, a2.tr c2⟩
theorem pu_m_summedBy {I : Nat → Nat → Int32} {J : Nat → Nat → Int64} (hM : pu_M s R) {wd : Nat → Int64} {r : Nat} {ru : pu_Ru} (hr : r ≤ 5) (he : ru.length ≤ 12) (h75 : I 75 r = nI ru.length) (hm : pu_RM (I 72) (I 74) r 0 ru) (hok : pu_ok ru) (hw : ∀ k, k < 12 → J 79 k = wd k) :
    ∃ I' J', fb_m_summedBy 70 (nI r) (s, I, J, R) = some (pu_rho wd ru, (s, I', J', R)) ∧ pu_Sf I I' J J' := by
  obtain ⟨I', J', c1, c2⟩ := pu_m_summedBy_l hM hr he ru 0 1048576 I J (by omega) (by omega) h75 hm hok hw
  unfold fb_m_summedBy
  rw [show nI 0 = 0 from rfl] at c1
  rw [c1]
  exact ⟨I', J', rfl, c2⟩
end PUH
