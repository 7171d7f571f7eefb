/-! ===== The class's judge: a rule's worth, a year ===== -/
section PUK
variable {s : List (Nat × Nat)} {R : Nat → Nat → Option Nat} {p : Nat} {A : pu_A}
theorem pu_jg_run (hJ : pu_Jg s R) (h : pu_St s R p) (hp : p + 7 ≤ 40 ∨ 40 < p) (wf : pu_wf A) {l c0 m : Nat} (hu : A.2 0 l = true) (hc0 : s[c0]? = some (1, m)) (hm : m ≤ 400) (h40 : c0 ≠ 40) : ∀ (c : List (Nat × Nat)) (i n : Nat) (I : Nat → Nat → Int32) (J : Nat → Nat → Int64) (st : List Int64) (ts ts' : List Bool), i + c.length ≤ m → pu_V I p A → pu_cc (I c0) i c → I 40 1 = nI st.length → pu_sk (J 41) st → st.length + pu_nv c ≤ 64 → pu_ty ts st → pu_tp c ts = some ts' →
    ∃ st' I' J', pu_ev (pu_wd A l) c st = some st' ∧ pu_ty ts' st' ∧ fl_jg_worth_5 (n + c.length) 40 c0 p (nI l) (nI i) (s, I, J, R) = fl_jg_worth_5 n 40 c0 p (nI l) (nI (i + c.length)) (s, I', J', R) ∧ I' 40 1 = nI st'.length ∧ pu_sk (J' 41) st' ∧ pu_Jf I I' J J' := by
  intro c
  induction c with
  | nil =>
    intro i n I J st ts ts' hi v hc hl hk h64 ht hp1
    have hp1 : some ts = some ts' := hp1
    cases hp1
    exact ⟨st, I, J, rfl, ht, rfl, hl, hk, pu_Jf.rf⟩
  | cons q c ih =>
    obtain ⟨k, x⟩ := q
    intro i n I J st ts ts' hi v hc hl hk h64 ht hp1
    rw [List.length_cons] at hi
    obtain ⟨c1, c2, c3, c4, c5⟩ := hc
    have hnv : pu_nv ((k, x) :: c) = pu_nv c + (if k ≤ 1 then 1 else 0) := rfl
    rw [hnv] at h64
    rw [List.length_cons, show n + (c.length + 1) = (n + c.length) + 1 by omega, show i + (c.length + 1) = (i + 1) + c.length by omega]
    have vn : ∀ (I2 : Nat → Nat → Int32), (∀ q, q ≠ 40 → I2 q = I q) → pu_V I2 p A := fun I2 e => pu_V_eq (fun j hj => e _ (by omega)) v
    -- behind a push of x on st2
    have step : ∀ (st2 : List Int64) (I2 : Nat → Nat → Int32) (y : Int64) (ts2 : List Bool), pu_Jf I I2 J J → I2 40 1 = nI st2.length → pu_sk (J 41) st2 → st2.length + 1 + pu_nv c ≤ 64 → pu_ty ts2 (y :: st2) → pu_tp c ts2 = some ts' →
        ∃ st' I' J', pu_ev (pu_wd A l) c (y :: st2) = some st' ∧ pu_ty ts' st' ∧ ((tb_on 11 40 (s, I2, J, R) (fb_jg_push 40 y (s, I2, J, R))).bind fun z => fl_jg_worth_5 (n + c.length) 40 c0 p (nI l) (nI i + 1) z) = fl_jg_worth_5 n 40 c0 p (nI l) (nI ((i + 1) + c.length)) (s, I', J', R) ∧ I' 40 1 = nI st'.length ∧ pu_sk (J' 41) st' ∧ pu_Jf I I' J J' := by
      intro st2 I2 y ts2 f2 l2 k2 h2 t2 p2
      rw [pu_on hJ.1, pu_jg_push hJ l2 (by omega), Option.bind_some, ← nI_succ]
      obtain ⟨st', I', J', a1, a2, a3, a4, a5, a6⟩ := ih (i + 1) n (tb_up2 I2 40 1 (nI (st2.length + 1))) (tb_up2 J 41 st2.length y) (y :: st2) ts2 ts' (by omega) (vn _ (fun q hq => by rw [pu_u2p _ _ _ _ hq, f2.1 q hq])) (by rw [pu_u2p _ _ _ _ h40, f2.1 c0 h40]; exact c5) (by rw [pu_u2s]; rfl) ⟨pu_u2s _ _ _ _, pu_sk_eq st2 (fun z hz => pu_u2k _ _ _ _ (by omega)) k2⟩ (by rw [List.length_cons]; omega) t2 p2
      exact ⟨st', I', J', a1, a2, a3, a4, a5, (f2.tr pu_Jf.ij).tr a6⟩
    have hal : ∀ (I2 : Nat → Nat → Int32) (J2 : Nat → Nat → Int64), tb_al c0 (s, I2, J2, R) = some (nI m) := fun I2 J2 => pu_al hc0
    rw [fl_jg_worth_5.eq_2]
    simp only [hal, Option.bind_some, pu_ltI (show i < 2147483648 by omega) (show m < 2147483648 by omega), show i < m by omega, ↓reduceIte, pu_lI hc0 (show i < m by omega) (show m ≤ 100000 by omega), c1]
    unfold pu_tp at hp1
    unfold pu_ev
    by_cases h0 : k = 0
    · subst h0
      rw [if_pos (by omega)] at hp1 h64
      rw [show pu_en 0 x = nI x from rfl]
      simp only [pu_lt0 (show x < 2147483648 by omega), ↓reduceIte]
      exact step st I _ (false :: ts) pu_Jf.rf hl hk (by omega) ⟨fun z => (by cases z), ht⟩ hp1
    · by_cases h1 : k = 1
      · subst h1
        rw [if_pos (by omega)] at hp1 h64
        have hx : x < 12 := c4 rfl
        rw [show pu_en 1 x = -(nI (20 + x)) from rfl]
        have e1 : -(nI (20 + x)) < 0 ∧ ¬ (-(nI (20 + x)) < -31) ∧ -(nI (20 + x)) ≤ -20 := by
          have : ∀ z, z < 12 → -(nI (20 + z)) < 0 ∧ ¬ (-(nI (20 + z)) < -31) ∧ -(nI (20 + z)) ≤ -20 := by decide +kernel
          exact this x hx
        simp only [e1.1, e1.2.1, e1.2.2, ↓reduceIte, Int32.neg_neg, pu_jg_wordOf h v wf hu hx, Option.bind_some, h0]
        exact step st I _ (false :: ts) pu_Jf.rf hl hk (by omega) ⟨fun z => (by cases z), ht⟩ hp1
      · rw [if_neg (by omega)] at hp1
        rw [if_neg (by omega), Nat.add_zero] at h64
        obtain ⟨d1, d2, d3, d4, d5⟩ := pu_en_c (v := x) (show 2 ≤ k by omega) c2
        simp only [d1, ↓reduceIte, h0, h1]
        have ej : ∀ (X Y : Option (Int64 × tb_Hp)), (if pu_en k x < -31 then X else if pu_en k x ≤ -20 then Y else X) = X := by
          intro X Y
          rcases d2 with d2 | d2
          · rw [if_pos d2]
          · by_cases z : pu_en k x < -31
            · rw [if_pos z]
            · rw [if_neg z, if_neg d2]
        rw [ej]
        unfold fj_jg_worth_j35
        rw [if_neg d3, if_neg d4]
        by_cases h11 : k = 11
        · rw [if_pos h11] at hp1
          rw [if_pos (d5.mpr h11), if_pos h11]
          match ts, st, ht, hp1, hl, hk, h64 with
          | true :: ts, y :: st, ht, hp1, hl, hk, h64 =>
            rw [List.length_cons] at hl h64
            have hpp := pu_jg_pop (J := J) hJ hl (by omega)
            rw [hk.1] at hpp
            simp only [pu_on hJ.1, hpp, Option.bind_some, lg_cmp_eq]
            rcases ht.1 rfl with e | e
            · subst e
              rw [if_pos rfl]
              have := step st (tb_up2 I 40 1 (nI st.length)) 1 (true :: ts) pu_Jf.i (pu_u2s _ _ _ _) hk.2 (by omega) ⟨fun _ => Or.inr rfl, ht.2⟩ hp1
              rw [pu_on hJ.1] at this
              exact this
            · subst e
              rw [if_neg (by decide)]
              have := step st (tb_up2 I 40 1 (nI st.length)) 0 (true :: ts) pu_Jf.i (pu_u2s _ _ _ _) hk.2 (by omega) ⟨fun _ => Or.inl rfl, ht.2⟩ hp1
              rw [pu_on hJ.1] at this
              exact this
          | false :: ts, _, _, hp1, _, _, _ => cases hp1
          | [], _, _, hp1, _, _, _ => cases hp1
        · rw [if_neg h11] at hp1
          rw [if_neg (fun z => h11 (d5.mp z)), if_neg h11]
          match ts, st, ht, hp1, hl, hk, h64 with
          | b1 :: b2 :: ts, y2 :: y1 :: st, ht, hp1, hl, hk, h64 =>
            rw [List.length_cons, List.length_cons] at hl h64
            have hy2 : J 41 (st.length + 1) = y2 := hk.1
            have hy1 : J 41 st.length = y1 := hk.2.1
            have hpp := pu_jg_pop (J := J) hJ hl (by omega)
            have hpp2 := pu_jg_pop (I := tb_up2 I 40 1 (nI (st.length + 1))) (J := J) hJ (pu_u2s _ _ _ _) (show st.length < 64 by omega)
            rw [hy2] at hpp
            rw [hy1] at hpp2
            simp only [pu_on hJ.1, hpp, hpp2, Option.bind_some]
            dsimp only at hp1 ⊢
            have fin : ∀ (ts2 : List Bool), (k = 12 ∨ k = 13 → (y1 = 0 ∨ y1 = 1) ∧ (y2 = 0 ∨ y2 = 1)) → pu_ty ts2 (pu_op k y1 y2 :: st) → pu_tp c ts2 = some ts' → ∃ st' I' J', pu_ev (pu_wd A l) c (pu_op k y1 y2 :: st) = some st' ∧ pu_ty ts' st' ∧
                ((fb_x_within (-pu_en k x) 7 11 (s, tb_up2 (tb_up2 I 40 1 (nI (st.length + 1))) 40 1 (nI st.length), J, R)).bind fun x12 => if x12.1 = 0 then (fb_jg_truth (-pu_en k x) y1 y2 x12.2).bind fun x13 => (tb_on 11 40 x13.2 (fb_jg_push 40 x13.1 x13.2)).bind fun x14 => fl_jg_worth_5 (n + c.length) 40 c0 p (nI l) (nI i + 1) x14 else (fb_jg_reckon (-pu_en k x) y1 y2 x12.2).bind fun x15 => (tb_on 11 40 x15.2 (fb_jg_push 40 x15.1 x15.2)).bind fun x16 => fl_jg_worth_5 (n + c.length) 40 c0 p (nI l) (nI i + 1) x16) = fl_jg_worth_5 n 40 c0 p (nI l) (nI ((i + 1) + c.length)) (s, I', J', R) ∧ I' 40 1 = nI st'.length ∧ pu_sk (J' 41) st' ∧ pu_Jf I I' J J' := by
              intro ts2 hb t2 p2
              have hs := step st (tb_up2 (tb_up2 I 40 1 (nI (st.length + 1))) 40 1 (nI st.length)) (pu_op k y1 y2) ts2 (pu_Jf.i.tr pu_Jf.i) (pu_u2s _ _ _ _) hk.2.2 (by omega) t2 p2
              by_cases ha : k = 2 ∨ k = 3 ∨ k = 4 ∨ k = 5 ∨ k = 14
              · obtain ⟨r1, r2⟩ := pu_en_a (v := x) ha y1 y2 (s, tb_up2 (tb_up2 I 40 1 (nI (st.length + 1))) 40 1 (nI st.length), J, R)
                rw [r1]
                simp only [Option.bind_some, show ¬ ((1 : Int32) = 0) by decide, ↓reduceIte, r2]
                exact hs
              · obtain ⟨r1, r2⟩ := pu_en_b (v := x) (show k = 6 ∨ k = 7 ∨ k = 8 ∨ k = 9 ∨ k = 10 ∨ k = 12 ∨ k = 13 by omega) y1 y2 hb (s, tb_up2 (tb_up2 I 40 1 (nI (st.length + 1))) 40 1 (nI st.length), J, R)
                rw [r1]
                simp only [Option.bind_some, ↓reduceIte, r2]
                exact hs
            split at hp1
            · rename_i hk2
              split at hp1
              · rename_i hb
                rw [Bool.and_eq_true] at hb
                have hy := ht.1 hb.1
                have hx := ht.2.1 hb.2
                refine fin (true :: ts) (fun _ => ⟨hx, hy⟩) ⟨fun _ => ?_, ht.2.2⟩ hp1
                rcases hk2 with hk2 | hk2 <;> subst hk2 <;> rcases hx with hx | hx <;> rcases hy with hy | hy <;> subst hx <;> subst hy <;> decide
              · cases hp1
            · split at hp1
              · rename_i hk3 hk2
                split at hp1
                · refine fin (true :: ts) (fun z => absurd z hk3) ⟨fun _ => ?_, ht.2.2⟩ hp1
                  have : k = 6 ∨ k = 7 ∨ k = 8 ∨ k = 9 ∨ k = 10 := by omega
                  unfold pu_op
                  rcases this with e | e | e | e | e <;> subst e <;> simp only [Nat.reduceEqDiff, ↓reduceIte] <;> first | exact pu_01 | exact pu_10
                · cases hp1
              · rename_i hk3 hk2
                split at hp1
                · split at hp1
                  · exact fin (false :: ts) (fun z => absurd z hk3) ⟨fun z => (by cases z), ht.2.2⟩ hp1
                  · cases hp1
                · cases hp1
          | [_], _, _, hp1, _, _, _ => cases hp1
          | [], _, _, hp1, _, _, _ => cases hp1
end PUK
