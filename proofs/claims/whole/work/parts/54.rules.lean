/-! ===== Rules: steps of a code (kind, number), reckoned on a row of longs; the reference's reckoning ===== -/
def pu_op (k : Nat) (x y : Int64) : Int64 :=
  if k = 2 then x + y else if k = 3 then x - y else if k = 4 then x * y else if k = 5 then (if y = 0 then 0 else x / y) else if k = 6 then (if x < y then 1 else 0) else if k = 7 then (if x ≤ y then 1 else 0)
  else if k = 8 then (if x = y then 1 else 0) else if k = 9 then (if x < y then 0 else 1) else if k = 10 then (if y < x then 1 else 0) else if k = 12 then x &&& y else if k = 13 then x ||| y else if k = 14 then (if y = 0 then 0 else x - x / y * y) else x ||| y
def pu_ev (wd : Nat → Int64) : List (Nat × Nat) → List Int64 → Option (List Int64)
  | [], st => some st
  | (k, v) :: c, st => if k = 0 then pu_ev wd c ((nI v).toInt64 :: st) else if k = 1 then pu_ev wd c (wd v :: st) else if k = 11 then (match st with | x :: st => pu_ev wd c ((1 - x) :: st) | [] => none) else (match st with | y :: x :: st => pu_ev wd c (pu_op k x y :: st) | _ => none)
/-- kinds of what is heaped: true a truth, false a number -/
def pu_tp : List (Nat × Nat) → List Bool → Option (List Bool)
  | [], ts => some ts
  | (k, _) :: c, ts => if k ≤ 1 then pu_tp c (false :: ts) else if k = 11 then (match ts with | true :: ts => pu_tp c (true :: ts) | _ => none) else (match ts with
    | b1 :: b2 :: ts => if k = 12 ∨ k = 13 then (if (b1 && b2) = true then pu_tp c (true :: ts) else none) else if 6 ≤ k ∧ k ≤ 10 then (if (!b1 && !b2) = true then pu_tp c (true :: ts) else none) else if k ≤ 5 ∨ k = 14 then (if (!b1 && !b2) = true then pu_tp c (false :: ts) else none) else none
    | _ => none)
/-- how many values a code has -/
def pu_nv : List (Nat × Nat) → Nat
  | [] => 0
  | (k, _) :: c => pu_nv c + (if k ≤ 1 then 1 else 0)
def pu_ty : List Bool → List Int64 → Prop
  | [], [] => True
  | b :: ts, x :: st => (b = true → x = 0 ∨ x = 1) ∧ pu_ty ts st
  | _, _ => False
theorem pu_01 {c : Prop} [Decidable c] : (if c then (1 : Int64) else 0) = 0 ∨ (if c then (1 : Int64) else 0) = 1 := by
  by_cases h : c
  · rw [if_pos h]; exact Or.inr rfl
  · rw [if_neg h]; exact Or.inl rfl
theorem pu_10 {c : Prop} [Decidable c] : (if c then (0 : Int64) else 1) = 0 ∨ (if c then (0 : Int64) else 1) = 1 := by
  by_cases h : c
  · rw [if_pos h]; exact Or.inl rfl
  · rw [if_neg h]; exact Or.inr rfl
theorem pu_tp_ev (wd : Nat → Int64) : ∀ (c : List (Nat × Nat)) (ts ts' : List Bool) (st : List Int64), pu_tp c ts = some ts' → pu_ty ts st → ∃ st', pu_ev wd c st = some st' ∧ pu_ty ts' st' := by
  intro c
  induction c with
  | nil =>
    intro ts ts' st h ht
    have h : some ts = some ts' := h
    cases h
    exact ⟨st, rfl, ht⟩
  | cons q c ih =>
    obtain ⟨k, v⟩ := q
    intro ts ts' st h ht
    unfold pu_tp at h
    unfold pu_ev
    by_cases h0 : k = 0
    · subst h0
      rw [if_pos (by omega)] at h
      rw [if_pos rfl]
      exact ih _ _ _ h ⟨fun z => (by cases z), ht⟩
    · by_cases h1 : k = 1
      · subst h1
        rw [if_pos (by omega)] at h
        rw [if_neg h0, if_pos rfl]
        exact ih _ _ _ h ⟨fun z => (by cases z), ht⟩
      · rw [if_neg (by omega)] at h
        rw [if_neg h0, if_neg h1]
        by_cases h11 : k = 11
        · rw [if_pos h11] at h ⊢
          match ts, st, ht, h with
          | true :: ts, x :: st, ht, h =>
            refine ih _ _ _ h ⟨fun _ => ?_, ht.2⟩
            rcases ht.1 rfl with e | e
            · rw [e]; exact Or.inr rfl
            · rw [e]; exact Or.inl rfl
          | false :: ts, _, _, h => cases h
          | [], _, _, h => cases h
        · rw [if_neg h11] at h ⊢
          match ts, st, ht, h with
          | b1 :: b2 :: ts, y :: x :: st, ht, h =>
            dsimp only at h ⊢
            split at h
            · rename_i hk
              split at h
              · rename_i hb
                rw [Bool.and_eq_true] at hb
                refine ih _ _ _ h ⟨fun _ => ?_, ht.2.2⟩
                have hy := ht.1 hb.1
                have hx := ht.2.1 hb.2
                rcases hk with hk | hk <;> subst hk <;> rcases hx with hx | hx <;> rcases hy with hy | hy <;> subst hx <;> subst hy <;> decide
              · cases h
            · split at h
              · rename_i hk
                split at h
                · refine ih _ _ _ h ⟨fun _ => ?_, ht.2.2⟩
                  have : k = 6 ∨ k = 7 ∨ k = 8 ∨ k = 9 ∨ k = 10 := by omega
                  unfold pu_op
                  rcases this with e | e | e | e | e <;> subst e <;> simp only [Nat.reduceEqDiff, ↓reduceIte] <;> first | exact pu_01 | exact pu_10
                · cases h
              · split at h
                · split at h
                  · exact ih _ _ _ h ⟨fun z => (by cases z), ht.2.2⟩
                  · cases h
                · cases h
          | [_], _, _, h => cases h
          | [], _, _, h => cases h
theorem pu_ty_len : ∀ (ts : List Bool) (st : List Int64), pu_ty ts st → st.length = ts.length
  | [], [], _ => rfl
  | _ :: ts, _ :: st, h => by rw [List.length_cons, List.length_cons, pu_ty_len ts st h.2]
  | [], _ :: _, h => h.elim
  | _ :: _, [], h => h.elim
/-- more below changes nothing -/
theorem pu_ev_app (wd : Nat → Int64) (b : List Int64) : ∀ (c : List (Nat × Nat)) (st st' : List Int64), pu_ev wd c st = some st' → pu_ev wd c (st ++ b) = some (st' ++ b) := by
  intro c
  induction c with
  | nil =>
    intro st st' h
    have h : some st = some st' := h
    cases h
    rfl
  | cons q c ih =>
    obtain ⟨k, v⟩ := q
    intro st st' h
    unfold pu_ev at h ⊢
    by_cases h0 : k = 0
    · rw [if_pos h0] at h ⊢
      exact ih _ _ h
    · rw [if_neg h0] at h ⊢
      by_cases h1 : k = 1
      · rw [if_pos h1] at h ⊢
        exact ih _ _ h
      · rw [if_neg h1] at h ⊢
        by_cases h11 : k = 11
        · rw [if_pos h11] at h ⊢
          match st, h with
          | x :: st, h => exact ih _ _ h
          | [], h => cases h
        · rw [if_neg h11] at h ⊢
          match st, h with
          | y :: x :: st, h => exact ih _ _ h
          | [_], h => cases h
          | [], h => cases h
/-- a row of longs holds what is heaped -/
def pu_sk (f : Nat → Int64) : List Int64 → Prop
  | [] => True
  | v :: st => f st.length = v ∧ pu_sk f st
theorem pu_sk_eq {f g : Nat → Int64} : ∀ (st : List Int64), (∀ k, k < st.length → g k = f k) → pu_sk f st → pu_sk g st
  | [], _, _ => trivial
  | v :: st, h, ⟨h1, h2⟩ => ⟨(h _ (by rw [List.length_cons]; omega)).trans h1, pu_sk_eq st (fun k hk => h k (by rw [List.length_cons]; omega)) h2⟩
/-- cells of the reference's code -/
def pu_cd (f : Nat → Int32) : Nat → List (Nat × Nat) → Prop
  | _, [] => True
  | b, (k, v) :: c => f b = nI (k + 16 * v) ∧ k ≤ 14 ∧ v ≤ 99999 ∧ (k = 1 → v < 12) ∧ pu_cd f (b + 1) c
theorem pu_cd_eq {f g : Nat → Int32} : ∀ (c : List (Nat × Nat)) (b : Nat), (∀ k, b ≤ k → k < b + c.length → g k = f k) → pu_cd f b c → pu_cd g b c
  | [], _, _, _ => trivial
  | (k, v) :: c, b, h, ⟨h1, h2, h3, h4, h5⟩ => ⟨(h b (by omega) (by rw [List.length_cons]; omega)).trans h1, h2, h3, h4, pu_cd_eq c (b + 1) (fun k hk hk2 => h k (by omega) (by rw [List.length_cons]; omega)) h5⟩
/-- the reference's heap has been used, and nothing else -/
def pu_Sf (I I' : Nat → Nat → Int32) (J J' : Nat → Nat → Int64) : Prop := (∀ q, q ≠ 70 → I' q = I q) ∧ (∀ k, k ≠ 18 → I' 70 k = I 70 k) ∧ (∀ q, q ≠ 78 → J' q = J q)
theorem pu_Sf.rf {I : Nat → Nat → Int32} {J : Nat → Nat → Int64} : pu_Sf I I J J := ⟨fun _ _ => rfl, fun _ _ => rfl, fun _ _ => rfl⟩
theorem pu_Sf.tr {I I' I2 : Nat → Nat → Int32} {J J' J2 : Nat → Nat → Int64} (a : pu_Sf I I' J J') (b : pu_Sf I' I2 J' J2) : pu_Sf I I2 J J2 := ⟨fun q hq => (b.1 q hq).trans (a.1 q hq), fun k hk => (b.2.1 k hk).trans (a.2.1 k hk), fun k hk => (b.2.2 k hk).trans (a.2.2 k hk)⟩
theorem pu_Sf.ij {I : Nat → Nat → Int32} {J : Nat → Nat → Int64} {v : Int32} {k : Nat} {x : Int64} : pu_Sf I (tb_up2 I 70 18 v) J (tb_up2 J 78 k x) := ⟨fun _ hq => pu_u2p _ _ _ _ hq, fun _ hk => pu_u2k _ _ _ _ hk, fun _ hq => pu_u2p _ _ _ _ hq⟩
theorem pu_Sf.i {I : Nat → Nat → Int32} {J : Nat → Nat → Int64} {v : Int32} : pu_Sf I (tb_up2 I 70 18 v) J J := ⟨fun _ hq => pu_u2p _ _ _ _ hq, fun _ hk => pu_u2k _ _ _ _ hk, fun _ _ => rfl⟩
section PUG
variable {s : List (Nat × Nat)} {R : Nat → Nat → Option Nat}
theorem pu_tJ {I : Nat → Nat → Int32} {J : Nat → Nat → Int64} {p n j : Nat} {v : Int64} (h : s[p]? = some (2, n)) (hj : j < n) (hn : n ≤ 100000) : tb_tJ p (nI j) v (s, I, J, R) = some (s, I, tb_up2 J p j v, R) := by
  unfold tb_tJ
  simp only [h, pu_in hj hn, nI_clamp (show j < 2 ^ 31 by omega)]
  rfl
theorem pu_lJ {I : Nat → Nat → Int32} {J : Nat → Nat → Int64} {p n j : Nat} (h : s[p]? = some (2, n)) (hj : j < n) (hn : n ≤ 100000) : tb_lJ p (nI j) (s, I, J, R) = some (J p j) := by
  unfold tb_lJ
  simp only [h, pu_in hj hn, nI_clamp (show j < 2 ^ 31 by omega)]
  rfl
theorem pu_m_push {I : Nat → Nat → Int32} {J : Nat → Nat → Int64} (hM : pu_M s R) {n : Nat} (hn : I 70 18 = nI n) (h64 : n < 64) (v : Int64) : fb_m_push 70 v (s, I, J, R) = some (s, tb_up2 I 70 18 (nI (n + 1)), tb_up2 J 78 n v, R) := by
  unfold fb_m_push
  simp only [pu_gN (pu_m70 hM), pu_r17 hM, pu_gI (pu_m70 hM), Option.bind_some, hn, pu_tJ (pu_m78 hM) h64 (by omega), pu_pI (pu_m70 hM), pu_R1]
theorem pu_m_pop {I : Nat → Nat → Int32} {J : Nat → Nat → Int64} (hM : pu_M s R) {n : Nat} (hn : I 70 18 = nI (n + 1)) (h64 : n < 64) : fb_m_pop 70 (s, I, J, R) = some (J 78 n, (s, tb_up2 I 70 18 (nI n), J, R)) := by
  unfold fb_m_pop
  simp only [pu_gN (pu_m70 hM), pu_r17 hM, pu_gI (pu_m70 hM), Option.bind_some, hn, nI_pred, pu_pI (pu_m70 hM), pu_u2s, pu_lJ (pu_m78 hM) h64 (show 64 ≤ 100000 by omega)]
theorem pu_and15 {k v : Nat} (hk : k ≤ 14) : nI (k + 16 * v) &&& 15 = nI k := by
  have h : nI (k + 16 * v) &&& nI (2 ^ 4 - 1) = nI ((k + 16 * v) % 2 ^ 4) := by
    apply Int32.toBitVec_inj.1
    show BitVec.ofNat 32 (k + 16 * v) &&& BitVec.ofNat 32 (2 ^ 4 - 1) = BitVec.ofNat 32 ((k + 16 * v) % 2 ^ 4)
    rw [← Nat.and_two_pow_sub_one_eq_mod]
    apply BitVec.eq_of_getLsbD_eq
    intro i hi
    simp [hi]
  rw [show (15 : Int32) = nI (2 ^ 4 - 1) from rfl, h]
  congr 1
  omega
theorem pu_shr4 {k v : Nat} (hk : k ≤ 14) (hv : v ≤ 99999) : nI (k + 16 * v) >>> ((4 : Int32) &&& 31) = nI v := by
  rw [pk_shrN (by omega) ((4 : Int32) &&& 31) 4 (by decide)]
  congr 1
  omega
theorem pu_m_one {k : Nat} (hk : 2 ≤ k) (hk2 : k ≤ 14) (x y : Int64) (w : tb_Hp) : fb_m_one (nI k) x y w = some (pu_op k x y, w) := by
  unfold fb_m_one pu_op
  have e : ∀ j, j ≤ 14 → (nI k = nI j) = (k = j) := fun j hj => pu_eqI (by omega) (by omega)
  simp only [show (2 : Int32) = nI 2 from rfl, show (3 : Int32) = nI 3 from rfl, show (4 : Int32) = nI 4 from rfl, show (5 : Int32) = nI 5 from rfl, show (6 : Int32) = nI 6 from rfl, show (7 : Int32) = nI 7 from rfl, show (8 : Int32) = nI 8 from rfl, show (9 : Int32) = nI 9 from rfl, show (10 : Int32) = nI 10 from rfl, show (11 : Int32) = nI 11 from rfl, show (12 : Int32) = nI 12 from rfl, show (13 : Int32) = nI 13 from rfl, show (14 : Int32) = nI 14 from rfl, e 2 (by omega), e 3 (by omega), e 4 (by omega), e 5 (by omega), e 6 (by omega), e 7 (by omega), e 8 (by omega), e 9 (by omega), e 10 (by omega), e 11 (by omega), e 12 (by omega), e 13 (by omega), e 14 (by omega), lg_cmp_lt, lg_cmp_le, lg_cmp_eq, lg_cmp_gt]
  have : k = 2 ∨ k = 3 ∨ k = 4 ∨ k = 5 ∨ k = 6 ∨ k = 7 ∨ k = 8 ∨ k = 9 ∨ k = 10 ∨ k = 11 ∨ k = 12 ∨ k = 13 ∨ k = 14 := by omega
  rcases this with e | e | e | e | e | e | e | e | e | e | e | e | e <;> subst e <;> simp only [Nat.reduceEqDiff, ↓reduceIte] <;> (try split) <;> first | rfl | (split <;> first | rfl | contradiction)
end PUG
