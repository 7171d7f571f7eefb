/-! ===== What is read is well kinded ===== -/
theorem pz_tp_app : ∀ (c1 c2 : List (Nat × Nat)) (ts ts1 : List Bool), pu_tp c1 ts = some ts1 → pu_tp (c1 ++ c2) ts = pu_tp c2 ts1 := by
  intro c1
  induction c1 with
  | nil => intro c2 ts ts1 h; have h : some ts = some ts1 := h; cases h; rfl
  | cons q c ih =>
    obtain ⟨k, v⟩ := q
    intro c2 ts ts1 h
    rw [List.cons_append]
    have ih' : ∀ ts, pu_tp c ts = some ts1 → pu_tp (c ++ c2) ts = pu_tp c2 ts1 := fun ts h => ih c2 ts ts1 h
    generalize pu_tp c2 ts1 = X at *
    unfold pu_tp at h ⊢
    by_cases h1 : k ≤ 1
    · rw [if_pos h1] at h ⊢; exact ih' _ h
    · rw [if_neg h1] at h ⊢
      by_cases h2 : k = 11
      · rw [if_pos h2] at h ⊢
        match ts, h with
        | true :: ts, h => exact ih' _ h
        | false :: ts, h => cases h
        | [], h => cases h
      · rw [if_neg h2] at h ⊢
        match ts, h with
        | [], h => cases h
        | [_], h => cases h
        | b1 :: b2 :: ts, h =>
          dsimp only at h ⊢
          by_cases h3 : k = 12 ∨ k = 13
          · rw [if_pos h3] at h ⊢
            by_cases h4 : (b1 && b2) = true
            · rw [if_pos h4] at h ⊢; exact ih' _ h
            · rw [if_neg h4] at h; cases h
          · rw [if_neg h3] at h ⊢
            by_cases h5 : 6 ≤ k ∧ k ≤ 10
            · rw [if_pos h5] at h ⊢
              by_cases h4 : (!b1 && !b2) = true
              · rw [if_pos h4] at h ⊢; exact ih' _ h
              · rw [if_neg h4] at h; cases h
            · rw [if_neg h5] at h ⊢
              by_cases h6 : k ≤ 5 ∨ k = 14
              · rw [if_pos h6] at h ⊢
                by_cases h4 : (!b1 && !b2) = true
                · rw [if_pos h4] at h ⊢; exact ih' _ h
                · rw [if_neg h4] at h; cases h
              · rw [if_neg h6] at h; cases h
theorem pz_nv_app (c1 c2 : List (Nat × Nat)) : pu_nv (c1 ++ c2) = pu_nv c1 + pu_nv c2 := by
  induction c1 with
  | nil => show pu_nv c2 = 0 + pu_nv c2; omega
  | cons q c ih =>
    obtain ⟨k, v⟩ := q
    show pu_nv (c ++ c2) + _ = pu_nv c + _ + pu_nv c2
    rw [ih]; omega
/-- from z0 to z: what was written lays ty on top; m tokens are left at most -/
def pz_G (l : List (Nat × Nat × Nat)) (z0 z : pz_Z) (ty : List Bool) (m : Nat) : Prop :=
  (pu_Rs z.2.2.1 z.2.2.2 ∧ ∃ i, l.drop i = z.2.2.1) ∧ (z.2.2.2 = 0 → z0.2.2.2 = 0 ∧ z.2.2.1.length ≤ m ∧ ∃ c, z.1 = z0.1 ++ c ∧ (∀ ts, pu_tp c ts = some (ty ++ ts)) ∧ z0.2.1 + pu_nv c ≤ z.2.1)
section PUH9
variable {l : List (Nat × Nat × Nat)} {z0 z : pz_Z} {ty : List Bool} {m : Nat}
theorem pz_G.up {m' : Nat} (h : pz_G l z0 z ty m) (hm : m ≤ m') : pz_G l z0 z ty m' := ⟨h.1, fun hz => by obtain ⟨a, b, c⟩ := h.2 hz; exact ⟨a, by omega, c⟩⟩
theorem pz_G.al (h : pz_G l z0 z ty m) (hk : pu_hk z.2.2.1 ≠ 0) : z.2.2.2 = 0 := by
  rcases h.1.1 with ⟨x, _⟩ | ⟨_, x⟩
  · exact x
  · rw [x] at hk; exact absurd rfl hk
theorem pz_G.fz (h : pz_G l z0 z ty m) (why : Nat) (ty' : List Bool) (m' : Nat) : pz_G l z0 (pz_fz z why) ty' m' := by
  have hf : pu_ft z.2.2.1 z.2.2.2 why ≠ 0 := by
    unfold pu_ft
    rcases h.1.1 with ⟨x, y⟩ | ⟨x, _⟩
    · rw [if_pos x]
      cases hr : z.2.2.1 with
      | nil => exact absurd hr y
      | cons t r => dsimp only; omega
    · rw [if_neg x]; exact x
  exact ⟨⟨Or.inr ⟨hf, rfl⟩, l.length, List.drop_length⟩, fun x => absurd x hf⟩
theorem pz_G.tail (he : pu_En l) (h : pz_G l z0 z ty m) (hk : pu_hk z.2.2.1 ≠ 0) : (pu_Rs z.2.2.1.tail z.2.2.2 ∧ ∃ i, l.drop i = z.2.2.1.tail) ∧ z.2.2.1.length = z.2.2.1.tail.length + 1 := by
  have f0 := h.al hk
  obtain ⟨i, hi⟩ := h.1.2
  cases hr : z.2.2.1 with
  | nil => rw [hr] at hk; exact absurd rfl hk
  | cons t r =>
    rw [hr] at hi hk
    exact ⟨⟨Or.inl ⟨f0, he t r ⟨i, hi⟩ hk⟩, i + 1, by rw [← List.drop_drop, hi]; rfl⟩, rfl⟩
theorem pz_G.ad (he : pu_En l) (h : pz_G l z0 z ty (m + 1)) (hk : pu_hk z.2.2.1 ≠ 0) : pz_G l z0 (pz_ad z) ty m := by
  obtain ⟨a1, a2⟩ := h.tail he hk
  refine ⟨a1, fun hz => ?_⟩
  obtain ⟨b1, b2, b3⟩ := h.2 hz
  exact ⟨b1, by show z.2.2.1.tail.length ≤ m; omega, b3⟩
theorem pz_G.tp (he : pu_En l) (h : pz_G l z0 z ty (m + 1)) (hk : pu_hk z.2.2.1 ≠ 0) : pz_G l z0 (pz_tp z) ty m := by
  obtain ⟨a1, a2⟩ := h.tail he hk
  unfold pz_tp
  by_cases hn : z.2.1 < 60
  · rw [if_pos hn]
    refine ⟨a1, fun hz => ?_⟩
    obtain ⟨b1, b2, c, c1, c2, c3⟩ := h.2 hz
    exact ⟨b1, by show z.2.2.1.tail.length ≤ m; omega, c, c1, c2, by show _ ≤ z.2.1 + 1; omega⟩
  · rw [if_neg hn]; exact h.fz 3 ty m
theorem pz_G.em {k v : Nat} {ty' : List Bool} (h : pz_G l z0 z ty m) (hk : 1 < k) (ht : ∀ ts, pu_tp [(k, v)] (ty ++ ts) = some (ty' ++ ts)) : pz_G l z0 (pz_em z k v) ty' m := by
  unfold pz_em
  by_cases hz : z.2.2.2 = 0
  · rw [if_pos hz]
    obtain ⟨b1, b2, c, c1, c2, c3⟩ := h.2 hz
    refine ⟨h.1, fun _ => ⟨b1, b2, c ++ [(k, v)], by show z.1 ++ _ = _; rw [c1, List.append_assoc], fun ts => by rw [pz_tp_app _ _ _ _ (c2 ts)]; exact ht ts, ?_⟩⟩
    rw [pz_nv_app]
    show z0.2.1 + (pu_nv c + (pu_nv [] + (if k ≤ 1 then 1 else 0))) ≤ z.2.1
    rw [if_neg (by omega)]
    show z0.2.1 + (pu_nv c + (0 + 0)) ≤ z.2.1
    omega
  · rw [if_neg hz]
    exact ⟨h.1, fun x => absurd x hz⟩
theorem pz_G.vl (he : pu_En l) (h : pz_G l z0 z ty (m + 1)) : pz_G l z0 (pz_vl z) (false :: ty) m := by
  unfold pz_vl
  cases hr : z.2.2.1 with
  | nil => exact h.fz 0 _ _
  | cons t r =>
    dsimp only
    by_cases hv : t.1 = 2 ∨ (20 ≤ t.1 ∧ t.1 ≤ 31)
    · rw [if_pos hv]
      have hk : pu_hk z.2.2.1 ≠ 0 := by rw [hr]; show t.1 ≠ 0; omega
      have f0 := h.al hk
      obtain ⟨a1, a2⟩ := h.tail he hk
      obtain ⟨b1, b2, c, c1, c2, c3⟩ := h.2 f0
      have em : pz_em z (pz_st t).1 (pz_st t).2 = (z.1 ++ [((pz_st t).1, (pz_st t).2)], z.2) := by unfold pz_em; rw [if_pos f0]
      have hs : (pz_st t).1 ≤ 1 := by
        unfold pz_st
        split
        · show (0 : Nat) ≤ 1; omega
        · show (1 : Nat) ≤ 1; omega
      rw [em]
      unfold pz_tp
      dsimp only
      by_cases hn : z.2.1 < 60
      · rw [if_pos hn]
        refine ⟨a1, fun _ => ⟨b1, by show z.2.2.1.tail.length ≤ m; omega, c ++ [((pz_st t).1, (pz_st t).2)], by show z.1 ++ _ = _; rw [c1, List.append_assoc], fun ts => ?_, ?_⟩⟩
        · rw [pz_tp_app _ _ _ _ (c2 ts)]
          show (if (pz_st t).1 ≤ 1 then some (false :: (ty ++ ts)) else _) = _
          rw [if_pos hs]; rfl
        · rw [pz_nv_app]
          show z0.2.1 + (pu_nv c + (0 + (if (pz_st t).1 ≤ 1 then 1 else 0))) ≤ z.2.1 + 1
          rw [if_pos hs]; omega
      · rw [if_neg hn]
        have hd := h.fz 3 (false :: ty) m
        refine ⟨hd.1, fun x => ?_⟩
        rcases hd.1.1 with ⟨_, y⟩ | ⟨y, _⟩
        · exact absurd rfl y
        · exact absurd x y
    · rw [if_neg hv]
      exact h.fz _ _ _
theorem pz_G.pos (h : pz_G l z0 z ty m) (hz : z.2.2.2 = 0) : 1 ≤ m := by
  rcases h.1.1 with ⟨_, x⟩ | ⟨x, _⟩
  · have := List.length_pos_iff.mpr x
    have := (h.2 hz).2.1
    omega
  · exact absurd hz x
theorem pz_G.dead (h : pz_G l z0 z ty 0) (ty' : List Bool) (m' : Nat) : pz_G l z0 z ty' m' := ⟨h.1, fun hz => by have := h.pos hz; omega⟩
theorem pz_G.vl' (he : pu_En l) (h : pz_G l z0 z ty m) : pz_G l z0 (pz_vl z) (false :: ty) m := by
  cases m with
  | zero => exact pz_G.up (m := 0) ((h.dead ty 1).vl he) (by omega)
  | succ m => exact (h.vl he).up (by omega)
theorem pz_G.tl (he : pu_En l) : ∀ d (z : pz_Z), pz_G l z0 z (false :: ty) m → pz_G l z0 (pz_tl d z) (false :: ty) m := by
  intro d
  induction d with
  | zero => intro z h; exact h
  | succ d ih =>
    intro z h
    show pz_G l z0 (if _ then _ else _) _ _
    by_cases hj : 9 ≤ pu_hk z.2.2.1 ∧ pu_hk z.2.2.1 ≤ 11
    · rw [if_pos hj]
      have hp := h.pos (h.al (by omega))
      obtain ⟨m, rfl⟩ : ∃ x, m = x + 1 := ⟨m - 1, by omega⟩
      refine ih _ (pz_G.up (m := m) (pz_G.em ((h.ad he (by omega)).vl' he) ?_ (fun ts => ?_)) (by omega))
      · unfold pz_jo; split
        · decide
        · split <;> decide
      · have : pu_hk z.2.2.1 = 9 ∨ pu_hk z.2.2.1 = 10 ∨ pu_hk z.2.2.1 = 11 := by omega
        rcases this with x | x | x <;> rw [x] <;> rfl
    · rw [if_neg hj]; exact h
theorem pz_G.ea {a : Nat} {t : Bool} (h : pz_G l z0 z (if a = 0 then t :: ty else t :: t :: ty) m) (ha : a ≠ 0 → 1 < a ∧ ∀ ts, pu_tp [(a, 0)] (t :: t :: ts) = some (t :: ts)) : pz_G l z0 (pz_ea z a) (t :: ty) m := by
  unfold pz_ea
  by_cases a0 : a = 0
  · rw [if_pos a0] at h ⊢; exact h
  · rw [if_neg a0] at h ⊢
    exact h.em (ha a0).1 (fun ts => (ha a0).2 (ty ++ ts))
theorem pz_G.sl (he : pu_En l) : ∀ d a (z : pz_Z), m ≤ d → (a = 0 ∨ a = 2 ∨ a = 3) → pz_G l z0 z (if a = 0 then ty else false :: ty) m → pz_G l z0 (pz_sl d a z) (false :: ty) m := by
  intro d
  induction d generalizing m with
  | zero =>
    intro a z hm ha h
    obtain rfl : m = 0 := by omega
    exact h.dead _ _
  | succ d ih =>
    intro a z hm ha h
    have h1 : pz_G l z0 (pz_ea (pz_tl 400 (pz_vl z)) a) (false :: ty) m := by
      refine pz_G.ea ?_ (fun x => ⟨by omega, fun ts => ?_⟩)
      · by_cases a0 : a = 0
        · rw [if_pos a0] at h ⊢; exact pz_G.tl he 400 _ (h.vl' he)
        · rw [if_neg a0] at h ⊢; exact pz_G.tl he 400 _ (h.vl' he)
      · rcases ha with y | y | y
        · exact absurd y x
        · subst y; rfl
        · subst y; rfl
    show pz_G l z0 (if _ then _ else _) _ _
    generalize pz_ea (pz_tl 400 (pz_vl z)) a = y at *
    by_cases h7 : pu_hk y.2.2.1 = 7
    · rw [if_pos h7]
      have hp := h1.pos (h1.al (by omega))
      obtain ⟨m, rfl⟩ : ∃ x, m = x + 1 := ⟨m - 1, by omega⟩
      exact (ih (m := m) 2 _ (by omega) (by omega) (by rw [if_neg (by decide)]; exact h1.ad he (by omega))).up (by omega)
    · rw [if_neg h7]
      by_cases h8 : pu_hk y.2.2.1 = 8
      · rw [if_pos h8]
        have hp := h1.pos (h1.al (by omega))
        obtain ⟨m, rfl⟩ : ∃ x, m = x + 1 := ⟨m - 1, by omega⟩
        exact (ih (m := m) 3 _ (by omega) (by omega) (by rw [if_neg (by decide)]; exact h1.ad he (by omega))).up (by omega)
      · rw [if_neg h8]; exact h1
theorem pz_G.su (he : pu_En l) (hm : m ≤ 400) (h : pz_G l z0 z ty m) : pz_G l z0 (pz_su z) (false :: ty) m := pz_G.sl he 400 0 z hm (by omega) (by rw [if_pos rfl]; exact h)
end PUH9
