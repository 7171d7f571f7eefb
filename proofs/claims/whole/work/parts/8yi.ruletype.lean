/-! ===== What is read is well kinded: tests ===== -/
section PUI9
variable {l : List (Nat × Nat × Nat)} {z0 z : pz_Z} {ty : List Bool} {m : Nat}
theorem pz_G.cm (he : pu_En l) (hm : m ≤ 400) (h : pz_G l z0 z ty m) : pz_G l z0 (pz_cm z) (true :: ty) m := by
  have h1 := h.su he hm
  unfold pz_cm
  generalize pz_su z = y at *
  by_cases hj : 12 ≤ pu_hk y.2.2.1 ∧ pu_hk y.2.2.1 ≤ 16
  · rw [if_pos hj]
    have hp := h1.pos (h1.al (by omega))
    obtain ⟨m, rfl⟩ : ∃ x, m = x + 1 := ⟨m - 1, by omega⟩
    refine pz_G.up (m := m) (pz_G.em ((h1.tp he (by omega)).su he (by omega)) (by omega) (fun ts => ?_)) (by omega)
    have : pu_hk y.2.2.1 = 12 ∨ pu_hk y.2.2.1 = 13 ∨ pu_hk y.2.2.1 = 14 ∨ pu_hk y.2.2.1 = 15 ∨ pu_hk y.2.2.1 = 16 := by omega
    rcases this with x | x | x | x | x <;> rw [x] <;> rfl
  · rw [if_neg hj]
    exact h1.fz 0 _ _
/-- g reads facts -/
def pz_Gf (l : List (Nat × Nat × Nat)) (z0 : pz_Z) (g : pz_Z → pz_Z) : Prop := ∀ (ty : List Bool) (m : Nat) (z : pz_Z), m ≤ 400 → pz_G l z0 z ty m → pz_G l z0 (g z) (true :: ty) m
theorem pz_G.and (he : pu_En l) {g : pz_Z → pz_Z} (hg : pz_Gf l z0 g) (hm : m ≤ 400) : ∀ d (z : pz_Z), pz_G l z0 z (true :: ty) m → pz_G l z0 (pz_al g d z) (true :: ty) m := by
  intro d
  induction d with
  | zero => intro z h; exact h
  | succ d ih =>
    intro z h
    show pz_G l z0 (if _ then _ else _) _ _
    by_cases hj : pu_hk z.2.2.1 = 37
    · rw [if_pos hj]
      have hp := h.pos (h.al (by omega))
      obtain ⟨m, rfl⟩ : ∃ x, m = x + 1 := ⟨m - 1, by omega⟩
      exact ih _ (pz_G.up (m := m) (pz_G.em (hg _ _ _ (by omega) (h.ad he (by omega))) (by omega) (fun ts => rfl)) (by omega))
    · rw [if_neg hj]; exact h
theorem pz_G.or (he : pu_En l) {g : pz_Z → pz_Z} (hg : pz_Gf l z0 g) : ∀ d a (z : pz_Z), m ≤ d → d ≤ 400 → (a = 0 ∨ a = 13) → pz_G l z0 z (if a = 0 then ty else true :: ty) m → pz_G l z0 (pz_ol g d a z) (true :: ty) m := by
  intro d
  induction d generalizing m with
  | zero =>
    intro a z hm _ ha h
    obtain rfl : m = 0 := by omega
    exact h.dead _ _
  | succ d ih =>
    intro a z hm hd ha h
    have h1 : pz_G l z0 (pz_ea (pz_al g 400 (g z)) a) (true :: ty) m := by
      refine pz_G.ea ?_ (fun x => ⟨by omega, fun ts => ?_⟩)
      · by_cases a0 : a = 0
        · rw [if_pos a0] at h ⊢; exact pz_G.and he hg (by omega) 400 _ (hg _ _ _ (by omega) h)
        · rw [if_neg a0] at h ⊢; exact pz_G.and he hg (by omega) 400 _ (hg _ _ _ (by omega) h)
      · rcases ha with y | y
        · exact absurd y x
        · subst y; rfl
    show pz_G l z0 (if _ then _ else _) _ _
    generalize pz_ea (pz_al g 400 (g z)) a = y at *
    by_cases h36 : pu_hk y.2.2.1 = 36
    · rw [if_pos h36]
      have hp := h1.pos (h1.al (by omega))
      obtain ⟨m, rfl⟩ : ∃ x, m = x + 1 := ⟨m - 1, by omega⟩
      exact (ih (m := m) 13 _ (by omega) (by omega) (by omega) (by rw [if_neg (by decide)]; exact h1.ad he (by omega))).up (by omega)
    · rw [if_neg h36]; exact h1
theorem pz_G.te (he : pu_En l) {g : pz_Z → pz_Z} (hg : pz_Gf l z0 g) : pz_Gf l z0 (pz_te g) := fun ty m z hm h => pz_G.or he hg 400 0 z hm (by omega) (by omega) (by rw [if_pos rfl]; exact h)
theorem pz_G.fa (he : pu_En l) : ∀ n p, p ≤ 10 → 11 ≤ p + n → pz_Gf l z0 (pz_fa n p) := by
  intro n
  induction n with
  | zero => intro p h1 h2; omega
  | succ n ih =>
    intro p hp hn ty m z hm h
    show pz_G l z0 (if _ then _ else _) _ _
    by_cases ho : pu_hk z.2.2.1 = 38 ∨ pu_hk z.2.2.1 = 5
    · rw [if_pos ho]
      by_cases h10 : 10 ≤ p
      · rw [if_pos h10]; exact h.fz 2 _ _
      · rw [if_neg h10]
        have hp1 := h.pos (h.al (by omega))
        obtain ⟨m, rfl⟩ : ∃ x, m = x + 1 := ⟨m - 1, by omega⟩
        have ha := h.ad he (by omega)
        by_cases h38 : pu_hk z.2.2.1 = 38
        · rw [if_pos h38]
          exact pz_G.up (m := m) (pz_G.em (ih (p + 1) (by omega) (by omega) _ _ _ (by omega) ha) (by omega) (fun ts => rfl)) (by omega)
        · rw [if_neg h38]
          have h1 := pz_G.te he (ih (p + 1) (by omega) (by omega)) _ _ _ (by omega) ha
          unfold pz_cl
          generalize pz_te (pz_fa n (p + 1)) (pz_ad z) = y at *
          by_cases h6 : pu_hk y.2.2.1 = 6
          · rw [if_pos h6]
            exact pz_G.up (m := m) (pz_G.ad he (h1.up (by omega)) (by omega)) (by omega)
          · rw [if_neg h6]; exact h1.fz 0 _ _
    · rw [if_neg ho]; exact h.cm he hm
end PUI9
