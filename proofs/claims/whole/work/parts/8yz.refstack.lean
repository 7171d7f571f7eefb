/-! ===== The reference reads a test by a stack of signs: it comes to the same ===== -/
def pz_sth (x : Nat) : Nat := if x = 13 then 1 else if x = 12 then 2 else if x = 11 then 3 else 0
/-- signs as strong as k are laid down -/
def pz_ld (k : Nat) : List Nat → pz_Z → List Nat × pz_Z
  | [], z => ([], z)
  | x :: st, z => if k ≤ pz_sth x then pz_ld k st (pz_em z x 0) else (x :: st, z)
def pz_cn : List Nat → Nat
  | [] => 0
  | x :: st => pz_cn st + (if x = 11 ∨ x = 91 then 1 else 0)
def pz_ins : List Nat → Bool
  | [] => false
  | x :: st => decide (x = 91) || pz_ins st
def pz_nm (z : pz_Z) : pz_Z := if z.2.2.2 = 0 then z else ([], 0, [], z.2.2.2)
/-- false: a fact is wanted; true: a fact was read -/
def pz_pm : Nat → Bool → List Nat → pz_Z → Option pz_Z
  | 0, _, _, _ => none
  | d + 1, false, st, z => if z.2.2.2 ≠ 0 then some (pz_nm z) else if pu_hk z.2.2.1 = 38 then (if 10 ≤ pz_cn st then some (pz_nm (pz_fz z 2)) else pz_pm d false (11 :: st) (pz_ad z)) else if pu_hk z.2.2.1 = 5 then (if 10 ≤ pz_cn st then some (pz_nm (pz_fz z 2)) else pz_pm d false (91 :: st) (pz_ad z)) else pz_pm d true (pz_ld 3 st (pz_cm z)).1 (pz_ld 3 st (pz_cm z)).2
  | d + 1, true, st, z => if z.2.2.2 ≠ 0 then some (pz_nm z) else if pu_hk z.2.2.1 = 6 ∧ pz_ins st = true then pz_pm d true (pz_ld 3 (pz_ld 1 st z).1.tail (pz_ad (pz_ld 1 st z).2)).1 (pz_ld 3 (pz_ld 1 st z).1.tail (pz_ad (pz_ld 1 st z).2)).2 else if pu_hk z.2.2.1 = 37 then pz_pm d false (12 :: (pz_ld 2 st (pz_ad z)).1) (pz_ld 2 st (pz_ad z)).2 else if pu_hk z.2.2.1 = 36 then pz_pm d false (13 :: (pz_ld 1 st (pz_ad z)).1) (pz_ld 1 st (pz_ad z)).2 else if pz_ins st = true then some (pz_nm (pz_fz z 0)) else some (pz_nm (pz_ld 1 st z).2)
def pz_Ev (m : Bool) (st : List Nat) (z o : pz_Z) : Prop := ∃ d, pz_pm d m st z = some o
def pz_E1 (st : List Nat) (z o : pz_Z) : Prop := pz_Ev true (pz_ld 3 st z).1 (pz_ld 3 st z).2 o
theorem pz_Ev.s0 {st : List Nat} {z o : pz_Z} (h : ∃ d, (if z.2.2.2 ≠ 0 then some (pz_nm z) else if pu_hk z.2.2.1 = 38 then (if 10 ≤ pz_cn st then some (pz_nm (pz_fz z 2)) else pz_pm d false (11 :: st) (pz_ad z)) else if pu_hk z.2.2.1 = 5 then (if 10 ≤ pz_cn st then some (pz_nm (pz_fz z 2)) else pz_pm d false (91 :: st) (pz_ad z)) else pz_pm d true (pz_ld 3 st (pz_cm z)).1 (pz_ld 3 st (pz_cm z)).2) = some o) : pz_Ev false st z o := by
  obtain ⟨d, h⟩ := h
  exact ⟨d + 1, h⟩
theorem pz_Ev.s1 {st : List Nat} {z o : pz_Z} (h : ∃ d, (if z.2.2.2 ≠ 0 then some (pz_nm z) else if pu_hk z.2.2.1 = 6 ∧ pz_ins st = true then pz_pm d true (pz_ld 3 (pz_ld 1 st z).1.tail (pz_ad (pz_ld 1 st z).2)).1 (pz_ld 3 (pz_ld 1 st z).1.tail (pz_ad (pz_ld 1 st z).2)).2 else if pu_hk z.2.2.1 = 37 then pz_pm d false (12 :: (pz_ld 2 st (pz_ad z)).1) (pz_ld 2 st (pz_ad z)).2 else if pu_hk z.2.2.1 = 36 then pz_pm d false (13 :: (pz_ld 1 st (pz_ad z)).1) (pz_ld 1 st (pz_ad z)).2 else if pz_ins st = true then some (pz_nm (pz_fz z 0)) else some (pz_nm (pz_ld 1 st z).2)) = some o) : pz_Ev true st z o := by
  obtain ⟨d, h⟩ := h
  exact ⟨d + 1, h⟩
theorem pz_Ev.i1 {st : List Nat} {z o : pz_Z} (h : pz_Ev true st z o) : ∃ d, (if z.2.2.2 ≠ 0 then some (pz_nm z) else if pu_hk z.2.2.1 = 6 ∧ pz_ins st = true then pz_pm d true (pz_ld 3 (pz_ld 1 st z).1.tail (pz_ad (pz_ld 1 st z).2)).1 (pz_ld 3 (pz_ld 1 st z).1.tail (pz_ad (pz_ld 1 st z).2)).2 else if pu_hk z.2.2.1 = 37 then pz_pm d false (12 :: (pz_ld 2 st (pz_ad z)).1) (pz_ld 2 st (pz_ad z)).2 else if pu_hk z.2.2.1 = 36 then pz_pm d false (13 :: (pz_ld 1 st (pz_ad z)).1) (pz_ld 1 st (pz_ad z)).2 else if pz_ins st = true then some (pz_nm (pz_fz z 0)) else some (pz_nm (pz_ld 1 st z).2)) = some o := by
  obtain ⟨d, h⟩ := h
  cases d with
  | zero => cases h
  | succ d => exact ⟨d, h⟩
theorem pz_Ev.f {m : Bool} {st : List Nat} {z : pz_Z} (hz : z.2.2.2 ≠ 0) : pz_Ev m st z (pz_nm z) := by
  cases m with
  | false => exact pz_Ev.s0 ⟨0, by rw [if_pos hz]⟩
  | true => exact pz_Ev.s1 ⟨0, by rw [if_pos hz]⟩
theorem pz_Ev.fo {st : List Nat} {z o : pz_Z} (hz : z.2.2.2 ≠ 0) (h : pz_Ev true st z o) : o = pz_nm z := by
  obtain ⟨d, h⟩ := h.i1
  rw [if_pos hz] at h
  cases h; rfl
theorem pz_em_f {z : pz_Z} {k v : Nat} (hz : z.2.2.2 ≠ 0) : pz_em z k v = z := by unfold pz_em; rw [if_neg hz]
theorem pz_ad_em (z : pz_Z) (k v : Nat) : pz_ad (pz_em z k v) = pz_em (pz_ad z) k v := by
  unfold pz_em
  show pz_ad (if z.2.2.2 = 0 then _ else _) = (if z.2.2.2 = 0 then _ else _)
  split <;> rfl
theorem pz_ld_f (k : Nat) : ∀ (st : List Nat) {z : pz_Z}, z.2.2.2 ≠ 0 → (pz_ld k st z).2 = z := by
  intro st
  induction st with
  | nil => intro z _; rfl
  | cons x st ih =>
    intro z hz
    show (if _ then _ else _ : List Nat × pz_Z).2 = z
    split
    · rw [pz_em_f hz]; exact ih hz
    · rfl
theorem pz_ld_r (k : Nat) : ∀ (st : List Nat) (z : pz_Z), (pz_ld k st z).2.2 = z.2 := by
  intro st
  induction st with
  | nil => intro z; rfl
  | cons x st ih =>
    intro z
    show (if _ then _ else _ : List Nat × pz_Z).2.2 = z.2
    split
    · rw [ih, pz_em_r]
    · rfl
theorem pz_E1.fo {st : List Nat} {z o : pz_Z} (hz : z.2.2.2 ≠ 0) (h : pz_E1 st z o) : o = pz_nm z := by
  have e := pz_ld_f 3 st hz
  unfold pz_E1 at h
  rw [e] at h
  exact pz_Ev.fo hz h
theorem pz_nm_f {z y : pz_Z} (hz : z.2.2.2 ≠ 0) (e : y.2.2.2 = z.2.2.2) : pz_nm y = pz_nm z := by
  unfold pz_nm
  rw [if_neg hz, if_neg (by rw [e]; exact hz), e]
/-- what waits on top may be laid down at once -/
theorem pz_Ev.w {x : Nat} {β : List Nat} {z o : pz_Z} (hx : x = 12 ∨ (x = 13 ∧ pu_hk z.2.2.1 ≠ 37)) (hr : pu_Rs z.2.2.1 z.2.2.2) (h : pz_Ev true β (pz_em z x 0) o) : pz_Ev true (x :: β) z o := by
  by_cases hz : z.2.2.2 = 0
  · obtain ⟨d, h⟩ := h.i1
    refine pz_Ev.s1 ⟨d, ?_⟩
    have er := pz_em_r z x 0
    have l1 : ∀ z, pz_ld 1 (x :: β) z = pz_ld 1 β (pz_em z x 0) := fun z => by
      show (if _ then _ else _) = _
      rw [if_pos (by unfold pz_sth; rcases hx with y | ⟨y, _⟩ <;> rw [y] <;> decide)]
    have ei : pz_ins (x :: β) = pz_ins β := by
      show (decide (x = 91) || pz_ins β) = _
      rw [decide_eq_false (by omega), Bool.false_or]
    rw [er] at h
    rw [← h, ei, l1 z, l1 (pz_ad z), pz_ad_em]
    have e37 : pu_hk z.2.2.1 = 37 → pz_ld 2 (x :: β) (pz_ad z) = pz_ld 2 β (pz_em (pz_ad z) x 0) := fun hk => by
      have x12 : x = 12 := by
        rcases hx with y | ⟨_, y⟩
        · exact y
        · exact absurd hk y
      show (if _ then _ else _) = _
      rw [if_pos (by rw [x12]; decide)]
    have hft : pu_ft z.2.2.1 z.2.2.2 0 ≠ 0 := by
      rcases hr with ⟨_, y⟩ | ⟨y, _⟩
      · unfold pu_ft
        rw [if_pos hz]
        cases hq : z.2.2.1 with
        | nil => exact absurd hq y
        | cons t r => dsimp only; omega
      · exact absurd hz y
    have enm : pz_nm (pz_fz z 0) = pz_nm (pz_fz (pz_em z x 0) 0) := by
      refine (pz_nm_f (z := pz_fz z 0) hft ?_).symm
      show pu_ft (pz_em z x 0).2.2.1 (pz_em z x 0).2.2.2 0 = pu_ft z.2.2.1 z.2.2.2 0
      rw [er]
    rw [enm]
    by_cases hk : pu_hk z.2.2.1 = 37
    · rw [e37 hk]
      simp only [hz, ne_eq, not_true, not_false_eq_true, ↓reduceIte]
    · simp only [hz, ne_eq, not_true, not_false_eq_true, ↓reduceIte, hk]
  · rw [pz_em_f hz] at h
    rw [pz_Ev.fo hz h]
    exact pz_Ev.f hz
section PUZ9
variable {l : List (Nat × Nat × Nat)} {z0 : pz_Z}
/-- g reads facts, p deep, as the stack does -/
def pz_Fc (l : List (Nat × Nat × Nat)) (z0 : pz_Z) (g : pz_Z → pz_Z) (p : Nat) : Prop := ∀ (st : List Nat) (z : pz_Z) (ty : List Bool) (m : Nat) (o : pz_Z), m ≤ 400 → pz_G l z0 z ty m → pz_cn st = p → pz_E1 st (g z) o → pz_Ev false st z o
theorem pz_G.hk0 {z : pz_Z} {ty : List Bool} {m : Nat} (h : pz_G l z0 z ty m) (hz : z.2.2.2 ≠ 0) : z.2.2.1 = [] := by
  rcases h.1.1 with ⟨y, _⟩ | ⟨_, y⟩
  · exact absurd y hz
  · exact y
theorem pz_Ev.and (he : pu_En l) {g : pz_Z → pz_Z} {p : Nat} (hg : pz_Gf l z0 g) (hf : pz_Fc l z0 g p) {β : List Nat} (hc : pz_cn β = p) (h2 : ∀ z, pz_ld 2 β z = (β, z)) {ty : List Bool} : ∀ d m (z : pz_Z) (o : pz_Z), m ≤ d → d ≤ 400 → pz_G l z0 z (true :: ty) m → pu_hk (pz_al g d z).2.2.1 ≠ 37 ∧ (pz_Ev true β (pz_al g d z) o → pz_Ev true β z o) := by
  intro d
  induction d with
  | zero =>
    intro m z o hm hd h
    obtain rfl : m = 0 := by omega
    have hz : z.2.2.2 ≠ 0 := fun x => by have := h.pos x; omega
    exact ⟨by show pu_hk z.2.2.1 ≠ 37; rw [h.hk0 hz]; decide, fun x => x⟩
  | succ d ih =>
    intro m z o hm hd h
    have ea : pz_al g (d + 1) z = if pu_hk z.2.2.1 = 37 then pz_al g d (pz_em (g (pz_ad z)) 12 0) else z := rfl
    rw [ea]
    by_cases hj : pu_hk z.2.2.1 = 37
    · rw [if_pos hj]
      have f0 := h.al (by omega)
      have hp := h.pos f0
      obtain ⟨m, rfl⟩ : ∃ x, m = x + 1 := ⟨m - 1, by omega⟩
      have ga := h.ad he (by omega)
      have gg := hg _ _ _ (show m ≤ 400 by omega) ga
      have ge : pz_G l z0 (pz_em (g (pz_ad z)) 12 0) (true :: ty) m := pz_G.em gg (by omega) (fun ts => rfl)
      obtain ⟨i1, i2⟩ := ih m (pz_em (g (pz_ad z)) 12 0) o (by omega) (by omega) ge
      refine ⟨i1, fun hx => ?_⟩
      have w := pz_Ev.w (Or.inl rfl) gg.1.1 (i2 hx)
      have e1 : pz_E1 (12 :: β) (g (pz_ad z)) o := w
      obtain ⟨d', hd'⟩ := hf (12 :: β) (pz_ad z) _ m o (by omega) ga (by show pz_cn β + (if (12 = 11 ∨ 12 = 91) then 1 else 0) = p; rw [if_neg (by omega)]; exact hc) e1
      refine pz_Ev.s1 ⟨d', ?_⟩
      rw [if_neg (fun y => y f0), if_neg (by omega), if_pos hj, h2]
      exact hd'
    · rw [if_neg hj]
      exact ⟨hj, fun x => x⟩
theorem pz_Ev.or (he : pu_En l) {g : pz_Z → pz_Z} {p : Nat} (hg : pz_Gf l z0 g) (hf : pz_Fc l z0 g p) {β : List Nat} (hc : pz_cn β = p) (h1 : ∀ k z, 1 ≤ k → pz_ld k β z = (β, z)) {ty : List Bool} : ∀ d m a (z : pz_Z) (o : pz_Z), m ≤ d → d ≤ 400 → (a = 0 ∨ a = 13) → pz_G l z0 z (if a = 0 then ty else true :: ty) m → (pu_hk (pz_ol g d a z).2.2.1 ≠ 36 ∧ pu_hk (pz_ol g d a z).2.2.1 ≠ 37) ∧ (pz_Ev true β (pz_ol g d a z) o → pz_Ev false (if a = 0 then β else 13 :: β) z o) := by
  intro d
  induction d with
  | zero =>
    intro m a z o hm hd ha h
    obtain rfl : m = 0 := by omega
    have hz : z.2.2.2 ≠ 0 := fun x => by have := h.pos x; omega
    refine ⟨?_, fun x => ?_⟩
    · show pu_hk z.2.2.1 ≠ 36 ∧ pu_hk z.2.2.1 ≠ 37
      rw [h.hk0 hz]; decide
    · have x : pz_Ev true β z o := x
      rw [pz_Ev.fo hz x]
      exact pz_Ev.f hz
  | succ d ih =>
    intro m a z o hm hd ha h
    have gz : pz_G l z0 (g z) (if a = 0 then true :: ty else true :: true :: ty) m := by
      by_cases a0 : a = 0
      · rw [if_pos a0] at h ⊢; exact hg _ _ _ (by omega) h
      · rw [if_neg a0] at h ⊢; exact hg _ _ _ (by omega) h
    obtain ⟨ty', ety⟩ : ∃ ty', (if a = 0 then true :: ty else true :: true :: ty) = true :: ty' := by
      by_cases a0 : a = 0
      · exact ⟨ty, by rw [if_pos a0]⟩
      · exact ⟨true :: ty, by rw [if_neg a0]⟩
    have ga := gz
    rw [ety] at ga
    have gal := pz_G.and he hg (show m ≤ 400 by omega) 400 _ ga
    have gea : pz_G l z0 (pz_ea (pz_al g 400 (g z)) a) (true :: ty) m := by
      refine pz_G.ea (ety ▸ gal) (fun x => ⟨by omega, fun ts => ?_⟩)
      rcases ha with y | y
      · exact absurd y x
      · subst y; rfl
    have cnb : pz_cn (if a = 0 then β else 13 :: β) = p := by
      by_cases a0 : a = 0
      · rw [if_pos a0]; exact hc
      · rw [if_neg a0]
        show pz_cn β + (if (13 = 11 ∨ 13 = 91) then 1 else 0) = p
        rw [if_neg (by omega)]; exact hc
    have ldb : ∀ k z, 2 ≤ k → pz_ld k (if a = 0 then β else 13 :: β) z = ((if a = 0 then β else 13 :: β), z) := fun k z hk => by
      by_cases a0 : a = 0
      · rw [if_pos a0]; exact h1 k z (by omega)
      · rw [if_neg a0]
        show (if k ≤ pz_sth 13 then _ else _) = _
        rw [if_neg (by show ¬ k ≤ 1; omega)]
    obtain ⟨n37, an⟩ := pz_Ev.and he hg hf cnb (fun z => ldb 2 z (by omega)) (ty := ty') 400 m (g z) o (by omega) (by omega) ga
    have er := pz_ea_r (pz_al g 400 (g z)) a
    have back : pz_Ev true β (pz_ea (pz_al g 400 (g z)) a) o → pz_Ev false (if a = 0 then β else 13 :: β) z o := by
      intro hx
      have y1 : pz_Ev true (if a = 0 then β else 13 :: β) (pz_al g 400 (g z)) o := by
        by_cases a0 : a = 0
        · rw [if_pos a0]
          unfold pz_ea at hx
          rw [if_pos a0] at hx
          exact hx
        · rw [if_neg a0]
          unfold pz_ea at hx
          rw [if_neg a0] at hx
          have a13 : a = 13 := by omega
          subst a13
          exact pz_Ev.w (Or.inr ⟨rfl, n37⟩) gal.1.1 hx
      refine hf _ z _ m o (by omega) h cnb ?_
      unfold pz_E1
      rw [ldb 3 _ (by omega)]
      exact an y1
    have eo : pz_ol g (d + 1) a z = if pu_hk (pz_ea (pz_al g 400 (g z)) a).2.2.1 = 36 then pz_ol g d 13 (pz_ad (pz_ea (pz_al g 400 (g z)) a)) else pz_ea (pz_al g 400 (g z)) a := rfl
    rw [eo]
    have n37' : pu_hk (pz_ea (pz_al g 400 (g z)) a).2.2.1 ≠ 37 := by rw [er]; exact n37
    generalize pz_ea (pz_al g 400 (g z)) a = y at *
    by_cases h36 : pu_hk y.2.2.1 = 36
    · rw [if_pos h36]
      have f0 := gea.al (by omega)
      have hp := gea.pos f0
      obtain ⟨m, rfl⟩ : ∃ x, m = x + 1 := ⟨m - 1, by omega⟩
      obtain ⟨i1, i2⟩ := ih m 13 (pz_ad y) o (by omega) (by omega) (Or.inr rfl) (by rw [if_neg (by decide)]; exact gea.ad he (by omega))
      refine ⟨i1, fun hx => back ?_⟩
      obtain ⟨d', hd'⟩ := i2 hx
      rw [if_neg (by decide)] at hd'
      refine pz_Ev.s1 ⟨d', ?_⟩
      rw [if_neg (fun y => y f0), if_neg (by omega), if_neg (by omega), if_pos h36, h1 1 _ (by omega)]
      exact hd'
    · rw [if_neg h36]
      exact ⟨⟨h36, n37'⟩, back⟩
theorem pz_Ev.fa (he : pu_En l) : ∀ n p, p ≤ 10 → 11 ≤ p + n → pz_Fc l z0 (pz_fa n p) p := by
  intro n
  induction n with
  | zero => intro p h1 h2; omega
  | succ n ih =>
    intro p hp hn st z ty m o hm h hc hx
    have ef : pz_fa (n + 1) p z = if pu_hk z.2.2.1 = 38 ∨ pu_hk z.2.2.1 = 5 then (if 10 ≤ p then pz_fz z 2 else if pu_hk z.2.2.1 = 38 then pz_em (pz_fa n (p + 1) (pz_ad z)) 11 0 else pz_cl (pz_te (pz_fa n (p + 1)) (pz_ad z))) else pz_cm z := rfl
    rw [ef] at hx
    by_cases ho : pu_hk z.2.2.1 = 38 ∨ pu_hk z.2.2.1 = 5
    · rw [if_pos ho] at hx
      have f0 := h.al (by omega)
      have hp1 := h.pos f0
      obtain ⟨m, rfl⟩ : ∃ x, m = x + 1 := ⟨m - 1, by omega⟩
      have ga := h.ad he (by omega)
      by_cases h10 : 10 ≤ p
      · rw [if_pos h10] at hx
        have hft : (pz_fz z 2).2.2.2 ≠ 0 := by
          show pu_ft z.2.2.1 z.2.2.2 2 ≠ 0
          unfold pu_ft
          rw [if_pos f0]
          cases hq : z.2.2.1 with
          | nil => rw [hq] at ho; exact absurd ho (by decide)
          | cons t r => dsimp only; omega
        rw [pz_E1.fo hft hx]
        refine pz_Ev.s0 ⟨0, ?_⟩
        rw [if_neg (fun y => y f0), if_pos (show 10 ≤ pz_cn st by omega)]
        by_cases h38 : pu_hk z.2.2.1 = 38
        · rw [if_pos h38]
        · rw [if_neg h38, if_pos (by omega : pu_hk z.2.2.1 = 5), if_pos (show 10 ≤ pz_cn st by omega)]
      · rw [if_neg h10] at hx
        by_cases h38 : pu_hk z.2.2.1 = 38
        · rw [if_pos h38] at hx
          have e1 : pz_E1 (11 :: st) (pz_fa n (p + 1) (pz_ad z)) o := hx
          obtain ⟨d', hd'⟩ := ih (p + 1) (by omega) (by omega) (11 :: st) (pz_ad z) _ m o (by omega) ga (by show pz_cn st + (if (11 = 11 ∨ 11 = 91) then 1 else 0) = p + 1; rw [if_pos (by omega), hc]) e1
          refine pz_Ev.s0 ⟨d', ?_⟩
          rw [if_neg (fun y => y f0), if_pos h38, if_neg (by omega)]
          exact hd'
        · rw [if_neg h38] at hx
          have h5 : pu_hk z.2.2.1 = 5 := by omega
          have gf := pz_G.fa (z0 := z0) he n (p + 1) (by omega) (by omega)
          have ff := ih (p + 1) (by omega) (by omega)
          have gt := pz_G.te he gf _ _ _ (show m ≤ 400 by omega) ga
          have bs : ∀ k z, 1 ≤ k → pz_ld k (91 :: st) z = (91 :: st, z) := fun k z hk => by
            show (if k ≤ pz_sth 91 then _ else _) = _
            rw [if_neg (by show ¬ k ≤ 0; omega)]
          obtain ⟨⟨n36, n37⟩, bk⟩ := pz_Ev.or he gf ff (β := 91 :: st) (by show pz_cn st + (if (91 = 11 ∨ 91 = 91) then 1 else 0) = p + 1; rw [if_pos (by omega), hc]) bs (ty := ty) 400 m 0 (pz_ad z) o (by omega) (by omega) (Or.inl rfl) (by rw [if_pos rfl]; exact ga)
          rw [if_pos rfl] at bk
          have goal2 : pz_Ev true (91 :: st) (pz_te (pz_fa n (p + 1)) (pz_ad z)) o := by
            have n36 : pu_hk (pz_te (pz_fa n (p + 1)) (pz_ad z)).2.2.1 ≠ 36 := n36
            have n37 : pu_hk (pz_te (pz_fa n (p + 1)) (pz_ad z)).2.2.1 ≠ 37 := n37
            generalize pz_te (pz_fa n (p + 1)) (pz_ad z) = y at *
            unfold pz_cl at hx
            have ib : pz_ins (91 :: st) = true := by show (decide (91 = 91) || pz_ins st) = true; rw [decide_eq_true rfl, Bool.true_or]
            by_cases h6 : pu_hk y.2.2.1 = 6
            · rw [if_pos h6] at hx
              have y0 := gt.al (by omega)
              obtain ⟨d', hd'⟩ := hx
              refine pz_Ev.s1 ⟨d', ?_⟩
              rw [if_neg (fun y => y y0), if_pos ⟨h6, ib⟩, bs 1 _ (by omega)]
              exact hd'
            · rw [if_neg h6] at hx
              have hft : (pz_fz y 0).2.2.2 ≠ 0 := by
                show pu_ft y.2.2.1 y.2.2.2 0 ≠ 0
                unfold pu_ft
                rcases gt.1.1 with ⟨w1, w2⟩ | ⟨w1, _⟩
                · rw [if_pos w1]
                  cases hq : y.2.2.1 with
                  | nil => exact absurd hq w2
                  | cons t r => dsimp only; omega
                · rw [if_neg w1]; exact w1
              rw [pz_E1.fo hft hx]
              by_cases y0 : y.2.2.2 = 0
              · refine pz_Ev.s1 ⟨0, ?_⟩
                rw [if_neg (fun y => y y0), if_neg (fun y => h6 y.1), if_neg n37, if_neg n36, if_pos ib]
              · rw [pz_nm_f y0 (pz_fz_keep y 0 y0)]
                exact pz_Ev.f y0
          obtain ⟨d', hd'⟩ := bk goal2
          refine pz_Ev.s0 ⟨d', ?_⟩
          rw [if_neg (fun y => y f0), if_neg h38, if_pos h5, if_neg (by omega)]
          exact hd'
    · rw [if_neg ho] at hx
      by_cases f0 : z.2.2.2 = 0
      · obtain ⟨d', hd'⟩ := hx
        refine pz_Ev.s0 ⟨d', ?_⟩
        rw [if_neg (fun y => y f0), if_neg (fun y => ho (Or.inl y)), if_neg (fun y => ho (Or.inr y))]
        exact hd'
      · have hr := h.hk0 f0
        have ec : (pz_cm z).2.2.2 = z.2.2.2 := by
          have es := pz_su_nil (z := z) hr
          unfold pz_cm
          rw [es, if_neg (by show ¬ (12 ≤ pu_hk [] ∧ _); exact fun y => absurd y.1 (by decide))]
          rw [pz_fz_keep (pz_fz z 0) 0 (by rw [pz_fz_keep z 0 f0]; exact f0), pz_fz_keep z 0 f0]
        rw [pz_E1.fo (by rw [ec]; exact f0) hx, pz_nm_f f0 ec]
        exact pz_Ev.f f0
/-- the whole test -/
theorem pz_Ev.te (he : pu_En l) {z : pz_Z} {ty : List Bool} {m : Nat} (hm : m ≤ 400) (h : pz_G l z0 z ty m) : pz_Ev false [] z (pz_nm (pz_te (pz_fa 16 0) z)) := by
  have gf := pz_G.fa (z0 := z0) he 16 0 (by omega) (by omega)
  have ff := pz_Ev.fa (z0 := z0) he 16 0 (by omega) (by omega)
  obtain ⟨⟨n36, n37⟩, bk⟩ := pz_Ev.or he gf ff (β := []) rfl (fun k z _ => rfl) (ty := ty) 400 m 0 z (pz_nm (pz_te (pz_fa 16 0) z)) hm (by omega) (Or.inl rfl) (by rw [if_pos rfl]; exact h)
  rw [if_pos rfl] at bk
  refine bk ?_
  have n36 : pu_hk (pz_te (pz_fa 16 0) z).2.2.1 ≠ 36 := n36
  have n37 : pu_hk (pz_te (pz_fa 16 0) z).2.2.1 ≠ 37 := n37
  show pz_Ev true [] (pz_te (pz_fa 16 0) z) _
  generalize pz_te (pz_fa 16 0) z = y at *
  by_cases y0 : y.2.2.2 = 0
  · refine pz_Ev.s1 ⟨0, ?_⟩
    rw [if_neg (fun y => y y0), if_neg (fun y => by cases y.2), if_neg n37, if_neg n36, if_neg (by decide)]
    rfl
  · exact pz_Ev.f y0
end PUZ9
