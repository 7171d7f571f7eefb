/-! ===== The reference reads a clause of a rule ===== -/
/-- how many steps -/
def pz_ln : pu_Ru → Nat
  | [] => 0
  | (sm, none) :: cs => sm.length + pz_ln cs
  | (sm, some t) :: cs => sm.length + t.length + pz_ln cs
/-- clauses from the i-th on, whose steps begin at b -/
def pz_RN (f g : Nat → Int32) (r : Nat) : Nat → Nat → pu_Ru → Prop
  | _, _, [] => True
  | i, b, (sm, none) :: cs => (g (48 * r + 4 * i) = nI b ∧ g (48 * r + 4 * i + 1) = nI (b + sm.length) ∧ g (48 * r + 4 * i + 2) = -1 ∧ pu_cd f (400 * r + b) sm) ∧ pz_RN f g r (i + 1) (b + sm.length) cs
  | i, b, (sm, some t) :: cs => (g (48 * r + 4 * i) = nI b ∧ g (48 * r + 4 * i + 1) = nI (b + sm.length) ∧ g (48 * r + 4 * i + 2) = nI (b + sm.length) ∧ g (48 * r + 4 * i + 3) = nI (b + sm.length + t.length) ∧ pu_cd f (400 * r + b) sm ∧ pu_cd f (400 * r + (b + sm.length)) t) ∧ pz_RN f g r (i + 1) (b + sm.length + t.length) cs
theorem pz_RN_RM {f g : Nat → Int32} {r : Nat} : ∀ (ru : pu_Ru) (i b : Nat), b + pz_ln ru ≤ 400 → pz_RN f g r i b ru → pu_RM f g r i ru := by
  intro ru
  induction ru with
  | nil => intro i b _ _; trivial
  | cons q ru ih =>
    obtain ⟨sm, t⟩ := q
    intro i b hl h
    match t, hl, h with
    | none, hl, h =>
      have hl : b + (sm.length + pz_ln ru) ≤ 400 := hl
      obtain ⟨⟨h1, h2, h3, h4⟩, h5⟩ := h
      exact ⟨⟨b, by omega, h1, h2, h3, h4⟩, ih _ _ (by omega) h5⟩
    | some t, hl, h =>
      have hl : b + (sm.length + t.length + pz_ln ru) ≤ 400 := hl
      obtain ⟨⟨h1, h2, h3, h4, h5, h6⟩, h7⟩ := h
      exact ⟨⟨b, b + sm.length, by omega, by omega, h1, h2, h3, h4, h5, h6⟩, ih _ _ (by omega) h7⟩
theorem pz_RN_eq {f f' g g' : Nat → Int32} {r : Nat} : ∀ (ru : pu_Ru) (i b : Nat), (∀ k, 400 * r + b ≤ k → k < 400 * r + b + pz_ln ru → f' k = f k) → (∀ k, 48 * r + 4 * i ≤ k → k < 48 * r + 4 * (i + ru.length) → g' k = g k) → pz_RN f g r i b ru → pz_RN f' g' r i b ru := by
  intro ru
  induction ru with
  | nil => intro i b _ _ _; trivial
  | cons q ru ih =>
    obtain ⟨sm, t⟩ := q
    intro i b hf hg h
    rw [List.length_cons] at hg
    match t, hf, h with
    | none, hf, h =>
      have hl : pz_ln ((sm, none) :: ru) = sm.length + pz_ln ru := rfl
      rw [hl] at hf
      obtain ⟨⟨h1, h2, h3, h4⟩, h5⟩ := h
      exact ⟨⟨by rw [hg _ (by omega) (by omega)]; exact h1, by rw [hg _ (by omega) (by omega)]; exact h2, by rw [hg _ (by omega) (by omega)]; exact h3, pu_cd_eq _ _ (fun k k1 k2 => hf k (by omega) (by omega)) h4⟩, ih _ _ (fun k k1 k2 => hf k (by omega) (by omega)) (fun k k1 k2 => hg k (by omega) (by omega)) h5⟩
    | some t, hf, h =>
      have hl : pz_ln ((sm, some t) :: ru) = sm.length + t.length + pz_ln ru := rfl
      rw [hl] at hf
      obtain ⟨⟨h1, h2, h3, h4, h5, h6⟩, h7⟩ := h
      exact ⟨⟨by rw [hg _ (by omega) (by omega)]; exact h1, by rw [hg _ (by omega) (by omega)]; exact h2, by rw [hg _ (by omega) (by omega)]; exact h3, by rw [hg _ (by omega) (by omega)]; exact h4, pu_cd_eq _ _ (fun k k1 k2 => hf k (by omega) (by omega)) h5, pu_cd_eq _ _ (fun k k1 k2 => hf k (by omega) (by omega)) h6⟩, ih _ _ (fun k k1 k2 => hf k (by omega) (by omega)) (fun k k1 k2 => hg k (by omega) (by omega)) h7⟩
theorem pz_RN_app {f g : Nat → Int32} {r : Nat} {cl : List (Nat × Nat) × Option (List (Nat × Nat))} : ∀ (ru : pu_Ru) (i b : Nat), pz_RN f g r i b ru → pz_RN f g r (i + ru.length) (b + pz_ln ru) [cl] → pz_RN f g r i b (ru ++ [cl]) := by
  intro ru
  induction ru with
  | nil => intro i b _ h; exact h
  | cons q ru ih =>
    obtain ⟨sm, t⟩ := q
    intro i b h h2
    rw [List.length_cons] at h2
    match t, h, h2 with
    | none, h, h2 =>
      have hl : pz_ln ((sm, none) :: ru) = sm.length + pz_ln ru := rfl
      rw [hl] at h2
      exact ⟨h.1, ih _ _ h.2 (by rw [show i + 1 + ru.length = i + (ru.length + 1) by omega, show b + sm.length + pz_ln ru = b + (sm.length + pz_ln ru) by omega]; exact h2)⟩
    | some t, h, h2 =>
      have hl : pz_ln ((sm, some t) :: ru) = sm.length + t.length + pz_ln ru := rfl
      rw [hl] at h2
      exact ⟨h.1, ih _ _ h.2 (by rw [show i + 1 + ru.length = i + (ru.length + 1) by omega, show b + sm.length + t.length + pz_ln ru = b + (sm.length + t.length + pz_ln ru) by omega]; exact h2)⟩
theorem pz_ln_app (ru : pu_Ru) (cl : List (Nat × Nat) × Option (List (Nat × Nat))) : pz_ln (ru ++ [cl]) = pz_ln ru + pz_ln [cl] := by
  induction ru with
  | nil => show pz_ln [cl] = 0 + pz_ln [cl]; omega
  | cons q ru ih =>
    obtain ⟨sm, t⟩ := q
    match t with
    | none => show sm.length + pz_ln (ru ++ [cl]) = sm.length + pz_ln ru + pz_ln [cl]; rw [ih]; omega
    | some t => show sm.length + t.length + pz_ln (ru ++ [cl]) = sm.length + t.length + pz_ln ru + pz_ln [cl]; rw [ih]; omega
/-- between clauses -/
def pz_MK (I : Nat → Nat → Int32) (b : Nat → Nat) (tl t : Nat) (y : pz_Y) : Prop :=
  (y.2.2.2 = 0 → pu_RS I b tl y.2.2.1 ∧ I 70 11 = nI t ∧ I 73 t = nI (pz_ln y.1) ∧ I 75 t = nI y.1.length ∧ I 70 12 = nI y.2.1 ∧ y.2.1 ≤ 60 ∧ pz_RN (I 72) (I 74) t 0 0 y.1 ∧ pz_ln y.1 + y.2.2.1.length ≤ 401) ∧ (y.2.2.2 ≠ 0 → I 70 9 = nI y.2.2.2 ∧ y.2.2.1 = [])
def pz_Mv (t : Nat) (I I' : Nat → Nat → Int32) : Prop := (∀ q, q ≠ 70 → q ≠ 72 → q ≠ 73 → q ≠ 74 → q ≠ 75 → q ≠ 77 → I' q = I q) ∧ (∀ k, k ≠ 8 → k ≠ 9 → k ≠ 10 → k ≠ 12 → k ≠ 13 → k ≠ 14 → k ≠ 16 → I' 70 k = I 70 k) ∧ (∀ k, k < 400 * t → I' 72 k = I 72 k) ∧ (∀ k, k < 48 * t → I' 74 k = I 74 k) ∧ (∀ k, k ≠ t → I' 75 k = I 75 k)
theorem pz_Mv.rf {t : Nat} {I : Nat → Nat → Int32} : pz_Mv t I I := ⟨fun _ _ _ _ _ _ _ => rfl, fun _ _ _ _ _ _ _ _ => rfl, fun _ _ => rfl, fun _ _ => rfl, fun _ _ => rfl⟩
theorem pz_Mv.tr {t : Nat} {I I' I2 : Nat → Nat → Int32} (a : pz_Mv t I I') (c : pz_Mv t I' I2) : pz_Mv t I I2 := ⟨fun q h1 h2 h3 h4 h5 h6 => (c.1 q h1 h2 h3 h4 h5 h6).trans (a.1 q h1 h2 h3 h4 h5 h6), fun k h1 h2 h3 h4 h5 h6 h7 => (c.2.1 k h1 h2 h3 h4 h5 h6 h7).trans (a.2.1 k h1 h2 h3 h4 h5 h6 h7), fun k h => (c.2.2.1 k h).trans (a.2.2.1 k h), fun k h => (c.2.2.2.1 k h).trans (a.2.2.2.1 k h), fun k h => (c.2.2.2.2 k h).trans (a.2.2.2.2 k h)⟩
theorem pz_Mv.my {t B : Nat} {I I' : Nat → Nat → Int32} (a : pz_My t B I I') : pz_Mv t I I' := ⟨fun q h1 h2 h3 _ _ h6 => a.1 q h1 h2 h3 h6, fun k h1 h2 h3 h4 h5 _ h7 => a.2.1 k h1 h2 h3 h4 h5 h7, fun k h => a.2.2 k (by omega), fun k _ => by rw [a.1 74 (by decide) (by decide) (by decide) (by decide)], fun k _ => by rw [a.1 75 (by decide) (by decide) (by decide) (by decide)]⟩
theorem pz_Mv.nf {t : Nat} {I I' : Nat → Nat → Int32} (a : pu_Nf I I') : pz_Mv t I I' := pz_Mv.my (B := 0) (pz_My.nf a)
theorem pz_Mv.u74 {t : Nat} {I : Nat → Nat → Int32} {k : Nat} {v : Int32} (h : 48 * t ≤ k) : pz_Mv t I (tb_up2 I 74 k v) := ⟨fun q _ _ _ h4 _ _ => pu_u2p _ _ _ _ h4, fun j _ _ _ _ _ _ _ => by rw [pu_u2p _ _ _ _ (by decide)], fun j _ => by rw [pu_u2p _ _ _ _ (by decide)], fun j hj => pu_u2k _ _ _ _ (by omega), fun j _ => by rw [pu_u2p _ _ _ _ (by decide)]⟩
theorem pz_Mv.u75 {t : Nat} {I : Nat → Nat → Int32} {v : Int32} : pz_Mv t I (tb_up2 I 75 t v) := ⟨fun q _ _ _ _ h5 _ => pu_u2p _ _ _ _ h5, fun j _ _ _ _ _ _ _ => by rw [pu_u2p _ _ _ _ (by decide)], fun j _ => by rw [pu_u2p _ _ _ _ (by decide)], fun j _ => by rw [pu_u2p _ _ _ _ (by decide)], fun j hj => pu_u2k _ _ _ _ hj⟩
theorem pz_W14 : (1801807216 : Int64) = lN (pu_wv (pu_wl.getD 14 [])) := by decide
theorem pz_W15 : (26982 : Int64) = lN (pu_wv (pu_wl.getD 15 [])) := by decide
section PVD1
variable {s : List (Nat × Nat)} {R : Nat → Nat → Option Nat} {b : Nat → Nat} {tl t B e : Nat}
theorem pz_isw {I : Nat → Nat → Int32} {J : Nat → Nat → Int64} (hM : pu_M s R) {c : List (Nat × Nat)} {n : Nat} {r : List (Nat × Nat × Nat)} (h : pz_MZ I b tl t B e (c, n, r, 0)) {k : Nat} (hk : k < 19) {W : Int64} (hW : W = lN (pu_wv (pu_wl.getD k []))) : ∃ I1 p, fb_m_isWord 70 W (s, I, J, R) = some (pu_b (decide (pu_hk r = 20 + k)), (s, I1, J, R)) ∧ pu_Nf I I1 ∧ pz_MZ I1 b tl t B e (c, n, r, 0) ∧ pz_At I1 b tl p ∧ r = pu_tt b tl p := by
  obtain ⟨⟨hb, h9, q, hq, e8, er⟩, g2, g3, g4, g5, g6, g7⟩ := h.1 rfl
  have er : r = pu_tt b tl q := er
  obtain ⟨I1, a1, a2, a3⟩ := pu_m_isWord (J := J) hM hb hq e8 hk hW
  rw [← er] at a1
  have hs := pu_sp_le b hq
  have h32 : pu_sp b tl q < tl → b (pu_sp b tl q) ≠ 32 := fun hx => pu_sp_ne hq hx
  rw [pu_tt_sp b hq] at er
  exact ⟨I1, pu_sp b tl q, a1, a3, h.mv (pu_Of.nf a3) ⟨hb.nf a3, by rw [a3.2 9 (by decide)]; exact h9, pu_sp b tl q, hs.1, a2, er⟩ g7, ⟨hb.nf a3, hs.1, h32, a2⟩, er⟩
theorem pz_te_f {q : Nat} {c : List (Nat × Nat)} {n : Nat} {r : List (Nat × Nat × Nat)} (er : r = pu_tt b tl q) (hl : r.length ≤ 400) (hf : (pz_te (pz_fa 16 0) (c, n, r, 0)).2.2.2 ≠ 0) : (pz_te (pz_fa 16 0) (c, n, r, 0)).2.2.1 = [] := by
  have G : pz_G (pu_tt b tl q) (c, n, r, 0) (c, n, r, 0) [] 400 := pz_G.rf (Or.inl ⟨rfl, by show r ≠ []; rw [er]; exact pu_tt_ne b tl q⟩) ⟨0, er.symm⟩ hl
  have he := pu_tt_en b tl q
  exact (pz_G.te he (pz_G.fa he 16 0 (by omega) (by omega)) _ _ _ (Nat.le_refl 400) G).hk0 hf
theorem pz_MK.z {I : Nat → Nat → Int32} {ru : pu_Ru} {n : Nat} {r : List (Nat × Nat × Nat)} (h : pz_MK I b tl t (ru, n, r, 0)) : pz_MZ I b tl t (pz_ln ru) 401 ([], n, r, 0) := by
  obtain ⟨g1, g2, g3, g4, g5, g6, g7, g8⟩ := h.1 rfl
  exact ⟨fun _ => ⟨g1, g2, g3, trivial, g5, g6, by show pz_ln ru + 0 + r.length ≤ 401; omega⟩, fun x => absurd rfl x⟩
/-- a clause ends -/
theorem pz_m_j67 {I : Nat → Nat → Int32} {J : Nat → Nat → Int64} (hM : pu_M s R) (ht : t < 6) {i L : Nat} (hi : i < 12) (h11 : I 70 11 = nI t) (h73 : I 73 t = nI L) (h75 : I 75 t = nI i) {v : Int32} (hv : v = nI (48 * t + 4 * i)) : fj_m_isKeepHere_j67 70 v (s, I, J, R) = some (1, (s, tb_up2 (tb_up2 I 74 (48 * t + 4 * i + 3) (nI L)) 75 t (nI (i + 1)), J, R)) := by
  subst hv
  have u11 : tb_up2 I 74 (48 * t + 4 * i + 3) (nI L) 70 11 = nI t := by rw [pu_u2p _ _ _ _ (by decide)]; exact h11
  have u75 : tb_up2 I 74 (48 * t + 4 * i + 3) (nI L) 75 t = nI i := by rw [pu_u2p _ _ _ _ (by decide)]; exact h75
  have e3 : nI (48 * t + 4 * i) + 3 = nI (48 * t + 4 * i + 3) := nI_add _ 3
  unfold fj_m_isKeepHere_j67
  simp only [pu_gN (pu_m70 hM), pu_r5 hM, pu_r4 hM, pu_r6 hM, Option.bind_some, pu_gI (pu_m70 hM), h11, pu_lI (pu_m73 hM) (show t < 7 by omega) (show 7 ≤ 100000 by omega), h73, e3, pu_tI (pu_m74 hM) (show 48 * t + 4 * i + 3 < 288 by omega) (show 288 ≤ 100000 by omega), u11, pu_lI (pu_m75 hM) (show t < 6 by omega) (show 6 ≤ 100000 by omega), u75, pu_R1, pu_tI (pu_m75 hM) (show t < 6 by omega) (show 6 ≤ 100000 by omega)]
end PVD1
