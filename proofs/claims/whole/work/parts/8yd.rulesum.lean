/-! ===== The class reads a rule: values and sums ===== -/
/-- a state of reading: steps, parts, rest, fault -/
abbrev pz_Z : Type := List (Nat × Nat) × Nat × List (Nat × Nat × Nat) × Nat
def pz_em (z : pz_Z) (k v : Nat) : pz_Z := if z.2.2.2 = 0 then (z.1 ++ [(k, v)], z.2) else z
def pz_ad (z : pz_Z) : pz_Z := (z.1, z.2.1, z.2.2.1.tail, z.2.2.2)
def pz_fz (z : pz_Z) (why : Nat) : pz_Z := (z.1, z.2.1, [], pu_ft z.2.2.1 z.2.2.2 why)
/-- a part is taken: a value, or the sign of a fact -/
def pz_tp (z : pz_Z) : pz_Z := if z.2.1 < 60 then (z.1, z.2.1 + 1, z.2.2.1.tail, z.2.2.2) else pz_fz z 3
def pz_st (t : Nat × Nat × Nat) : Nat × Nat := if t.1 = 2 then (0, t.2.2) else (1, t.1 - 20)
def pz_vl (z : pz_Z) : pz_Z := match z.2.2.1 with
  | t :: _ => if t.1 = 2 ∨ (20 ≤ t.1 ∧ t.1 ≤ 31) then pz_tp (pz_em z (pz_st t).1 (pz_st t).2) else pz_fz z (if t.1 = 3 then 1 else 0)
  | [] => pz_fz z 0
def pz_jo (k : Nat) : Nat := if k = 9 then 4 else if k = 10 then 5 else 14
/-- times, over, rest: d more at most -/
def pz_tl : Nat → pz_Z → pz_Z
  | 0, z => z
  | d + 1, z => if 9 ≤ pu_hk z.2.2.1 ∧ pu_hk z.2.2.1 ≤ 11 then pz_tl d (pz_em (pz_vl (pz_ad z)) (pz_jo (pu_hk z.2.2.1)) 0) else z
/-- and, or less: a is the sign that waits, 0 for none -/
def pz_ea (z : pz_Z) (a : Nat) : pz_Z := if a = 0 then z else pz_em z a 0
def pz_sl : Nat → Nat → pz_Z → pz_Z
  | 0, _, z => z
  | d + 1, a, z => if pu_hk (pz_ea (pz_tl 400 (pz_vl z)) a).2.2.1 = 7 then pz_sl d 2 (pz_ad (pz_ea (pz_tl 400 (pz_vl z)) a)) else if pu_hk (pz_ea (pz_tl 400 (pz_vl z)) a).2.2.1 = 8 then pz_sl d 3 (pz_ad (pz_ea (pz_tl 400 (pz_vl z)) a)) else pz_ea (pz_tl 400 (pz_vl z)) a
def pz_su (z : pz_Z) : pz_Z := pz_sl 400 0 z
/-- how the class keeps it: its steps begin at b; steps and tokens that are left are e at most -/
def pz_RZ (I : Nat → Nat → Int32) (l : List (Nat × Nat × Nat)) (b e : Nat) (z : pz_Z) : Prop :=
  pu_TX I l z.2.2.1 z.2.2.2 ∧ pu_Rs z.2.2.1 z.2.2.2 ∧ z.2.2.2 < 10000 ∧ (z.2.2.2 = 0 → I 15 2 = nI (b + z.1.length) ∧ I 15 3 = nI z.2.1 ∧ z.2.1 ≤ 60 ∧ pu_cc (I 16) b z.1 ∧ b + z.1.length + z.2.2.1.length ≤ e)
/-- what reading changes -/
def pz_Rx (b : Nat) (I I' : Nat → Nat → Int32) : Prop := (∀ q, q ≠ 2 → q ≠ 15 → q ≠ 16 → I' q = I q) ∧ (∀ k, k = 0 ∨ (4 ≤ k ∧ k ≤ 8) → I' 2 k = I 2 k) ∧ (∀ k, k < b → I' 16 k = I 16 k)
theorem pz_Rx.rf {b : Nat} {I : Nat → Nat → Int32} : pz_Rx b I I := ⟨fun _ _ _ _ => rfl, fun _ _ => rfl, fun _ _ => rfl⟩
theorem pz_Rx.tr {b : Nat} {I I' I2 : Nat → Nat → Int32} (a : pz_Rx b I I') (c : pz_Rx b I' I2) : pz_Rx b I I2 := ⟨fun q h1 h2 h3 => (c.1 q h1 h2 h3).trans (a.1 q h1 h2 h3), fun k h => (c.2.1 k h).trans (a.2.1 k h), fun k h => (c.2.2 k h).trans (a.2.2 k h)⟩
theorem pz_Rx.xf {b : Nat} {I I' : Nat → Nat → Int32} (a : pu_Xf I I') : pz_Rx b I I' := ⟨fun q h1 _ _ => a.1 q h1, a.2, fun k _ => by rw [a.1 16 (by decide)]⟩
theorem pz_cc_app {f : Nat → Int32} {k v : Nat} (hk : k ≤ 14) (hv : v ≤ 99999) (h1 : k = 1 → v < 12) : ∀ (c : List (Nat × Nat)) (b : Nat), pu_cc f b c → f (b + c.length) = pu_en k v → pu_cc f b (c ++ [(k, v)]) := by
  intro c
  induction c with
  | nil => intro b _ h; exact ⟨h, hk, hv, h1, trivial⟩
  | cons x c ih =>
    obtain ⟨a1, a2⟩ := x
    intro b h h2
    obtain ⟨g1, g2, g3, g4, g5⟩ := h
    refine ⟨g1, g2, g3, g4, ih (b + 1) g5 ?_⟩
    rw [← h2, List.length_cons]
    congr 1
    omega
theorem pz_cc_eq {f f' : Nat → Int32} : ∀ (c : List (Nat × Nat)) (b : Nat), (∀ i, b ≤ i → i < b + c.length → f' i = f i) → pu_cc f b c → pu_cc f' b c := by
  intro c
  induction c with
  | nil => intro b _ _; trivial
  | cons x c ih =>
    obtain ⟨a1, a2⟩ := x
    intro b e h
    rw [List.length_cons] at e
    obtain ⟨g1, g2, g3, g4, g5⟩ := h
    exact ⟨by rw [e b (by omega) (by omega)]; exact g1, g2, g3, g4, ih (b + 1) (fun i h1 h2 => e i (by omega) (by omega)) g5⟩
theorem pz_TX_eq {I I' : Nat → Nat → Int32} {l r : List (Nat × Nat × Nat)} {f : Nat} (e2 : I' 2 = I 2) (e4 : I' 4 = I 4) (e5 : I' 5 = I 5) (e6 : I' 6 = I 6) (h : pu_TX I l r f) : pu_TX I' l r f := by
  obtain ⟨⟨a1, a2⟩, h2, h3, h4, h5⟩ := h
  refine ⟨⟨by rw [e2]; exact a1, fun i t ht => by rw [e4, e5, e6]; exact a2 i t ht⟩, h2, by rw [e2]; exact h3, by rw [e2]; exact h4, ?_⟩
  cases r with
  | nil => rw [e2]; exact h5
  | cons t r => rw [e2]; exact h5
section PUD1
variable {s : List (Nat × Nat)} {R : Nat → Nat → Option Nat} {l : List (Nat × Nat × Nat)} {b e : Nat} {z : pz_Z}
theorem pz_RZ.dn {I : Nat → Nat → Int32} (h : pz_RZ I l b e z) : pz_RZ I l b (e + 1) z := ⟨h.1, h.2.1, h.2.2.1, fun hz => by obtain ⟨g1, g2, g3, g4, g5⟩ := h.2.2.2 hz; exact ⟨g1, g2, g3, g4, by omega⟩⟩
theorem pz_RZ.ne {I : Nat → Nat → Int32} (h : pz_RZ I l b e z) (hz : z.2.2.2 = 0) : 1 ≤ z.2.2.1.length := by
  rcases h.2.1 with ⟨_, x⟩ | ⟨x, _⟩
  · exact List.length_pos_iff.mpr x
  · exact absurd hz x
theorem pz_emit {I : Nat → Nat → Int32} {J : Nat → Nat → Int64} (hX : pu_X s R) (h : pz_RZ I l b e z) (hm : z.2.2.2 = 0 → b + z.1.length < 400) {k v : Nat} {a : Int32} (ha : a = pu_en k v) (hk : k ≤ 14) (hv : v ≤ 99999) (h1 : k = 1 → v < 12) :
    ∃ I', fb_rr_emit 15 a (s, I, J, R) = some (s, I', J, R) ∧ pz_RZ I' l b (e + 1) (pz_em z k v) ∧ pz_Rx b I I' := by
  obtain ⟨t, rs, hf, al⟩ := h
  have e0 : (nI z.2.2.2 = (0 : Int32)) = (z.2.2.2 = 0) := pu_eqI (b := 0) (by omega) (by omega)
  unfold fb_rr_emit
  simp only [pu_gN (pu_c15 hX), pu_f15_0 hX, pu_f15_1 hX, Option.bind_some, pu_gI (pu_c2 hX), t.2.2.1, e0, pu_gI (pu_c15 hX)]
  by_cases hz : z.2.2.2 = 0
  · obtain ⟨g1, g2, g3, g4, g5⟩ := al hz
    have h401 := t.2.1
    have := hm hz
    have lt : nI (b + z.1.length) < nI 400 := by rw [pu_ltI (by omega) (by omega)]; omega
    have u : tb_up2 I 16 (b + z.1.length) a 15 2 = nI (b + z.1.length) := by rw [pu_u2p _ _ _ _ (by decide)]; exact g1
    rw [show pz_em z k v = (z.1 ++ [(k, v)], z.2) by unfold pz_em; rw [if_pos hz]]
    refine ⟨tb_up2 (tb_up2 I 16 (b + z.1.length) a) 15 2 (nI (b + z.1.length + 1)), ?_, ⟨pz_TX_eq ?_ ?_ ?_ ?_ t, rs, hf, fun _ => ⟨?_, ?_, g3, ?_, ?_⟩⟩, fun q x1 x2 x3 => by rw [pu_u2p _ _ _ _ x2, pu_u2p _ _ _ _ x3], fun k _ => by rw [pu_u2p _ _ _ _ (by decide), pu_u2p _ _ _ _ (by decide)], fun k hk => by rw [pu_u2p _ _ _ _ (by decide), pu_u2k _ _ _ _ (by omega)]⟩
    · simp only [hz, ↓reduceIte, g1, pu_lt0 (show b + z.1.length < 2147483648 by omega), pu_al (pu_c16 hX), Option.bind_some, lt, pu_tI (pu_c16 hX) (show b + z.1.length < 400 by omega) (show 400 ≤ 100000 by omega), pu_gI (pu_c15 hX), u, pu_R1, pu_pI (pu_c15 hX)]
    · rw [pu_u2p _ _ _ _ (by decide), pu_u2p _ _ _ _ (by decide)]
    · rw [pu_u2p _ _ _ _ (by decide), pu_u2p _ _ _ _ (by decide)]
    · rw [pu_u2p _ _ _ _ (by decide), pu_u2p _ _ _ _ (by decide)]
    · rw [pu_u2p _ _ _ _ (by decide), pu_u2p _ _ _ _ (by decide)]
    · rw [pu_u2s, List.length_append]; rfl
    · rw [pu_u2k _ _ _ _ (by decide), pu_u2p _ _ _ _ (by decide)]; exact g2
    · rw [pu_u2p _ _ _ _ (by decide)]
      exact pz_cc_app hk hv h1 _ _ (pz_cc_eq _ _ (fun i _ h2 => pu_u2k _ _ _ _ (by omega)) g4) (by rw [pu_u2s]; exact ha)
    · rw [List.length_append]
      show b + (z.1.length + 1) + z.2.2.1.length ≤ e + 1
      omega
  · rw [show pz_em z k v = z by unfold pz_em; rw [if_neg hz]]
    refine ⟨I, ?_, ⟨t, rs, hf, fun x => absurd x hz⟩, pz_Rx.rf⟩
    simp only [hz, ↓reduceIte]
theorem pz_fail {I : Nat → Nat → Int32} {J : Nat → Nat → Int64} (hX : pu_X s R) (hg : pu_Tg l) (h : pz_RZ I l b e z) {why : Nat} (hw : why ≤ 4) : ∃ I', fb_t_fail 2 (nI why) (s, I, J, R) = some (s, I', J, R) ∧ (∀ e', pz_RZ I' l b e' (pz_fz z why)) ∧ pz_Rx b I I' := by
  obtain ⟨t, rs, hf, al⟩ := h
  obtain ⟨I', a1, a2, a3, a4, a5⟩ := pu_t_fail (J := J) hX t rs hg hf hw
  refine ⟨I', a1, fun e' => ⟨a2, a3, a4, fun hz => ?_⟩, pz_Rx.xf a5⟩
  have hz : pu_ft z.2.2.1 z.2.2.2 why = 0 := hz
  rcases a3 with ⟨_, x⟩ | ⟨x, _⟩
  · exact absurd rfl x
  · exact absurd hz x
/-- on over a token that is not the end -/
theorem pz_adv {I : Nat → Nat → Int32} {J : Nat → Nat → Int64} (hX : pu_X s R) (he : pu_En l) (h : pz_RZ I l b (e + 1) z) (hk : pu_hk z.2.2.1 ≠ 0) : ∃ I', fb_t_advance 2 (s, I, J, R) = some (s, I', J, R) ∧ pz_RZ I' l b e (pz_ad z) ∧ pz_Rx b I I' ∧ z.2.2.2 = 0 := by
  obtain ⟨c, n, r, f⟩ := z
  obtain ⟨t, rs, hf, al⟩ := h
  cases r with
  | nil => exact absurd rfl hk
  | cons t1 r =>
    have f0 : f = 0 := by
      rcases rs with ⟨x, _⟩ | ⟨_, x⟩
      · exact x
      · cases x
    subst f0
    obtain ⟨I', a1, a2, a3⟩ := pu_t_adv (J := J) hX t
    obtain ⟨g1, g2, g3, g4, g5⟩ := al rfl
    obtain ⟨i, _, _, h6⟩ := t.2.2.2.1
    have rn : r ≠ [] := he t1 r ⟨i, h6.symm⟩ hk
    refine ⟨I', a1, ⟨a2, Or.inl ⟨rfl, rn⟩, hf, fun _ => ⟨by rw [a3.1 15 (by decide)]; exact g1, by rw [a3.1 15 (by decide)]; exact g2, g3, by rw [a3.1 16 (by decide)]; exact g4, ?_⟩⟩, pz_Rx.xf a3, rfl⟩
    have g5 : b + c.length + (r.length + 1) ≤ e + 1 := g5
    show b + c.length + r.length ≤ e
    omega
theorem pz_RZ.kd {I : Nat → Nat → Int32} (h : pz_RZ I l b e z) : I 2 1 = nI (pu_hk z.2.2.1) := h.1.kd
/-- a part is taken -/
theorem pz_take {I : Nat → Nat → Int32} {J : Nat → Nat → Int64} (hX : pu_X s R) (hg : pu_Tg l) (he : pu_En l) (h : pz_RZ I l b (e + 1) z) (hk : pu_hk z.2.2.1 ≠ 0) : ∃ I', fb_rr_takePart 15 (s, I, J, R) = some (s, I', J, R) ∧ pz_RZ I' l b e (pz_tp z) ∧ pz_Rx b I I' := by
  have f0 : z.2.2.2 = 0 := by
    rcases h.2.1 with ⟨x, _⟩ | ⟨_, x⟩
    · exact x
    · rw [x] at hk; exact absurd rfl hk
  obtain ⟨g1, g2, g3, g4, g5⟩ := h.2.2.2 f0
  have e60 : (nI z.2.1 < (60 : Int32)) = (z.2.1 < 60) := pu_ltI (b := 60) (by omega) (by omega)
  unfold fb_rr_takePart
  by_cases hn : z.2.1 < 60
  · rw [show pz_tp z = (z.1, z.2.1 + 1, z.2.2.1.tail, z.2.2.2) by unfold pz_tp; rw [if_pos hn]]
    have h' : pz_RZ (tb_up2 I 15 3 (nI (z.2.1 + 1))) l b (e + 1) (z.1, z.2.1 + 1, z.2.2) := ⟨pz_TX_eq (pu_u2p _ _ _ _ (by decide)) (pu_u2p _ _ _ _ (by decide)) (pu_u2p _ _ _ _ (by decide)) (pu_u2p _ _ _ _ (by decide)) h.1, h.2.1, h.2.2.1, fun _ => ⟨by rw [pu_u2k _ _ _ _ (by decide)]; exact g1, pu_u2s _ _ _ _, by show z.2.1 + 1 ≤ 60; omega, by rw [pu_u2p _ _ _ _ (by decide)]; exact g4, g5⟩⟩
    obtain ⟨I', a1, a2, a3, _⟩ := pz_adv (J := J) hX he h' hk
    refine ⟨I', ?_, a2, pz_Rx.tr ⟨fun q _ x2 _ => pu_u2p _ _ _ _ x2, fun k _ => by rw [pu_u2p _ _ _ _ (by decide)], fun k _ => by rw [pu_u2p _ _ _ _ (by decide)]⟩ a3⟩
    simp only [pu_gI (pu_c15 hX), g2, Option.bind_some, e60, hn, ↓reduceIte, pu_R1, pu_pI (pu_c15 hX), pu_gN (pu_c15 hX), pu_f15_0 hX, pu_on (pu_c2 hX), a1]
  · rw [show pz_tp z = pz_fz z 3 by unfold pz_tp; rw [if_neg hn]]
    obtain ⟨I', a1, a2, a3⟩ := pz_fail (J := J) (why := 3) hX hg h (by omega)
    rw [show nI 3 = 3 from rfl] at a1
    refine ⟨I', ?_, a2 e, a3⟩
    simp only [pu_gI (pu_c15 hX), g2, Option.bind_some, e60, hn, ↓reduceIte, pu_gN (pu_c15 hX), pu_f15_0 hX, pu_on (pu_c2 hX), a1]
theorem pz_value {I : Nat → Nat → Int32} {J : Nat → Nat → Int64} (hX : pu_X s R) (hg : pu_Tg l) (he : pu_En l) (h401 : e ≤ 401) (h : pz_RZ I l b e z) : ∃ I', fb_rr_readValue 15 (s, I, J, R) = some (s, I', J, R) ∧ pz_RZ I' l b e (pz_vl z) ∧ pz_Rx b I I' := by
  have hk := h.kd
  have hk38 := pu_hk_le h.1 hg
  have e2 : (nI (pu_hk z.2.2.1) = (2 : Int32)) = (pu_hk z.2.2.1 = 2) := pu_eqI (b := 2) (by omega) (by omega)
  have e3 : (nI (pu_hk z.2.2.1) = (3 : Int32)) = (pu_hk z.2.2.1 = 3) := pu_eqI (b := 3) (by omega) (by omega)
  have ew : ∀ w : tb_Hp, fb_x_within (nI (pu_hk z.2.2.1)) 20 31 w = some (pu_b (decide (20 ≤ pu_hk z.2.2.1 ∧ pu_hk z.2.2.1 ≤ 31)), w) := by
    intro w
    unfold fb_x_within
    rw [show (20 : Int32) = nI 20 from rfl, show (31 : Int32) = nI 31 from rfl]
    simp only [pu_ltI (show pu_hk z.2.2.1 < 2147483648 by omega) (show 20 < 2147483648 by omega), pu_leI (show pu_hk z.2.2.1 < 2147483648 by omega) (show 31 < 2147483648 by omega)]
    by_cases x1 : pu_hk z.2.2.1 < 20
    · rw [if_pos x1, decide_eq_false (by omega)]; rfl
    · rw [if_neg x1]
      by_cases x2 : pu_hk z.2.2.1 ≤ 31
      · rw [if_pos x2, decide_eq_true (by omega)]; rfl
      · rw [if_neg x2, decide_eq_false (by omega)]; rfl
  -- no value
  have bad : ¬ (pu_hk z.2.2.1 = 2 ∨ (20 ≤ pu_hk z.2.2.1 ∧ pu_hk z.2.2.1 ≤ 31)) → pz_vl z = pz_fz z (if pu_hk z.2.2.1 = 3 then 1 else 0) → ∃ I', fb_rr_readValue 15 (s, I, J, R) = some (s, I', J, R) ∧ pz_RZ I' l b e (pz_vl z) ∧ pz_Rx b I I' := by
    intro hn ev
    rw [ev]
    have n2 : ¬ pu_hk z.2.2.1 = 2 := fun x => hn (Or.inl x)
    have nw : ¬ (20 ≤ pu_hk z.2.2.1 ∧ pu_hk z.2.2.1 ≤ 31) := fun x => hn (Or.inr x)
    by_cases h3 : pu_hk z.2.2.1 = 3
    · rw [if_pos h3]
      obtain ⟨I', a1, a2, a3⟩ := pz_fail (J := J) (why := 1) hX hg h (by omega)
      rw [show nI 1 = 1 from rfl] at a1
      refine ⟨I', ?_, a2 e, a3⟩
      unfold fb_rr_readValue
      simp only [pu_gN (pu_c15 hX), pu_f15_0 hX, Option.bind_some, pu_gI (pu_c2 hX), hk, e2, n2, ↓reduceIte, ew, decide_eq_false nw, pu_bf, e3, if_pos h3, pu_on (pu_c2 hX), a1]
    · rw [if_neg h3]
      obtain ⟨I', a1, a2, a3⟩ := pz_fail (J := J) (why := 0) hX hg h (by omega)
      rw [show nI 0 = 0 from rfl] at a1
      refine ⟨I', ?_, a2 e, a3⟩
      unfold fb_rr_readValue
      simp only [pu_gN (pu_c15 hX), pu_f15_0 hX, Option.bind_some, pu_gI (pu_c2 hX), hk, e2, n2, ↓reduceIte, ew, decide_eq_false nw, pu_bf, e3, if_neg h3, pu_on (pu_c2 hX), a1]
  obtain ⟨c, n, r, f⟩ := z
  cases r with
  | nil => exact bad (by show ¬ ((0 : Nat) = 2 ∨ (20 ≤ (0 : Nat) ∧ (0 : Nat) ≤ 31)); omega) rfl
  | cons t r =>
    have hh : pu_hk (t :: r) = t.1 := rfl
    dsimp only [pu_hk] at *
    by_cases hv : t.1 = 2 ∨ (20 ≤ t.1 ∧ t.1 ≤ 31)
    · have ev : pz_vl (c, n, t :: r, f) = pz_tp (pz_em (c, n, t :: r, f) (pz_st t).1 (pz_st t).2) := by
        unfold pz_vl
        dsimp only
        rw [if_pos hv]
      have f0 : f = 0 := by
        rcases h.2.1 with ⟨x, _⟩ | ⟨_, x⟩
        · exact x
        · cases x
      obtain ⟨i, _, _, h6⟩ := h.1.2.2.2.1
      have h6 : t :: r = List.drop i l := h6
      have rn : r ≠ [] := he t r ⟨i, h6.symm⟩ (by omega)
      have rl := List.length_pos_iff.mpr rn
      obtain ⟨g1, g2, g3, g4, g5⟩ := h.2.2.2 f0
      have g5 : b + c.length + (r.length + 1) ≤ e := g5
      have gt := hg t (List.mem_of_mem_drop (h6 ▸ List.mem_cons_self))
      have em : pz_em (c, n, t :: r, f) (pz_st t).1 (pz_st t).2 = (c ++ [((pz_st t).1, (pz_st t).2)], n, t :: r, f) := by
        unfold pz_em
        rw [if_pos f0]
      rw [ev]
      by_cases t2 : t.1 = 2
      · have es : pz_st t = (0, t.2.2) := by unfold pz_st; rw [if_pos t2]
        obtain ⟨I1, a1, a2, a3⟩ := pz_emit (J := J) (k := (pz_st t).1) (v := (pz_st t).2) (a := nI t.2.2) hX h (fun _ => by show b + c.length < 400; omega) (by rw [es]; rfl) (by rw [es]; show 0 ≤ 14; omega) (by rw [es]; exact gt.2.2) (by rw [es]; intro x; exact absurd x (by show ¬ 0 = 1; decide))
        obtain ⟨I2, c1, c2, c3⟩ := pz_take (J := J) hX hg he a2 (by rw [em]; show t.1 ≠ 0; omega)
        have hn : I 2 2 = nI t.2.2 := h.1.2.2.2.2.2
        refine ⟨I2, ?_, c2, a3.tr c3⟩
        unfold fb_rr_readValue fj_rr_readValue_j22
        simp only [pu_gN (pu_c15 hX), pu_f15_0 hX, Option.bind_some, pu_gI (pu_c2 hX), hk, e2, t2, ↓reduceIte, hn, pu_on (pu_c15 hX), a1, c1, show nI 2 = 2 from rfl]
      · have hw : 20 ≤ t.1 ∧ t.1 ≤ 31 := by omega
        have es : pz_st t = (1, t.1 - 20) := by unfold pz_st; rw [if_neg t2]
        obtain ⟨I1, a1, a2, a3⟩ := pz_emit (J := J) (k := (pz_st t).1) (v := (pz_st t).2) (a := -(nI t.1)) hX h (fun _ => by show b + c.length < 400; omega) (by rw [es]; show -(nI t.1) = -(nI (20 + (t.1 - 20))); rw [show 20 + (t.1 - 20) = t.1 by omega]) (by rw [es]; show 1 ≤ 14; omega) (by rw [es]; show t.1 - 20 ≤ 99999; omega) (by rw [es]; intro _; show t.1 - 20 < 12; omega)
        obtain ⟨I2, c1, c2, c3⟩ := pz_take (J := J) hX hg he a2 (by rw [em]; show t.1 ≠ 0; omega)
        refine ⟨I2, ?_, c2, a3.tr c3⟩
        unfold fb_rr_readValue fj_rr_readValue_j22
        simp only [pu_gN (pu_c15 hX), pu_f15_0 hX, Option.bind_some, pu_gI (pu_c2 hX), hk, e2, t2, ↓reduceIte, ew, pu_on (pu_c15 hX), a1, c1]
        rw [if_neg (by rw [pu_b0]; intro x; exact @of_decide_eq_false _ _ x hw)]
    · refine bad hv ?_
      unfold pz_vl
      dsimp only
      rw [if_neg hv]
      rfl
end PUD1
