/-! ===== The reference reads a value ===== -/
/-- how the reference keeps it: text t, its steps begin at B; steps and tokens left are e at most -/
def pz_MZ (I : Nat → Nat → Int32) (b : Nat → Nat) (tl t B e : Nat) (z : pz_Z) : Prop :=
  (z.2.2.2 = 0 → pu_RS I b tl z.2.2.1 ∧ I 70 11 = nI t ∧ I 73 t = nI (B + z.1.length) ∧ pu_cd (I 72) (400 * t + B) z.1 ∧ I 70 12 = nI z.2.1 ∧ z.2.1 ≤ 60 ∧ B + z.1.length + z.2.2.1.length ≤ e) ∧ (z.2.2.2 ≠ 0 → I 70 9 = nI z.2.2.2)
def pz_Mx (t B : Nat) (I I' : Nat → Nat → Int32) : Prop := (∀ q, q ≠ 70 → q ≠ 72 → q ≠ 73 → I' q = I q) ∧ (∀ k, k ≠ 8 → k ≠ 9 → k ≠ 10 → k ≠ 12 → I' 70 k = I 70 k) ∧ (∀ k, k < 400 * t + B → I' 72 k = I 72 k)
theorem pz_Mx.rf {t B : Nat} {I : Nat → Nat → Int32} : pz_Mx t B I I := ⟨fun _ _ _ _ => rfl, fun _ _ _ _ _ => rfl, fun _ _ => rfl⟩
theorem pz_Mx.tr {t B : Nat} {I I' I2 : Nat → Nat → Int32} (a : pz_Mx t B I I') (c : pz_Mx t B I' I2) : pz_Mx t B I I2 := ⟨fun q h1 h2 h3 => (c.1 q h1 h2 h3).trans (a.1 q h1 h2 h3), fun k h1 h2 h3 h4 => (c.2.1 k h1 h2 h3 h4).trans (a.2.1 k h1 h2 h3 h4), fun k h => (c.2.2 k h).trans (a.2.2 k h)⟩
theorem pz_Mx.of {t B : Nat} {I I' : Nat → Nat → Int32} (a : pu_Of I I') : pz_Mx t B I I' := ⟨fun q h1 _ _ => a.1 q h1, fun k h1 h2 h3 _ => a.2 k h1 h2 h3, fun k _ => by rw [a.1 72 (by decide)]⟩
theorem pz_Mx.nf {t B : Nat} {I I' : Nat → Nat → Int32} (a : pu_Nf I I') : pz_Mx t B I I' := pz_Mx.of (pu_Of.nf a)
theorem pz_RS_eq {I I' : Nat → Nat → Int32} {b : Nat → Nat} {tl : Nat} {r : List (Nat × Nat × Nat)} (e71 : I' 71 = I 71) (e1 : I' 70 1 = I 70 1) (e8 : I' 70 8 = I 70 8) (e9 : I' 70 9 = I 70 9) (h : pu_RS I b tl r) : pu_RS I' b tl r := by
  obtain ⟨c1, c2, q, c3, c4, c5⟩ := h
  exact ⟨⟨by rw [e1]; exact c1.1, c1.2.1, fun k hk => by rw [e71]; exact c1.2.2 k hk⟩, by rw [e9]; exact c2, q, c3, by rw [e8]; exact c4, c5⟩
theorem pz_cd_app {f : Nat → Int32} {k v : Nat} (hk : k ≤ 14) (hv : v ≤ 99999) (h1 : k = 1 → v < 12) : ∀ (c : List (Nat × Nat)) (b : Nat), pu_cd f b c → f (b + c.length) = nI (k + 16 * v) → pu_cd f b (c ++ [(k, v)]) := by
  intro c
  induction c with
  | nil => intro b _ h; exact ⟨h, hk, hv, h1, trivial⟩
  | cons x c ih =>
    obtain ⟨a1, a2⟩ := x
    intro b h h2
    obtain ⟨g1, g2, g3, g4, g5⟩ := h
    refine ⟨g1, g2, g3, g4, ih (b + 1) g5 ?_⟩
    rw [← h2, List.length_cons]
    congr 1
    omega
section PUS1
variable {s : List (Nat × Nat)} {R : Nat → Nat → Option Nat} {b : Nat → Nat} {tl t B e : Nat}
/-- a step is written -/
theorem pz_m_put {I : Nat → Nat → Int32} {J : Nat → Nat → Int64} (hM : pu_M s R) (ht : t < 6) {c : List (Nat × Nat)} {n : Nat} {r : List (Nat × Nat × Nat)} (h : pz_MZ I b tl t B e (c, n, r, 0)) (hl : B + c.length < 400) {k v : Nat} {x y : Int32} (hx : x = nI k) (hy : y = nI v) (hk : k ≤ 14) (hv : v ≤ 99999) (h1 : k = 1 → v < 12) :
    ∃ I', fb_m_puts 70 x y (s, I, J, R) = some (s, I', J, R) ∧ pz_MZ I' b tl t B (e + 1) (c ++ [(k, v)], n, r, 0) ∧ pz_Mx t B I I' := by
  obtain ⟨g1, g2, g3, g4, g5, g6, g7⟩ := h.1 rfl
  have hp := pz_puts (J := J) hM ht g2 g3 hl hx hy
  have g7 : B + c.length + r.length ≤ e := g7
  refine ⟨_, hp, ⟨fun _ => ⟨pz_RS_eq ?_ ?_ ?_ ?_ g1, ?_, ?_, ?_, ?_, g6, ?_⟩, fun x => absurd rfl x⟩, fun q q1 q2 q3 => ?_, fun k k1 k2 k3 k4 => ?_, fun k hk => ?_⟩
  · rw [pu_u2p _ _ _ _ (by decide), pu_u2p _ _ _ _ (by decide)]
  · rw [pu_u2p _ _ _ _ (by decide), pu_u2p _ _ _ _ (by decide)]
  · rw [pu_u2p _ _ _ _ (by decide), pu_u2p _ _ _ _ (by decide)]
  · rw [pu_u2p _ _ _ _ (by decide), pu_u2p _ _ _ _ (by decide)]
  · rw [pu_u2p _ _ _ _ (by decide), pu_u2p _ _ _ _ (by decide)]; exact g2
  · rw [pu_u2s, List.length_append]; rfl
  · rw [pu_u2p _ _ _ _ (by decide)]
    refine pz_cd_app hk hv h1 _ _ (pu_cd_eq _ _ (fun i _ h2 => ?_) g4) ?_
    · have h2 : i < 400 * t + B + c.length := h2
      show tb_up2 I 72 (400 * t + (B + c.length)) _ 72 i = _
      rw [pu_u2k _ _ _ _ (by omega)]
    · show tb_up2 I 72 (400 * t + (B + c.length)) _ 72 (400 * t + B + c.length) = _
      rw [show 400 * t + B + c.length = 400 * t + (B + c.length) by omega, pu_u2s]
  · rw [pu_u2p _ _ _ _ (by decide), pu_u2p _ _ _ _ (by decide)]; exact g5
  · show B + (c ++ [(k, v)]).length + r.length ≤ e + 1
    rw [List.length_append]
    show B + (c.length + 1) + r.length ≤ e + 1
    omega
  · rw [pu_u2p _ _ _ _ q3, pu_u2p _ _ _ _ q2]
  · rw [pu_u2p _ _ _ _ (by decide), pu_u2p _ _ _ _ (by decide)]
  · rw [pu_u2p _ _ _ _ (by decide)]
    show tb_up2 I 72 (400 * t + (B + c.length)) _ 72 k = _
    rw [pu_u2k _ _ _ _ (by omega)]
end PUS1
